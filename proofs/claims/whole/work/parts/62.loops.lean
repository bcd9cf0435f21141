section PB
variable {T B F a : Nat} {r : Nat → Nat} {hx hm : qH}
theorem q353 {k : Nat} (h : k < 353) : qin (nI k) 353 = true := qin_nI h (by omega)
theorem i353 {k : Nat} (h : k < 353) : ix (nI k) = k := ix_nI (by omega)
theorem q8 {k : Nat} (h : k < 8) : qin (nI k) 8 = true := qin_nI h (by omega)
theorem q24 {k : Nat} (h : k < 24) : qin (nI k) 24 = true := qin_nI h (by omega)
theorem q1f : ¬ ((1 : Int32) = 0) := by decide
theorem QQ.blocksOn (q : QQ T r B F hx a hm) (t : Int32) : ∃ v : Int32, f7_blocksOn a t hx = some v ∧ f9_blocksOn t hm = some v := by
  have hT := q.t31
  have hb := q.1
  unfold f7_blocksOn f9_blocksOn
  obtain ⟨s, hI, h1, h2⟩ := up_loop20 (fun m s x => f7_blocksOn_L4 a t hx (fun y _ => some y) m s x) (fun m s x => f9_blocksOn_L4 t hm (fun y _ => some y) m s x) (fun s _ => some s) (fun s _ => some s) (fun i s => True) F (by omega) 0 trivial (fun i s hi hv => by
    have g1 := nI_ge hi (show F < 2 ^ 31 by omega)
    obtain ⟨e7, e8, e9, e10, e11⟩ := q.fl hi
    refine ⟨s + if hm.1 9 (48 + i) = t then hm.1 9 (96 + i) else 0, trivial, fun m => ?_, fun m => ?_⟩
    · show f7_blocksOn_L4 a t hx _ (m + 1) _ (nI i) = f7_blocksOn_L4 a t hx _ m _ (nI (i + 1))
      simp only [f7_blocksOn_L4, q.Fx, g1, q24 (show i < 24 by omega), ix_nI (show i < 2 ^ 31 by omega), e7, e9, qj_e, qlt_e, qg_t, bind_s, nI_1, if_true, if_false]
      by_cases hc : hm.1 9 (48 + i) = t <;> simp only [hc, if_true, if_false]
    · show f9_blocksOn_L4 t hm _ (m + 1) _ (nI i) = f9_blocksOn_L4 t hm _ m _ (nI (i + 1))
      simp only [f9_blocksOn_L4, q.Fm, g1, f9_isOn_eq (show i < 24 by omega), la_96, q353 (show 96 + i < 353 by omega), i353 (show 96 + i < 353 by omega), qj_e, qlt_e, qg_t, bind_s, nI_1, if_true, if_false]
      by_cases hc : hm.1 9 (48 + i) = t <;> simp only [hc, if_true, if_false, q1f]
    ) (fun m s _ => by
    refine ⟨?_, ?_⟩
    · show f7_blocksOn_L4 a t hx _ (m + 1) s (nI F) = _
      rw [f7_blocksOn_L4, q.Fx, if_pos (nI_le (Nat.le_refl _) (by omega))]
    · show f9_blocksOn_L4 t hm _ (m + 1) s (nI F) = _
      rw [f9_blocksOn_L4, q.Fm, if_pos (nI_le (Nat.le_refl _) (by omega))])
  exact ⟨s, h1, h2⟩
theorem QQ.askedOn (q : QQ T r B F hx a hm) (t : Int32) : ∃ c : Nat, c ≤ F ∧ f7_askedOn a t hx = some (nI c) ∧ f9_askedOn t hm = some (nI c) := by
  have hT := q.t31
  have hb := q.1
  unfold f7_askedOn f9_askedOn
  obtain ⟨s, hI, h1, h2⟩ := up_loop20 (fun m s x => f7_askedOn_L4 a t hx (fun y _ => some y) m s x) (fun m s x => f9_askedOn_L4 t hm (fun y _ => some y) m s x) (fun s _ => some s) (fun s _ => some s) (fun i s => ∃ c : Nat, c ≤ i ∧ s = nI c) F (by omega) 0 ⟨0, Nat.le_refl _, rfl⟩ (fun i s hi hv => by
    have g1 := nI_ge hi (show F < 2 ^ 31 by omega)
    obtain ⟨e7, e8, e9, e10, e11⟩ := q.fl hi
    obtain ⟨c, hc0, rfl⟩ := hv
    have hn := q.ask hi
    refine ⟨nI c + if hm.1 9 (48 + i) = t then (if hm.1 9 (144 + i) = 0 then 0 else 1) else 0, by
      by_cases hc : hm.1 9 (48 + i) = t
      · by_cases hd : hm.1 9 (144 + i) = 0
        · exact ⟨c, by omega, by simp [hc, hd]⟩
        · exact ⟨c + 1, by omega, by simp only [hc, hd, if_true, if_false, nI_1]⟩
      · exact ⟨c, by omega, by simp [hc]⟩, fun m => ?_, fun m => ?_⟩
    · show f7_askedOn_L4 a t hx _ (m + 1) _ (nI i) = f7_askedOn_L4 a t hx _ m _ (nI (i + 1))
      simp only [f7_askedOn_L4, q.Fx, g1, q24 (show i < 24 by omega), ix_nI (show i < 2 ^ 31 by omega), e7, e11, qj_e, qlt_e, qg_t, bind_s, nI_1, if_true, if_false]
      by_cases hc : hm.1 9 (48 + i) = t <;> by_cases hd : hm.1 9 (144 + i) = 0 <;> simp only [hc, hd, if_true, if_false, nI_1]
    · show f9_askedOn_L4 t hm _ (m + 1) _ (nI i) = f9_askedOn_L4 t hm _ m _ (nI (i + 1))
      simp only [f9_askedOn_L4, q.Fm, g1, f9_isOn_eq (show i < 24 by omega), hn, la_144, q353 (show 144 + i < 353 by omega), i353 (show 144 + i < 353 by omega), qj_e, qlt_e, qg_t, bind_s, nI_1, if_true, if_false]
      by_cases hc : hm.1 9 (48 + i) = t <;> by_cases hd : hm.1 9 (144 + i) = 0 <;> simp only [hc, hd, if_true, if_false, q1f, nI_1]
    ) (fun m s _ => by
    refine ⟨?_, ?_⟩
    · show f7_askedOn_L4 a t hx _ (m + 1) s (nI F) = _
      rw [f7_askedOn_L4, q.Fx, if_pos (nI_le (Nat.le_refl _) (by omega))]
    · show f9_askedOn_L4 t hm _ (m + 1) s (nI F) = _
      rw [f9_askedOn_L4, q.Fm, if_pos (nI_le (Nat.le_refl _) (by omega))])
  obtain ⟨c, hc, rfl⟩ := hI
  exact ⟨c, hc, h1, h2⟩
theorem QQ.mended (q : QQ T r B F hx a hm) : ∃ v : Int32, f7_mendedBlocks a hx = some v ∧ f9_mendedOfAll hm = some v := by
  have hT := q.t31
  have hb := q.1
  unfold f7_mendedBlocks f9_mendedOfAll
  obtain ⟨s, hI, h1, h2⟩ := up_loop20 (fun m s x => f7_mendedBlocks_L4 a hx (fun y _ => some y) m s x) (fun m s x => f9_mendedOfAll_L4 hm (fun y _ => some y) m s x) (fun s _ => some s) (fun s _ => some s) (fun i s => True) T (by omega) 0 trivial (fun i s hi hv => by
    have g1 := nI_ge hi (show T < 2 ^ 31 by omega)
    obtain ⟨ep, e3, e4, e5, e6⟩ := q.tp hi
    refine ⟨s + hm.1 9 (32 + i), trivial, fun m => ?_, fun m => ?_⟩
    · show f7_mendedBlocks_L4 a hx _ (m + 1) _ (nI i) = f7_mendedBlocks_L4 a hx _ m _ (nI (i + 1))
      simp only [f7_mendedBlocks_L4, q.Tx, g1, q8 (show i < 8 by omega), ix_nI (show i < 2 ^ 31 by omega), e5, qj_e, qlt_e, qg_t, bind_s, nI_1, if_true, if_false]
    · show f9_mendedOfAll_L4 hm _ (m + 1) _ (nI i) = f9_mendedOfAll_L4 hm _ m _ (nI (i + 1))
      simp only [f9_mendedOfAll_L4, q.Tm, g1, la_32, q353 (show 32 + i < 353 by omega), i353 (show 32 + i < 353 by omega), qj_e, qlt_e, qg_t, bind_s, nI_1, if_true, if_false]
    ) (fun m s _ => by
    refine ⟨?_, ?_⟩
    · show f7_mendedBlocks_L4 a hx _ (m + 1) s (nI T) = _
      rw [f7_mendedBlocks_L4, q.Tx, if_pos (nI_le (Nat.le_refl _) (by omega))]
    · show f9_mendedOfAll_L4 hm _ (m + 1) s (nI T) = _
      rw [f9_mendedOfAll_L4, q.Tm, if_pos (nI_le (Nat.le_refl _) (by omega))])
  exact ⟨s, h1, h2⟩
theorem QQ.inDrives (q : QQ T r B F hx a hm) : ∃ v : Int32, f7_tapesInDrives a hx = some v ∧ f9_driven hm = some v := by
  have hT := q.t31
  have hb := q.1
  unfold f7_tapesInDrives f9_driven
  obtain ⟨s, hI, h1, h2⟩ := up_loop20 (fun m s x => f7_tapesInDrives_L4 a hx (fun y _ => some y) m s x) (fun m s x => f9_driven_L4 hm (fun y _ => some y) m s x) (fun s _ => some s) (fun s _ => some s) (fun i s => True) T (by omega) 0 trivial (fun i s hi hv => by
    have g1 := nI_ge hi (show T < 2 ^ 31 by omega)
    have ed := q.dr hi
    refine ⟨s ||| (if hx.1 (a + 1) i = -1 then 0 else (1 : Int32) <<< (nI i &&& 31)), trivial, fun m => ?_, fun m => ?_⟩
    · show f7_tapesInDrives_L4 a hx _ (m + 1) _ (nI i) = f7_tapesInDrives_L4 a hx _ m _ (nI (i + 1))
      simp only [f7_tapesInDrives_L4, q.Tx, g1, q8 (show i < 8 by omega), ix_nI (show i < 2 ^ 31 by omega), qj_e, qlt_e, qg_t, bind_s, nI_1, if_true, if_false]
    · show f9_driven_L4 hm _ (m + 1) _ (nI i) = f9_driven_L4 hm _ m _ (nI (i + 1))
      simp only [f9_driven_L4, q.Tm, g1, ed, qj_e, qlt_e, qg_t, bind_s, nI_1, if_true, if_false]
      by_cases hc : hx.1 (a + 1) i = -1 <;> simp only [hc, if_true, if_false, q1f]
    ) (fun m s _ => by
    refine ⟨?_, ?_⟩
    · show f7_tapesInDrives_L4 a hx _ (m + 1) s (nI T) = _
      rw [f7_tapesInDrives_L4, q.Tx, if_pos (nI_le (Nat.le_refl _) (by omega))]
    · show f9_driven_L4 hm _ (m + 1) s (nI T) = _
      rw [f9_driven_L4, q.Tm, if_pos (nI_le (Nat.le_refl _) (by omega))])
  exact ⟨s, h1, h2⟩
theorem QQ.emptyTapes (q : QQ T r B F hx a hm) : ∃ v : Int32, f7_emptyTapes a hx = some v ∧ f9_emptyOnes hm = some v := by
  have hT := q.t31
  have hb := q.1
  unfold f7_emptyTapes f9_emptyOnes
  obtain ⟨s, hI, h1, h2⟩ := up_loop20 (fun m s x => f7_emptyTapes_L4 a hx (fun y _ => some y) m s x) (fun m s x => f9_emptyOnes_L4 hm (fun y _ => some y) m s x) (fun s _ => some s) (fun s _ => some s) (fun i s => True) T (by omega) 0 trivial (fun i s hi hv => by
    have g1 := nI_ge hi (show T < 2 ^ 31 by omega)
    obtain ⟨ep, e3, e4, e5, e6⟩ := q.tp hi
    refine ⟨s ||| (if hm.1 9 (16 + i) = 0 then (1 : Int32) <<< (nI i &&& 31) else 0), trivial, fun m => ?_, fun m => ?_⟩
    · show f7_emptyTapes_L4 a hx _ (m + 1) _ (nI i) = f7_emptyTapes_L4 a hx _ m _ (nI (i + 1))
      simp only [f7_emptyTapes_L4, q.Tx, g1, q8 (show i < 8 by omega), ix_nI (show i < 2 ^ 31 by omega), e3, qj_e, qlt_e, qg_t, bind_s, nI_1, if_true, if_false]
    · show f9_emptyOnes_L4 hm _ (m + 1) _ (nI i) = f9_emptyOnes_L4 hm _ m _ (nI (i + 1))
      simp only [f9_emptyOnes_L4, q.Tm, g1, la_16, q353 (show 16 + i < 353 by omega), i353 (show 16 + i < 353 by omega), qj_e, qlt_e, qg_t, bind_s, nI_1, if_true, if_false]
    ) (fun m s _ => by
    refine ⟨?_, ?_⟩
    · show f7_emptyTapes_L4 a hx _ (m + 1) s (nI T) = _
      rw [f7_emptyTapes_L4, q.Tx, if_pos (nI_le (Nat.le_refl _) (by omega))]
    · show f9_emptyOnes_L4 hm _ (m + 1) s (nI T) = _
      rw [f9_emptyOnes_L4, q.Tm, if_pos (nI_le (Nat.le_refl _) (by omega))])
  exact ⟨s, h1, h2⟩
theorem QQ.idle (q : QQ T r B F hx a hm) (w : Int32) : ∃ v : Int32, f7_idleAt a w hx = some v ∧ f9_idleOnes w hm = some v := by
  have hT := q.t31
  have hb := q.1
  unfold f7_idleAt f9_idleOnes
  obtain ⟨s, hI, h1, h2⟩ := up_loop20 (fun m s x => f7_idleAt_L4 a w hx (fun y _ => some y) m s x) (fun m s x => f9_idleOnes_L4 w hm (fun y _ => some y) m s x) (fun s _ => some s) (fun s _ => some s) (fun i s => True) T (by omega) 0 trivial (fun i s hi hv => by
    have g1 := nI_ge hi (show T < 2 ^ 31 by omega)
    obtain ⟨ep, e3, e4, e5, e6⟩ := q.tp hi
    have ed := q.dr hi
    refine ⟨s ||| (if hx.1 (a + 1) i = -1 then 0 else if w - hm.1 9 (40 + i) ≤ nI (r 7) then 0 else (1 : Int32) <<< (nI i &&& 31)), trivial, fun m => ?_, fun m => ?_⟩
    · show f7_idleAt_L4 a w hx _ (m + 1) _ (nI i) = f7_idleAt_L4 a w hx _ m _ (nI (i + 1))
      simp only [f7_idleAt_L4, q.Tx, g1, q8 (show i < 8 by omega), ix_nI (show i < 2 ^ 31 by omega), e6, q.rx (show 7 < 8 by omega), qj_e, qlt_e, qg_t, bind_s, nI_1, if_true, if_false]
      by_cases hc : hx.1 (a + 1) i = -1 <;> by_cases hd : w - hm.1 9 (40 + i) ≤ nI (r 7) <;> simp only [hc, hd, if_true, if_false]
    · show f9_idleOnes_L4 w hm _ (m + 1) _ (nI i) = f9_idleOnes_L4 w hm _ m _ (nI (i + 1))
      simp only [f9_idleOnes_L4, q.Tm, g1, ed, q.rm (show 7 < 8 by omega), la_40, q353 (show 40 + i < 353 by omega), i353 (show 40 + i < 353 by omega), qj_e, qlt_e, qg_t, bind_s, nI_1, if_true, if_false]
      by_cases hc : hx.1 (a + 1) i = -1 <;> by_cases hd : w - hm.1 9 (40 + i) ≤ nI (r 7) <;> simp only [hc, hd, if_true, if_false, q1f]
    ) (fun m s _ => by
    refine ⟨?_, ?_⟩
    · show f7_idleAt_L4 a w hx _ (m + 1) s (nI T) = _
      rw [f7_idleAt_L4, q.Tx, if_pos (nI_le (Nat.le_refl _) (by omega))]
    · show f9_idleOnes_L4 w hm _ (m + 1) s (nI T) = _
      rw [f9_idleOnes_L4, q.Tm, if_pos (nI_le (Nat.le_refl _) (by omega))])
  exact ⟨s, h1, h2⟩
theorem QQ.isWeak (q : QQ T r B F hx a hm) {t : Nat} (ht : t < T) {c : Nat} (h2 : f9_filesOn (nI t) hm = some (nI c)) : f9_isWeak (nI t) hm = some (if hm.1 9 (24 + t) ≤ nI (r 6) then 0 else if nI c ≤ 0 then 0 else 1) := by
  have hT := q.t31
  simp only [f9_isWeak, la_24, q353 (show 24 + t < 353 by omega), i353 (show 24 + t < 353 by omega), q.rm (show 6 < 8 by omega), h2, qj_e, qg_t, bind_s]
  by_cases hc : hm.1 9 (24 + t) ≤ nI (r 6) <;> by_cases hd : nI c ≤ 0 <;> simp only [hc, hd, if_true, if_false, qbo_0, qbo_1, qg_t]
theorem QQ.weak (q : QQ T r B F hx a hm) : ∃ v : Int32, f7_weakTapes a hx = some v ∧ f9_weakOnes hm = some v := by
  have hT := q.t31
  have hb := q.1
  unfold f7_weakTapes f9_weakOnes
  obtain ⟨s, hI, h1, h2⟩ := up_loop20 (fun m s x => f7_weakTapes_L4 a hx (fun y _ => some y) m s x) (fun m s x => f9_weakOnes_L4 hm (fun y _ => some y) m s x) (fun s _ => some s) (fun s _ => some s) (fun i s => True) T (by omega) 0 trivial (fun i s hi hv => by
    have g1 := nI_ge hi (show T < 2 ^ 31 by omega)
    obtain ⟨ep, e3, e4, e5, e6⟩ := q.tp hi
    obtain ⟨c, hc0, fx, fm⟩ := q.filesOn (nI i)
    refine ⟨s ||| (if hm.1 9 (24 + i) ≤ nI (r 6) then 0 else if nI c ≤ 0 then 0 else (1 : Int32) <<< (nI i &&& 31)), trivial, fun m => ?_, fun m => ?_⟩
    · show f7_weakTapes_L4 a hx _ (m + 1) _ (nI i) = f7_weakTapes_L4 a hx _ m _ (nI (i + 1))
      simp only [f7_weakTapes_L4, q.Tx, g1, q8 (show i < 8 by omega), ix_nI (show i < 2 ^ 31 by omega), e4, q.rx (show 6 < 8 by omega), fx, qj_e, qlt_e, qg_t, bind_s, nI_1, if_true, if_false]
      by_cases hc : hm.1 9 (24 + i) ≤ nI (r 6) <;> by_cases hd : nI c ≤ 0 <;> simp only [hc, hd, if_true, if_false]
    · show f9_weakOnes_L4 hm _ (m + 1) _ (nI i) = f9_weakOnes_L4 hm _ m _ (nI (i + 1))
      simp only [f9_weakOnes_L4, q.Tm, g1, q.isWeak hi fm, qj_e, qlt_e, qg_t, bind_s, nI_1, if_true, if_false]
      by_cases hc : hm.1 9 (24 + i) ≤ nI (r 6) <;> by_cases hd : nI c ≤ 0 <;> simp only [hc, hd, if_true, if_false, q1f]
    ) (fun m s _ => by
    refine ⟨?_, ?_⟩
    · show f7_weakTapes_L4 a hx _ (m + 1) s (nI T) = _
      rw [f7_weakTapes_L4, q.Tx, if_pos (nI_le (Nat.le_refl _) (by omega))]
    · show f9_weakOnes_L4 hm _ (m + 1) s (nI T) = _
      rw [f9_weakOnes_L4, q.Tm, if_pos (nI_le (Nat.le_refl _) (by omega))])
  exact ⟨s, h1, h2⟩
theorem QQ.known (q : QQ T r B F hx a hm) : ∃ c : Nat, c ≤ F ∧ f7_knownFiles a hx = some (nI c) ∧ f9_knownMany hm = some (nI c) := by
  have hT := q.t31
  have hb := q.1
  unfold f7_knownFiles f9_knownMany
  obtain ⟨s, hI, h1, h2⟩ := up_loop20 (fun m s x => f7_knownFiles_L4 a hx (fun y _ => some y) m s x) (fun m s x => f9_knownMany_L4 hm (fun y _ => some y) m s x) (fun s _ => some s) (fun s _ => some s) (fun i s => ∃ c : Nat, c ≤ i ∧ s = nI c) F (by omega) 0 ⟨0, Nat.le_refl _, rfl⟩ (fun i s hi hv => by
    have g1 := nI_ge hi (show F < 2 ^ 31 by omega)
    obtain ⟨e7, e8, e9, e10, e11⟩ := q.fl hi
    obtain ⟨c, hc0, rfl⟩ := hv
    have hk := q.kn hi
    refine ⟨nI c + hm.1 9 (120 + i), by
      rcases hk with ⟨-, h9⟩ | ⟨-, h9 | h9⟩
      · exact ⟨c, by omega, by simp [h9]⟩
      · exact ⟨c, by omega, by simp [h9]⟩
      · exact ⟨c + 1, by omega, by rw [h9, nI_1]⟩, fun m => ?_, fun m => ?_⟩
    · show f7_knownFiles_L4 a hx _ (m + 1) _ (nI i) = f7_knownFiles_L4 a hx _ m _ (nI (i + 1))
      simp only [f7_knownFiles_L4, q.Fx, g1, q24 (show i < 24 by omega), ix_nI (show i < 2 ^ 31 by omega), e10, qj_e, qlt_e, qg_t, bind_s, nI_1, if_true, if_false]
    · show f9_knownMany_L4 hm _ (m + 1) _ (nI i) = f9_knownMany_L4 hm _ m _ (nI (i + 1))
      simp only [f9_knownMany_L4, q.Fm, g1, la_48, q353 (show 48 + i < 353 by omega), i353 (show 48 + i < 353 by omega), la_120, q353 (show 120 + i < 353 by omega), i353 (show 120 + i < 353 by omega), qj_e, qlt_e, qg_t, bind_s, nI_1, if_true, if_false]
      rcases hk with ⟨h8, h9⟩ | ⟨h8, h9 | h9⟩ <;> simp [h8, h9, nI_1]
    ) (fun m s _ => by
    refine ⟨?_, ?_⟩
    · show f7_knownFiles_L4 a hx _ (m + 1) s (nI F) = _
      rw [f7_knownFiles_L4, q.Fx, if_pos (nI_le (Nat.le_refl _) (by omega))]
    · show f9_knownMany_L4 hm _ (m + 1) s (nI F) = _
      rw [f9_knownMany_L4, q.Fm, if_pos (nI_le (Nat.le_refl _) (by omega))])
  obtain ⟨c, hc, rfl⟩ := hI
  exact ⟨c, hc, h1, h2⟩
theorem QQ.oldest (q : QQ T r B F hx a hm) : ∃ s : Int32, (s = -1 ∨ ∃ b, b < T ∧ s = nI b ∧ ¬ hx.1 (a + 1) b = -1) ∧ f7_longestUnused a hx = some s ∧ f9_oldest hm = some s := by
  have hT := q.t31
  have hb := q.1
  unfold f7_longestUnused f9_oldest
  obtain ⟨s, hI, h1, h2⟩ := up_loop20 (fun m s x => f7_longestUnused_L4 a hx (fun y _ => some y) m s x) (fun m s x => f9_oldest_L4 hm (fun y _ => some y) m s x) (fun s _ => some s) (fun s _ => some s) (fun i s => s = -1 ∨ ∃ b, b < i ∧ s = nI b ∧ ¬ hx.1 (a + 1) b = -1) T (by omega) (-1) (Or.inl rfl) (fun i s hi hv => by
    have g1 := nI_ge hi (show T < 2 ^ 31 by omega)
    obtain ⟨ep, e3, e4, e5, e6⟩ := q.tp hi
    have ed := q.dr hi
    refine ⟨if hx.1 (a + 1) i = -1 then s else if s = -1 then nI i else if hm.1 9 (40 + ix s) ≤ hm.1 9 (40 + i) then s else nI i, by
      by_cases hc : hx.1 (a + 1) i = -1
      · rw [if_pos hc]
        rcases hv with rfl | ⟨b, hb1, rfl, hb2⟩
        · exact Or.inl rfl
        · exact Or.inr ⟨b, by omega, rfl, hb2⟩
      · rw [if_neg hc]
        rcases hv with rfl | ⟨b, hb1, rfl, hb2⟩
        · exact Or.inr ⟨i, by omega, by simp, hc⟩
        · rw [if_neg (nI_m1 (by omega))]
          split
          · exact Or.inr ⟨b, by omega, rfl, hb2⟩
          · exact Or.inr ⟨i, by omega, rfl, hc⟩, fun m => ?_, fun m => ?_⟩
    · show f7_longestUnused_L4 a hx _ (m + 1) _ (nI i) = f7_longestUnused_L4 a hx _ m _ (nI (i + 1))
      rcases hv with rfl | ⟨b, hb1, rfl, hb2⟩
      · simp only [f7_longestUnused_L4, q.Tx, g1, q8 (show i < 8 by omega), ix_nI (show i < 2 ^ 31 by omega), e6, qj_e, qlt_e, qg_t, bind_s, nI_1, if_true, if_false]
        by_cases hc : hx.1 (a + 1) i = -1 <;> simp [hc] <;> (try (split <;> rfl))
      · have hbt := q.tp (show b < T by omega)
        simp only [f7_longestUnused_L4, q.Tx, g1, q8 (show i < 8 by omega), ix_nI (show i < 2 ^ 31 by omega), e6, q8 (show b < 8 by omega), ix_nI (show b < 2 ^ 31 by omega), hbt.2.2.2.2, nI_m1 (show b < 2 ^ 31 by omega), qj_e, qlt_e, qg_t, bind_s, nI_1, if_true, if_false]
        by_cases hc : hx.1 (a + 1) i = -1 <;> simp [hc] <;> (try (split <;> rfl))
    · show f9_oldest_L4 hm _ (m + 1) _ (nI i) = f9_oldest_L4 hm _ m _ (nI (i + 1))
      rcases hv with rfl | ⟨b, hb1, rfl, hb2⟩
      · simp only [f9_oldest_L4, q.Tm, g1, ed, la_40, q353 (show 40 + i < 353 by omega), i353 (show 40 + i < 353 by omega), qj_e, qlt_e, qg_t, bind_s, nI_1, if_true, if_false]
        by_cases hc : hx.1 (a + 1) i = -1 <;> simp [hc] <;> (try (split <;> rfl))
      · have hbt := q.tp (show b < T by omega)
        simp only [f9_oldest_L4, q.Tm, g1, ed, la_40, q353 (show 40 + i < 353 by omega), i353 (show 40 + i < 353 by omega), la_40, q353 (show 40 + b < 353 by omega), i353 (show 40 + b < 353 by omega), ix_nI (show b < 2 ^ 31 by omega), nI_m1 (show b < 2 ^ 31 by omega), qj_e, qlt_e, qg_t, bind_s, nI_1, if_true, if_false]
        by_cases hc : hx.1 (a + 1) i = -1 <;> simp [hc] <;> (try (split <;> rfl))
    ) (fun m s _ => by
    refine ⟨?_, ?_⟩
    · show f7_longestUnused_L4 a hx _ (m + 1) s (nI T) = _
      rw [f7_longestUnused_L4, q.Tx, if_pos (nI_le (Nat.le_refl _) (by omega))]
    · show f9_oldest_L4 hm _ (m + 1) s (nI T) = _
      rw [f9_oldest_L4, q.Tm, if_pos (nI_le (Nat.le_refl _) (by omega))])
  exact ⟨s, hI, h1, h2⟩
theorem QQ.oldest_ne (q : QQ T r B F hx a hm) {b : Nat} (hb1 : b < T) (hb2 : ¬ hx.1 (a + 1) b = -1) : ¬ f7_longestUnused a hx = some (-1) := by
  have hT := q.t31
  unfold f7_longestUnused
  have h1 := up_loop0 (fun m s x => f7_longestUnused_L4 a hx (fun y _ => some y) m s x) (fun s _ => some s) (fun i s => if hx.1 (a + 1) i = -1 then s else if s = -1 then nI i else if hm.1 9 (40 + ix s) ≤ hm.1 9 (40 + i) then s else nI i) (fun i s => (s = -1 ∧ ∀ c, c < i → hx.1 (a + 1) c = -1) ∨ ∃ c, c < i ∧ s = nI c) T (by omega) (fun m i s hi hv => by
    have g1 := nI_ge hi (show T < 2 ^ 31 by omega)
    obtain ⟨ep, e3, e4, e5, e6⟩ := q.tp hi
    constructor
    · show f7_longestUnused_L4 a hx _ (m + 1) _ (nI i) = f7_longestUnused_L4 a hx _ m _ (nI (i + 1))
      rcases hv with ⟨rfl, -⟩ | ⟨c, hc, rfl⟩
      · simp only [f7_longestUnused_L4, q.Tx, g1, q8 (show i < 8 by omega), ix_nI (show i < 2 ^ 31 by omega), e6, qj_e, qlt_e, qg_t, bind_s, nI_1, if_true, if_false]
        by_cases hc : hx.1 (a + 1) i = -1 <;> simp [hc]
      · have hbt := q.tp (show c < T by omega)
        simp only [f7_longestUnused_L4, q.Tx, g1, q8 (show i < 8 by omega), ix_nI (show i < 2 ^ 31 by omega), e6, q8 (show c < 8 by omega), ix_nI (show c < 2 ^ 31 by omega), hbt.2.2.2.2, nI_m1 (show c < 2 ^ 31 by omega), qj_e, qlt_e, qg_t, bind_s, nI_1, if_true, if_false]
        by_cases hc : hx.1 (a + 1) i = -1 <;> simp [hc] <;> (try (split <;> rfl))
    · by_cases hc : hx.1 (a + 1) i = -1
      · rw [if_pos hc]
        rcases hv with ⟨h1, h2⟩ | ⟨c, hc', h1⟩
        · exact Or.inl ⟨h1, fun c hc' => by
            by_cases e : c = i
            · subst e; exact hc
            · exact h2 c (by omega)⟩
        · exact Or.inr ⟨c, by omega, h1⟩
      · rw [if_neg hc]
        refine Or.inr ?_
        rcases hv with ⟨rfl, h2⟩ | ⟨c, hc', rfl⟩
        · exact ⟨i, by omega, by simp⟩
        · rw [if_neg (nI_m1 (by omega))]
          split
          · exact ⟨c, by omega, rfl⟩
          · exact ⟨i, by omega, rfl⟩) (fun m s _ => by
    show f7_longestUnused_L4 a hx _ (m + 1) s (nI T) = _
    rw [f7_longestUnused_L4, q.Tx, if_pos (nI_le (Nat.le_refl _) (by omega))]) (-1) (Or.inl ⟨rfl, fun c hc => by omega⟩)
  intro e
  have e2 := Option.some.inj (h1.1.symm.trans e)
  rcases h1.2 with ⟨-, h3⟩ | ⟨c, hc, h3⟩
  · exact hb2 (h3 b hb1)
  · rw [h3] at e2
    exact nI_m1 (by omega) e2
theorem QQ.targetL (q : QQ T r B F hx a hm) (t : Int32) : ∃ s : Int32, (s = -1 ∨ ∃ b, b < T ∧ s = nI b ∧ (¬ nI b = t ∧ hm.1 9 (16 + b) = 0)) ∧ f7_targetFor_L14 a t hx (fun y _ => some y) qN (-1) 0 = some s ∧ f9_targetOf t hm = some s := by
  have hT := q.t31
  have hb := q.1
  unfold f9_targetOf
  obtain ⟨s, hI, h1, h2⟩ := up_loop20 (fun m s x => f7_targetFor_L14 a t hx (fun y _ => some y) m s x) (fun m s x => f9_targetOf_L4 t hm (fun y _ => some y) m s x) (fun s _ => some s) (fun s _ => some s) (fun i s => s = -1 ∨ ∃ b, b < i ∧ s = nI b ∧ (¬ nI b = t ∧ hm.1 9 (16 + b) = 0)) T (by omega) (-1) (Or.inl rfl) (fun i s hi hv => by
    have g1 := nI_ge hi (show T < 2 ^ 31 by omega)
    obtain ⟨ep, e3, e4, e5, e6⟩ := q.tp hi
    refine ⟨if nI i = t then s else if hm.1 9 (16 + i) = 0 then (if s = -1 then nI i else if hm.1 9 (24 + ix s) ≤ hm.1 9 (24 + i) then s else nI i) else s, by
      by_cases hc : nI i = t
      · rw [if_pos hc]
        rcases hv with rfl | ⟨b, hb1, rfl, hb2⟩
        · exact Or.inl rfl
        · exact Or.inr ⟨b, by omega, rfl, hb2⟩
      · rw [if_neg hc]
        by_cases he : hm.1 9 (16 + i) = 0
        · rw [if_pos he]
          rcases hv with rfl | ⟨b, hb1, rfl, hb2⟩
          · exact Or.inr ⟨i, by omega, by simp, hc, he⟩
          · rw [if_neg (nI_m1 (by omega))]
            split
            · exact Or.inr ⟨b, by omega, rfl, hb2⟩
            · exact Or.inr ⟨i, by omega, rfl, hc, he⟩
        · rw [if_neg he]
          rcases hv with rfl | ⟨b, hb1, rfl, hb2⟩
          · exact Or.inl rfl
          · exact Or.inr ⟨b, by omega, rfl, hb2⟩, fun m => ?_, fun m => ?_⟩
    · show f7_targetFor_L14 a t hx _ (m + 1) _ (nI i) = f7_targetFor_L14 a t hx _ m _ (nI (i + 1))
      rcases hv with rfl | ⟨b, hb1, rfl, hb2⟩
      · simp only [f7_targetFor_L14, q.Tx, g1, q8 (show i < 8 by omega), ix_nI (show i < 2 ^ 31 by omega), e3, e4, qj_e, qlt_e, qg_t, bind_s, nI_1, if_true, if_false]
        by_cases hc : nI i = t <;> by_cases he : hm.1 9 (16 + i) = 0 <;> simp [hc, he] <;> (try (split <;> rfl))
      · have hbt := q.tp (show b < T by omega)
        simp only [f7_targetFor_L14, q.Tx, g1, q8 (show i < 8 by omega), ix_nI (show i < 2 ^ 31 by omega), e3, e4, q8 (show b < 8 by omega), ix_nI (show b < 2 ^ 31 by omega), hbt.2.2.1, nI_m1 (show b < 2 ^ 31 by omega), qj_e, qlt_e, qg_t, bind_s, nI_1, if_true, if_false]
        by_cases hc : nI i = t <;> by_cases he : hm.1 9 (16 + i) = 0 <;> simp [hc, he] <;> (try (split <;> rfl))
    · show f9_targetOf_L4 t hm _ (m + 1) _ (nI i) = f9_targetOf_L4 t hm _ m _ (nI (i + 1))
      rcases hv with rfl | ⟨b, hb1, rfl, hb2⟩
      · simp only [f9_targetOf_L4, q.Tm, g1, la_16, q353 (show 16 + i < 353 by omega), i353 (show 16 + i < 353 by omega), la_24, q353 (show 24 + i < 353 by omega), i353 (show 24 + i < 353 by omega), qj_e, qlt_e, qg_t, bind_s, nI_1, if_true, if_false]
        by_cases hc : nI i = t <;> by_cases he : hm.1 9 (16 + i) = 0 <;> simp [hc, he] <;> (try (split <;> rfl))
      · have hbt := q.tp (show b < T by omega)
        simp only [f9_targetOf_L4, q.Tm, g1, la_16, q353 (show 16 + i < 353 by omega), i353 (show 16 + i < 353 by omega), la_24, q353 (show 24 + i < 353 by omega), i353 (show 24 + i < 353 by omega), q353 (show 24 + b < 353 by omega), i353 (show 24 + b < 353 by omega), ix_nI (show b < 2 ^ 31 by omega), nI_m1 (show b < 2 ^ 31 by omega), qj_e, qlt_e, qg_t, bind_s, nI_1, if_true, if_false]
        by_cases hc : nI i = t <;> by_cases he : hm.1 9 (16 + i) = 0 <;> simp [hc, he] <;> (try (split <;> rfl))
    ) (fun m s _ => by
    refine ⟨?_, ?_⟩
    · show f7_targetFor_L14 a t hx _ (m + 1) s (nI T) = _
      rw [f7_targetFor_L14, q.Tx, if_pos (nI_le (Nat.le_refl _) (by omega))]
    · show f9_targetOf_L4 t hm _ (m + 1) s (nI T) = _
      rw [f9_targetOf_L4, q.Tm, if_pos (nI_le (Nat.le_refl _) (by omega))])
  exact ⟨s, hI, h1, h2⟩
theorem QQ.target (q : QQ T r B F hx a hm) (t : Int32) : ∃ (c : Nat) (s : Int32), c ≤ F ∧ (s = -1 ∨ ∃ b, b < T ∧ s = nI b ∧ (¬ nI b = t ∧ hm.1 9 (16 + b) = 0)) ∧ f7_filesOn a t hx = some (nI c) ∧ f9_filesOn t hm = some (nI c) ∧ f9_targetOf t hm = some s ∧ f7_targetFor a t hx = some (if c = 0 then -1 else s) := by
  obtain ⟨c, hc, fx, fm⟩ := q.filesOn t
  obtain ⟨s, hs, h1, h2⟩ := q.targetL t
  refine ⟨c, s, hc, hs, fx, fm, h2, ?_⟩
  have hT := q.t31
  simp only [f7_targetFor, fx, bind_s]
  by_cases h0 : c = 0
  · subst h0
    rw [if_pos (by rfl), if_pos rfl]
  · rw [if_neg (nI_ne0 (by omega) (by omega)), if_neg h0]
    exact h1
theorem QQ.roomiest (q : QQ T r B F hx a hm) : ∃ v : Int32, f7_roomiest a hx = some v ∧ f9_roomiest hm = some v := by
  have hT := q.t31
  have hb := q.1
  have b0 := hb.1
  unfold f7_roomiest f9_roomiest
  obtain ⟨s, hI, h1, h2⟩ := up_loop2 (fun m s x => f7_roomiest_L4 a hx (fun y _ => some y) m s x) (fun m s x => f9_roomiest_L4 hm (fun y _ => some y) m s x) (fun s _ => some s) (fun s _ => some s) (fun i s => ∃ b, b < i ∧ b < T ∧ s = nI b) T (fun i s hi hv => by
    have g1 := nI_ge hi (show T < 2 ^ 31 by omega)
    obtain ⟨b, hb1, hb3, rfl⟩ := hv
    obtain ⟨ep, e3, -⟩ := q.tp hi
    have eb := (q.tp hb3).2.1
    refine ⟨if hm.1 9 (16 + b) ≤ hm.1 9 (16 + i) then nI b else nI i, ?_, fun m => ?_, fun m => ?_⟩
    · split
      · exact ⟨b, by omega, hb3, rfl⟩
      · exact ⟨i, by omega, hi, rfl⟩
    · show f7_roomiest_L4 a hx _ (m + 1) _ (nI i) = f7_roomiest_L4 a hx _ m _ (nI (i + 1))
      simp only [f7_roomiest_L4, q.Tx, g1, q8 (show i < 8 by omega), q8 (show b < 8 by omega), ix_nI (show i < 2 ^ 31 by omega), ix_nI (show b < 2 ^ 31 by omega), e3, eb, qlt_e, qg_t, nI_1, if_false]
    · show f9_roomiest_L4 hm _ (m + 1) _ (nI i) = f9_roomiest_L4 hm _ m _ (nI (i + 1))
      simp only [f9_roomiest_L4, q.Tm, g1, la_16, q353 (show 16 + i < 353 by omega), i353 (show 16 + i < 353 by omega), q353 (show 16 + b < 353 by omega), i353 (show 16 + b < 353 by omega), qlt_e, qg_t, nI_1, if_false]) (fun m s _ => by
    refine ⟨?_, ?_⟩
    · show f7_roomiest_L4 a hx _ (m + 1) s (nI T) = _
      rw [f7_roomiest_L4, q.Tx, if_pos (nI_le (Nat.le_refl _) (by omega))]
    · show f9_roomiest_L4 hm _ (m + 1) s (nI T) = _
      rw [f9_roomiest_L4, q.Tm, if_pos (nI_le (Nat.le_refl _) (by omega))]) (T - 1) 1 (nI 0) qN qN (by omega) ⟨0, by omega, by omega, rfl⟩ (qN_lt (by omega)) (qN_lt (by omega))
  exact ⟨s, h1, h2⟩
/-- the first tape of which p holds, from i on -/
theorem find_loop {ρ : Type} (G : Nat → Int32 → Option ρ) (K : Option ρ) (g : Nat → Option ρ) (p : Nat → Prop) (n : Nat) (hs : ∀ m i, i < n → (p i → G (m + 1) (nI i) = g i) ∧ (¬ p i → G (m + 1) (nI i) = G m (nI (i + 1)))) (he : ∀ m, G (m + 1) (nI n) = K) :
    ∀ d i m, i + d = n → d < m → (∃ b, i ≤ b ∧ b < n ∧ p b ∧ (∀ j, i ≤ j → j < b → ¬ p j) ∧ G m (nI i) = g b) ∨ ((∀ j, i ≤ j → j < n → ¬ p j) ∧ G m (nI i) = K)
  | 0, i, m, hi, hm => by
    obtain ⟨m', rfl⟩ : ∃ k, m = k + 1 := ⟨m - 1, by omega⟩
    have e : i = n := by omega
    subst e
    exact Or.inr ⟨fun j h1 h2 => by omega, he m'⟩
  | d + 1, i, m, hi, hm => by
    obtain ⟨m', rfl⟩ : ∃ k, m = k + 1 := ⟨m - 1, by omega⟩
    obtain ⟨s1, s2⟩ := hs m' i (by omega)
    by_cases hp : p i
    · exact Or.inl ⟨i, Nat.le_refl i, by omega, hp, fun j h1 h2 => by omega, s1 hp⟩
    · rw [s2 hp]
      rcases find_loop G K g p n hs he d (i + 1) m' (by omega) (by omega) with ⟨b, h1, h2, h3, h4, h5⟩ | ⟨h1, h2⟩
      · refine Or.inl ⟨b, by omega, h2, h3, fun j g1 g2 => ?_, h5⟩
        by_cases hj : j = i
        · subst hj; exact hp
        · exact h4 j (by omega) g2
      · refine Or.inr ⟨fun j g1 g2 => ?_, h2⟩
        by_cases hj : j = i
        · subst hj; exact hp
        · exact h1 j (by omega) g2
theorem find_loop0 {ρ : Type} (G : Nat → Int32 → Option ρ) (K : Option ρ) (g : Nat → Option ρ) (p : Nat → Prop) (n : Nat) (hn : n < 100000) (hs : ∀ m i, i < n → (p i → G (m + 1) (nI i) = g i) ∧ (¬ p i → G (m + 1) (nI i) = G m (nI (i + 1)))) (he : ∀ m, G (m + 1) (nI n) = K) :
    (∃ b, b < n ∧ p b ∧ (∀ j, j < b → ¬ p j) ∧ G qN 0 = g b) ∨ ((∀ j, j < n → ¬ p j) ∧ G qN 0 = K) := by
  rcases find_loop G K g p n hs he n 0 qN (by omega) (qN_lt hn) with ⟨b, -, h2, h3, h4, h5⟩ | ⟨h1, h2⟩
  · exact Or.inl ⟨b, h2, h3, fun j hj => h4 j (Nat.zero_le _) hj, h5⟩
  · exact Or.inr ⟨fun j hj => h1 j (Nat.zero_le _) hj, h2⟩
/-- a place says which drive -/
theorem QQ.pd (q : QQ T r B F hx a hm) {t k : Nat} (ht : t < T) (hk : k < 2 ^ 30) : hm.1 9 t = nI (r 0) + nI k ↔ hx.1 (a + 1) t = nI k := by
  have hb := q.1
  have b1 := hb.2.2.1
  have b2 := hb.2.2.2.2.1
  have b3 := hb.2.2.2.2.2.2.1
  rw [nI_add]
  rcases (q.tp ht).1 with ⟨h1, h2, h3, h4⟩ | ⟨d, hd, h1, h2, h3⟩
  · rw [h3, h1, nI_eq (by omega) (by omega)]
    exact ⟨fun e => by omega, fun e => absurd e.symm (nI_m1 (by omega))⟩
  · rw [h2, h1, nI_eq (by omega) (by omega), nI_eq (by omega) (by omega)]
    omega
theorem QQ.tapeIn (q : QQ T r B F hx a hm) {k : Nat} (hk : k < 2 ^ 30) : (∃ b, b < T ∧ hx.1 (a + 1) b = nI k ∧ f7_tapeIn a (nI k) hx = some (nI b) ∧ f9_inDrive (nI k) hm = some (nI b)) ∨ ((∀ b, b < T → ¬ hx.1 (a + 1) b = nI k) ∧ f7_tapeIn a (nI k) hx = some (-1) ∧ f9_inDrive (nI k) hm = some (-1)) := by
  have hT := q.t31
  have hb := q.1
  unfold f7_tapeIn f9_inDrive
  have h1 := find_loop0 (fun m x => f7_tapeIn_L2 a (nI k) hx (fun _ => some (-1)) m x) (some (-1)) (fun b => some (nI b)) (fun t => hx.1 (a + 1) t = nI k) T (by omega) (fun m i hi => by
    have g1 := nI_ge hi (show T < 2 ^ 31 by omega)
    constructor
    · intro hp
      simp only [f7_tapeIn_L2, q.Tx, g1, q8 (show i < 8 by omega), ix_nI (show i < 2 ^ 31 by omega), hp, qg_t, if_true, if_false]
    · intro hp
      simp only [f7_tapeIn_L2, q.Tx, g1, q8 (show i < 8 by omega), ix_nI (show i < 2 ^ 31 by omega), hp, qg_t, qlt_e, nI_1, if_true, if_false]) (fun m => by
    show f7_tapeIn_L2 a (nI k) hx _ (m + 1) (nI T) = _
    rw [f7_tapeIn_L2, q.Tx, if_pos (nI_le (Nat.le_refl _) (by omega))])
  have h2 := find_loop0 (fun m x => f9_inDrive_L2 (nI k) hm (fun _ => some (-1)) m x) (some (-1)) (fun b => some (nI b)) (fun t => hx.1 (a + 1) t = nI k) T (by omega) (fun m i hi => by
    have g1 := nI_ge hi (show T < 2 ^ 31 by omega)
    have g2 := q.pd (k := k) hi hk
    constructor
    · intro hp
      simp only [f9_inDrive_L2, q.Tm, g1, la_0, q353 (show i < 353 by omega), i353 (show i < 353 by omega), q.rm (show 0 < 8 by omega), g2, hp, qg_t, if_true, if_false]
    · intro hp
      simp only [f9_inDrive_L2, q.Tm, g1, la_0, q353 (show i < 353 by omega), i353 (show i < 353 by omega), q.rm (show 0 < 8 by omega), g2, hp, qg_t, qlt_e, nI_1, if_true, if_false]) (fun m => by
    show f9_inDrive_L2 (nI k) hm _ (m + 1) (nI T) = _
    rw [f9_inDrive_L2, q.Tm, if_pos (nI_le (Nat.le_refl _) (by omega))])
  rcases h1 with ⟨b, c1, c2, c3, c4⟩ | ⟨c1, c2⟩ <;> rcases h2 with ⟨b', d1, d2, d3, d4⟩ | ⟨d1, d2⟩
  · have e : b = b' := by
      rcases Nat.lt_trichotomy b b' with h | h | h
      · exact absurd c2 (d3 b h)
      · exact h
      · exact absurd d2 (c3 b' h)
    subst e
    exact Or.inl ⟨b, c1, c2, c4, d4⟩
  · exact absurd c2 (d1 b c1)
  · exact absurd d2 (c1 b' d1)
  · exact Or.inr ⟨c1, c2, d2⟩
theorem QQ.emptyDrive (q : QQ T r B F hx a hm) : (∃ k, k < r 1 ∧ (∀ b, b < T → ¬ hx.1 (a + 1) b = nI k) ∧ (∀ j, j < k → ∃ b, b < T ∧ hx.1 (a + 1) b = nI j) ∧ f7_lowestEmptyDrive a hx = some (nI k) ∧ f9_emptyDrive hm = some (nI k)) ∨ ((∀ j, j < r 1 → ∃ b, b < T ∧ hx.1 (a + 1) b = nI j) ∧ f7_lowestEmptyDrive a hx = some (-1) ∧ f9_emptyDrive hm = some (-1)) := by
  have hT := q.t31
  have hb := q.1
  have b3 := hb.2.2.2.2.2.2.1
  unfold f7_lowestEmptyDrive f9_emptyDrive
  have h1 := find_loop0 (fun m x => f7_lowestEmptyDrive_L2 a hx (fun _ => some (-1)) m x) (some (-1)) (fun b => some (nI b)) (fun k => ∀ b, b < T → ¬ hx.1 (a + 1) b = nI k) (r 1) (by omega) (fun m i hi => by
    have g1 := nI_ge hi (show r 1 < 2 ^ 31 by omega)
    rcases q.tapeIn (k := i) (by omega) with ⟨b, c1, c2, c3, c4⟩ | ⟨c1, c2, c3⟩
    · refine ⟨fun hp => absurd c2 (hp b c1), fun _ => ?_⟩
      simp only [f7_lowestEmptyDrive_L2, q.rx (show 1 < 8 by omega), g1, c3, bind_s, nI_m1 (show b < 2 ^ 31 by omega), qlt_e, nI_1, if_false]
    · refine ⟨fun _ => ?_, fun hp => absurd c1 hp⟩
      simp only [f7_lowestEmptyDrive_L2, q.rx (show 1 < 8 by omega), g1, c2, bind_s, if_true, if_false]) (fun m => by
    show f7_lowestEmptyDrive_L2 a hx _ (m + 1) (nI (r 1)) = _
    rw [f7_lowestEmptyDrive_L2, q.rx (by omega), if_pos (nI_le (Nat.le_refl _) (by omega))])
  have h2 := find_loop0 (fun m x => f9_emptyDrive_L2 hm (fun _ => some (-1)) m x) (some (-1)) (fun b => some (nI b)) (fun k => ∀ b, b < T → ¬ hx.1 (a + 1) b = nI k) (r 1) (by omega) (fun m i hi => by
    have g1 := nI_ge hi (show r 1 < 2 ^ 31 by omega)
    rcases q.tapeIn (k := i) (by omega) with ⟨b, c1, c2, c3, c4⟩ | ⟨c1, c2, c3⟩
    · refine ⟨fun hp => absurd c2 (hp b c1), fun _ => ?_⟩
      simp only [f9_emptyDrive_L2, q.rm (show 1 < 8 by omega), g1, c4, bind_s, nI_m1 (show b < 2 ^ 31 by omega), qlt_e, nI_1, if_false]
    · refine ⟨fun _ => ?_, fun hp => absurd c1 hp⟩
      simp only [f9_emptyDrive_L2, q.rm (show 1 < 8 by omega), g1, c3, bind_s, if_true, if_false]) (fun m => by
    show f9_emptyDrive_L2 hm _ (m + 1) (nI (r 1)) = _
    rw [f9_emptyDrive_L2, q.rm (by omega), if_pos (nI_le (Nat.le_refl _) (by omega))])
  have nn : ∀ j, ¬ (∀ b, b < T → ¬ hx.1 (a + 1) b = nI j) → ∃ b, b < T ∧ hx.1 (a + 1) b = nI j := by
    intro j hj
    rcases Classical.em (∃ b, b < T ∧ hx.1 (a + 1) b = nI j) with h | h
    · exact h
    · exact absurd (fun b hb e => h ⟨b, hb, e⟩) hj
  rcases h1 with ⟨b, c1, c2, c3, c4⟩ | ⟨c1, c2⟩ <;> rcases h2 with ⟨b', d1, d2, d3, d4⟩ | ⟨d1, d2⟩
  · have e : b = b' := by
      rcases Nat.lt_trichotomy b b' with h | h | h
      · exact absurd c2 (d3 b h)
      · exact h
      · exact absurd d2 (c3 b' h)
    subst e
    exact Or.inl ⟨b, c1, c2, fun j hj => nn j (c3 j hj), c4, d4⟩
  · exact absurd c2 (d1 b c1)
  · exact absurd d2 (c1 b' d1)
  · exact Or.inr ⟨fun j hj => nn j (c1 j hj), c2, d2⟩
end PB
