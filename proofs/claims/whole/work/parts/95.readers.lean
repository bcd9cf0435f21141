theorem lm_24 (k : Nat) : (24 : Int32) * nI k = nI (24 * k) := nI_mul 24 k
section PH1
variable {T B F LT k nx : Nat} {r : Nat → Nat} {hx hm : qH}
/-- within bounds, the upper one told -/
theorem inB (x : Int32) (n : Nat) (hn : n < 2 ^ 30) : (∃ i, i ≤ n ∧ x = nI i ∧ ¬ x < 0 ∧ x ≤ nI n ∧ f9_in x 0 (nI n) hm = some 1) ∨ ((x < 0 ∨ (¬ x < 0 ∧ ¬ x ≤ nI n)) ∧ f9_in x 0 (nI n) hm = some 0) := by
  rw [f9_in_eq]
  by_cases h0 : x < 0
  · exact Or.inr ⟨Or.inl h0, by rw [if_pos h0]⟩
  · rw [if_neg h0]
    obtain ⟨i, hi, rfl⟩ := nI_of h0
    by_cases hin : i ≤ n
    · exact Or.inl ⟨i, hin, rfl, h0, nI_le hin (by omega), by rw [if_neg (nI_nlt hin (by omega))]⟩
    · refine Or.inr ⟨Or.inr ⟨h0, ?_⟩, by rw [if_pos (nI_lt (by omega) hi)]⟩
      rw [nI_leI hi (by omega)]
      omega
theorem QQ.bot (q : QQ T r B F hx 51 hm) : f9_blocksOfTape hm = some (nI (r 2 * r 3)) := by
  unfold f9_blocksOfTape
  rw [q.rm (show 2 < 8 by omega), q.rm (show 3 < 8 by omega), nI_mul]
theorem QQ.vRule (q : QQ T r B F hx 51 hm) (x : Int32) : ∃ v, f8_rule x hx = some v ∧ f9_rule x hm = some v := by
  unfold f8_rule f9_rule
  rw [q.told.1, q.told.2]
  simp only [bind_s, qj_e, q1f, if_false]
  rcases inB (hm := hm) x 8 (by omega) with ⟨i, hi, rfl, g1, g2, g4⟩ | ⟨g1, g4⟩
  · have g4 : f9_in (nI i) 0 8 hm = some 1 := g4
    have g2 : nI i ≤ 8 := g2
    rw [g4, bind_s, if_neg q1f, if_neg g1, if_pos g2]
    by_cases e : i = 8
    · subst e
      rw [if_pos (by decide), if_pos (by decide), q.bot, bind_s, q.2.1.2.2.1]
      exact ⟨_, rfl, rfl⟩
    · have n8 : ¬ nI i = 8 := fun h => e ((nI_eq (a := i) (b := 8) (by omega) (by omega)).mp h)
      rw [if_neg n8, if_neg n8, q8 (show i < 8 by omega), qg_t, qg_t, ix_nI (by omega), q.rx (by omega), q.rm (by omega)]
      exact ⟨_, rfl, rfl⟩
  · have g4 : f9_in x 0 8 hm = some 0 := g4
    rw [g4, bind_s, if_pos rfl]
    refine ⟨_, ?_, rfl⟩
    rcases g1 with g1 | ⟨g1, g2⟩
    · rw [if_pos g1]
    · have g2 : ¬ x ≤ 8 := g2
      rw [if_neg g1, if_neg g2]
theorem QQ.vFile (q : QQ T r B F hx 51 hm) (x y : Int32) : ∃ v, f8_file x y hx = some v ∧ f9_file x y hm = some v := by
  have hT := q.t31
  unfold f8_file f9_file
  rcases q.isFile x with ⟨f, hf, rfl, h1, h2⟩ | ⟨h1, h2⟩
  · obtain ⟨e7, e8, e9, e10, e11⟩ := q.fl hf
    have e7 : hx.1 58 f = hm.1 9 (48 + f) := e7
    have e8 : hx.1 59 f = hm.1 9 (72 + f) := e8
    have e9 : hx.1 60 f = hm.1 9 (96 + f) := e9
    have e10 : hx.1 61 f = hm.1 9 (120 + f) := e10
    have e11 : hx.1 62 f = hm.1 9 (144 + f) := e11
    rw [h1, h2, bind_s, bind_s, if_neg q1f, if_neg q1f, q24 (show f < 24 by omega), qg_t, ix_nI (by omega), qlt_e, e7, e8, e9, e10, e11]
    simp only [qg_t, qj_e]
    rcases inB (hm := hm) y 4 (by omega) with ⟨i, hi, rfl, g1, g2, g4⟩ | ⟨g1, g4⟩
    · have g4 : f9_in (nI i) 0 4 hm = some 1 := g4
      have e48 : (48 : Int32) + 24 * nI i + nI f = nI (48 + 24 * i + f) := by rw [lm_24, la_48, nI_add]
      rw [g4, bind_s, if_neg q1f, la_48, q353 (show 48 + f < 353 by omega), qg_t, i353 (show 48 + f < 353 by omega), e48, q353 (show 48 + 24 * i + f < 353 by omega), qg_t, i353 (show 48 + 24 * i + f < 353 by omega)]
      by_cases h0 : hm.1 9 (48 + f) = -1
      · rcases (show i = 0 ∨ i = 1 ∨ i = 2 ∨ i = 3 ∨ i = 4 by omega) with rfl | rfl | rfl | rfl | rfl
        · simp only [h0, if_true, if_false, q1f, show (nI 0 = (0 : Int32)) = True from by decide, show (nI 0 = (1 : Int32)) = False from by decide, show (nI 0 = (2 : Int32)) = False from by decide, show (nI 0 = (3 : Int32)) = False from by decide, show (nI 0 = (4 : Int32)) = False from by decide, show 48 + 24 * 0 + f = 48 + f by omega]
          exact ⟨_, rfl, rfl⟩
        · simp only [h0, if_true, if_false, q1f, show (nI 1 = (0 : Int32)) = False from by decide, show (nI 1 = (1 : Int32)) = True from by decide, show (nI 1 = (2 : Int32)) = False from by decide, show (nI 1 = (3 : Int32)) = False from by decide, show (nI 1 = (4 : Int32)) = False from by decide, show 48 + 24 * 1 + f = 72 + f by omega]
          exact ⟨_, rfl, rfl⟩
        · simp only [h0, if_true, if_false, q1f, show (nI 2 = (0 : Int32)) = False from by decide, show (nI 2 = (1 : Int32)) = False from by decide, show (nI 2 = (2 : Int32)) = True from by decide, show (nI 2 = (3 : Int32)) = False from by decide, show (nI 2 = (4 : Int32)) = False from by decide, show 48 + 24 * 2 + f = 96 + f by omega]
          exact ⟨_, rfl, rfl⟩
        · simp only [h0, if_true, if_false, q1f, show (nI 3 = (0 : Int32)) = False from by decide, show (nI 3 = (1 : Int32)) = False from by decide, show (nI 3 = (2 : Int32)) = False from by decide, show (nI 3 = (3 : Int32)) = True from by decide, show (nI 3 = (4 : Int32)) = False from by decide, show 48 + 24 * 3 + f = 120 + f by omega]
          exact ⟨_, rfl, rfl⟩
        · simp only [h0, if_true, if_false, q1f, show (nI 4 = (0 : Int32)) = False from by decide, show (nI 4 = (1 : Int32)) = False from by decide, show (nI 4 = (2 : Int32)) = False from by decide, show (nI 4 = (3 : Int32)) = False from by decide, show (nI 4 = (4 : Int32)) = True from by decide, show 48 + 24 * 4 + f = 144 + f by omega]
          exact ⟨_, rfl, rfl⟩
      · rcases (show i = 0 ∨ i = 1 ∨ i = 2 ∨ i = 3 ∨ i = 4 by omega) with rfl | rfl | rfl | rfl | rfl
        · simp only [h0, if_true, if_false, q1f, show (nI 0 = (0 : Int32)) = True from by decide, show (nI 0 = (1 : Int32)) = False from by decide, show (nI 0 = (2 : Int32)) = False from by decide, show (nI 0 = (3 : Int32)) = False from by decide, show (nI 0 = (4 : Int32)) = False from by decide, show 48 + 24 * 0 + f = 48 + f by omega]
          exact ⟨_, rfl, rfl⟩
        · simp only [h0, if_true, if_false, q1f, show (nI 1 = (0 : Int32)) = False from by decide, show (nI 1 = (1 : Int32)) = True from by decide, show (nI 1 = (2 : Int32)) = False from by decide, show (nI 1 = (3 : Int32)) = False from by decide, show (nI 1 = (4 : Int32)) = False from by decide, show 48 + 24 * 1 + f = 72 + f by omega]
          exact ⟨_, rfl, rfl⟩
        · simp only [h0, if_true, if_false, q1f, show (nI 2 = (0 : Int32)) = False from by decide, show (nI 2 = (1 : Int32)) = False from by decide, show (nI 2 = (2 : Int32)) = True from by decide, show (nI 2 = (3 : Int32)) = False from by decide, show (nI 2 = (4 : Int32)) = False from by decide, show 48 + 24 * 2 + f = 96 + f by omega]
          exact ⟨_, rfl, rfl⟩
        · simp only [h0, if_true, if_false, q1f, show (nI 3 = (0 : Int32)) = False from by decide, show (nI 3 = (1 : Int32)) = False from by decide, show (nI 3 = (2 : Int32)) = False from by decide, show (nI 3 = (3 : Int32)) = True from by decide, show (nI 3 = (4 : Int32)) = False from by decide, show 48 + 24 * 3 + f = 120 + f by omega]
          exact ⟨_, rfl, rfl⟩
        · simp only [h0, if_true, if_false, q1f, show (nI 4 = (0 : Int32)) = False from by decide, show (nI 4 = (1 : Int32)) = False from by decide, show (nI 4 = (2 : Int32)) = False from by decide, show (nI 4 = (3 : Int32)) = False from by decide, show (nI 4 = (4 : Int32)) = True from by decide, show 48 + 24 * 4 + f = 144 + f by omega]
          exact ⟨_, rfl, rfl⟩
    · have g4 : f9_in y 0 4 hm = some 0 := g4
      rw [g4, bind_s, if_pos rfl]
      have ny : ∀ i, i ≤ 4 → ¬ y = nI i := fun i hi e => by
        subst e
        rcases g1 with g1 | ⟨g1, g2⟩
        · exact nI_pos (by omega) g1
        · exact g2 (nI_le hi (by omega))
      rw [if_neg (show ¬ y = (0 : Int32) from ny 0 (by omega)), if_neg (show ¬ y = (1 : Int32) from ny 1 (by omega)), if_neg (show ¬ y = (2 : Int32) from ny 2 (by omega)), if_neg (show ¬ y = (3 : Int32) from ny 3 (by omega)), if_neg (show ¬ y = (4 : Int32) from ny 4 (by omega))]
      exact ⟨_, rfl, rfl⟩
  · rw [h1, h2, bind_s, bind_s, if_pos rfl, if_pos rfl]
    exact ⟨_, rfl, rfl⟩
theorem QQ.vDrive (q : QQ T r B F hx 51 hm) (x : Int32) : ∃ v, f8_drive x hx = some v ∧ f9_drive x hm = some v := by
  have hT := q.t31
  have b6 := q.1.2.2.2.2.2.1
  have b7 := q.1.2.2.2.2.2.2.1
  unfold f8_drive f9_drive
  rw [q.told.2, bind_s, qj_e, qj_e, if_neg q1f, q.rm (show 1 < 8 by omega)]
  rcases in0 (hm := hm) (n := r 1) x (by omega) with ⟨i, hi, rfl, g1, g2, g3, g4⟩ | ⟨g1, g4⟩
  · rw [g4, bind_s, if_neg q1f, if_pos (nI_pos' (by omega))]
    rcases q.tapeIn (k := i) (by omega) with ⟨b, -, -, t1, t2⟩ | ⟨-, t1, t2⟩
    · rw [t1, t2]; exact ⟨_, rfl, rfl⟩
    · rw [t1, t2]; exact ⟨_, rfl, rfl⟩
  · rw [g4, bind_s, if_pos rfl]
    refine ⟨_, ?_, rfl⟩
    rcases g1 with g1 | ⟨g1, g2, g3⟩
    · have : ¬ (0 : Int32) ≤ x := by
        rw [Int32.not_le]
        exact g1
      rw [if_neg this]
    · have : (0 : Int32) ≤ x := by
        rw [← Int32.not_lt]
        exact g1
      rw [if_pos this]
      obtain ⟨i, hi, rfl⟩ := nI_of g1
      have hri : r 1 ≤ i := (nI_leI (by omega) hi).mp g2
      -- no tape in a drive beyond the last
      have key := find_loop0 (fun m x5 => f7_tapeIn_L2 51 (nI i) hx (fun _ => some (-1 : Int32)) m x5) (some (-1)) (fun b => some (nI b)) (fun b => hx.1 52 b = nI i) T (by omega) (fun m b hb => by
        have h1 := nI_ge hb (show T < 2 ^ 31 by omega)
        refine ⟨fun hp => ?_, fun hp => ?_⟩
        · show f7_tapeIn_L2 51 (nI i) hx _ (m + 1) (nI b) = _
          rw [f7_tapeIn_L2, q.Tx, if_neg h1, q8 (show b < 8 by omega), qg_t, ix_nI (by omega), if_pos hp]
        · show f7_tapeIn_L2 51 (nI i) hx _ (m + 1) (nI b) = f7_tapeIn_L2 51 (nI i) hx _ m (nI (b + 1))
          rw [f7_tapeIn_L2, q.Tx, if_neg h1, q8 (show b < 8 by omega), qg_t, ix_nI (by omega), if_neg hp, qlt_e, nI_1]) (fun m => by
        show f7_tapeIn_L2 51 (nI i) hx _ (m + 1) (nI T) = _
        rw [f7_tapeIn_L2, q.Tx, if_pos (nI_le (Nat.le_refl _) (by omega))])
      have tn : f7_tapeIn 51 (nI i) hx = some (-1) := by
        unfold f7_tapeIn
        rcases key with ⟨b, hb, hp, -, -⟩ | ⟨-, e⟩
        · exfalso
          rcases (q.tp hb).1 with ⟨h1, -⟩ | ⟨d, hd, h1, -⟩
          · have h1 : hx.1 52 b = -1 := h1
            rw [hp] at h1
            exact nI_m1 hi h1
          · have h1 : hx.1 52 b = nI d := h1
            rw [hp] at h1
            have := (nI_eq hi (by omega)).mp h1
            omega
        · exact e
      rw [tn, bind_s]
theorem lab_eq (hT : T ≤ 8) (hx6 : hx.1 6 1 = nI T) (hm12 : hm.1 0 12 = nI T) (lb : ∀ t, t < T → hx.1 8 t = hm.1 6 t) (x : Int32) : ∃ v, f8_labelled x hx = some v ∧ f9_labelled x hm = some v := by
  unfold f8_labelled f9_labelled
  have k1 := find_loop0 (fun m x5 => f8_labelled_L2 x hx (fun _ => some (-1 : Int32)) m x5) (some (-1)) (fun b => some (nI b)) (fun b => hm.1 6 b = x) T (by omega) (fun m b hb => by
    have h1 := nI_ge hb (show T < 2 ^ 31 by omega)
    refine ⟨fun hp => ?_, fun hp => ?_⟩
    · show f8_labelled_L2 x hx _ (m + 1) (nI b) = _
      rw [f8_labelled_L2, hx6, if_neg h1, q8 (show b < 8 by omega), qg_t, ix_nI (by omega), lb b hb, if_pos hp]
    · show f8_labelled_L2 x hx _ (m + 1) (nI b) = f8_labelled_L2 x hx _ m (nI (b + 1))
      rw [f8_labelled_L2, hx6, if_neg h1, q8 (show b < 8 by omega), qg_t, ix_nI (by omega), lb b hb, if_neg hp, qlt_e, nI_1]) (fun m => by
    show f8_labelled_L2 x hx _ (m + 1) (nI T) = _
    rw [f8_labelled_L2, hx6, if_pos (nI_le (Nat.le_refl _) (by omega))])
  have k2 := find_loop0 (fun m x5 => f9_labelled_L2 x hm (fun _ => some (-1 : Int32)) m x5) (some (-1)) (fun b => some (nI b)) (fun b => hm.1 6 b = x) T (by omega) (fun m b hb => by
    have h1 := nI_ge hb (show T < 2 ^ 31 by omega)
    refine ⟨fun hp => ?_, fun hp => ?_⟩
    · show f9_labelled_L2 x hm _ (m + 1) (nI b) = _
      rw [f9_labelled_L2, hm12, if_neg h1, q8 (show b < 8 by omega), qg_t, ix_nI (by omega), if_pos hp]
    · show f9_labelled_L2 x hm _ (m + 1) (nI b) = f9_labelled_L2 x hm _ m (nI (b + 1))
      rw [f9_labelled_L2, hm12, if_neg h1, q8 (show b < 8 by omega), qg_t, ix_nI (by omega), if_neg hp, qlt_e, nI_1]) (fun m => by
    show f9_labelled_L2 x hm _ (m + 1) (nI T) = _
    rw [f9_labelled_L2, hm12, if_pos (nI_le (Nat.le_refl _) (by omega))])
  rcases k1 with ⟨b, hb, hp, hl, e⟩ | ⟨hno, e⟩
  · rcases k2 with ⟨b', hb', hp', hl', e'⟩ | ⟨hno', -⟩
    · have : b = b' := by
        rcases Nat.lt_trichotomy b b' with h9 | h9 | h9
        · exact absurd hp (hl' b h9)
        · exact h9
        · exact absurd hp' (hl b' h9)
      subst this
      exact ⟨_, e, e'⟩
    · exact absurd hp (hno' b hb)
  · rcases k2 with ⟨b', hb', hp', -, -⟩ | ⟨-, e'⟩
    · exact absurd hp' (hno b' hb')
    · exact ⟨_, e, e'⟩
theorem QQ.isPlace (q : QQ T r B F hx 51 hm) (x : Int32) : ∃ z, f4_isPlace 6 x hx = some z ∧ f9_isPlace x hm = some z := by
  have b5 := q.1.2.2.2.2.1
  have b7 := q.1.2.2.2.2.2.2.1
  unfold f4_isPlace f9_isPlace
  have r0 : hx.1 7 0 = nI (r 0) := q.rx (by omega)
  have r1 : hx.1 7 1 = nI (r 1) := q.rx (by omega)
  rw [q.told.1, q.told.2, bind_s, bind_s, qj_e, qj_e, if_neg q1f, if_neg q1f, q.rm (show 0 < 8 by omega), q.rm (show 1 < 8 by omega), show (6 : Nat) + 1 = 7 from rfl, r0, r1, nI_add]
  rcases in0 (hm := hm) (n := r 0 + r 1) x (by omega) with ⟨i, hi, rfl, g1, g2, g3, g4⟩ | ⟨g1, g4⟩
  · rw [g4, bind_s, if_neg q1f, if_neg g1, if_neg g3]
    exact ⟨1, rfl, rfl⟩
  · rw [g4, bind_s, if_pos rfl]
    refine ⟨0, ?_, rfl⟩
    rcases g1 with g1 | ⟨g1, g2, g3⟩
    · rw [if_pos g1]; rfl
    · rw [if_neg g1, if_pos g2]; rfl
theorem QQ.vWay (q : QQ T r B F hx 51 hm) (x y : Int32) : ∃ v, f8_way x y hx = some v ∧ f9_way x y hm = some v := by
  unfold f8_way f9_way
  obtain ⟨z1, a1, a2⟩ := q.isPlace x
  obtain ⟨z2, b1, b2⟩ := q.isPlace y
  rw [a1, a2, bind_s, bind_s, qj_e, qj_e]
  by_cases e1 : z1 = 0
  · rw [if_pos e1, if_pos e1]; exact ⟨_, rfl, rfl⟩
  · rw [if_neg e1, if_neg e1, b1, b2, bind_s, bind_s]
    by_cases e2 : z2 = 0
    · rw [if_pos e2, if_pos e2]; exact ⟨_, rfl, rfl⟩
    · rw [if_neg e2, if_neg e2, q.arm x y, bind_s, f9_apart_eq, bind_s, q.rm (show 5 < 8 by omega)]
      exact ⟨_, rfl, rfl⟩
theorem QQ.isBlock (q : QQ T r B F hx 51 hm) (x : Int32) : (∃ i, i < r 2 * r 3 ∧ x = nI i ∧ f4_isBlock 6 x hx = some 1 ∧ f9_isBlock x hm = some 1) ∨ (f4_isBlock 6 x hx = some 0 ∧ f9_isBlock x hm = some 0) := by
  have hL := q.L96
  unfold f4_isBlock f9_isBlock
  rw [q.told.2, bind_s, qj_e, if_neg q1f, q.bot, bind_s, qlt_e, q.2.1.2.2.1]
  rcases in0 (hm := hm) (n := r 2 * r 3) x (by omega) with ⟨i, hi, rfl, g1, g2, g3, g4⟩ | ⟨g1, g4⟩
  · refine Or.inl ⟨i, hi, rfl, ?_, ?_⟩
    · rw [if_neg g1, if_neg g3]; rfl
    · rw [g4, bind_s, if_neg q1f]; rfl
  · refine Or.inr ⟨?_, ?_⟩
    · rcases g1 with g1 | ⟨g1, g2, g3⟩
      · rw [if_pos g1]; rfl
      · rw [if_neg g1, if_pos g2]; rfl
    · rw [g4, bind_s, if_pos rfl]; rfl
theorem QQ.vSeek (q : QQ T r B F hx 51 hm) (x y : Int32) : ∃ v, f8_seek x y hx = some v ∧ f9_seek x y hm = some v := by
  unfold f8_seek f9_seek
  simp only [qj_e]
  rcases q.isBlock x with ⟨i, hi, rfl, a1, a2⟩ | ⟨a1, a2⟩
  · rw [a1, a2, bind_s, bind_s, if_neg q1f, if_neg q1f]
    rcases q.isBlock y with ⟨j, hj, rfl, b1, b2⟩ | ⟨b1, b2⟩
    · rw [b1, b2, bind_s, bind_s, if_neg q1f, if_neg q1f, (q.seek hi hj).1, (q.seek hi hj).2]
      exact ⟨_, rfl, rfl⟩
    · rw [b1, b2, bind_s, bind_s, if_pos rfl, if_pos rfl]
      exact ⟨_, rfl, rfl⟩
  · rw [a1, a2, bind_s, bind_s, if_pos rfl, if_pos rfl]
    exact ⟨_, rfl, rfl⟩
theorem QQ.vPath (q : QQ T r B F hx 51 hm) (x y w : Int32) : ∃ v, f8_path x y w hx = some v ∧ f9_path x y w hm = some v := by
  have hT := q.t31
  have hL := q.L96
  have h2 := q.r2
  unfold f8_path f9_path
  rcases q.isThere x with ⟨f, hf, rfl, hne, h1, h2'⟩ | ⟨h1, h2'⟩
  · obtain ⟨e7, e8, e9, -, -⟩ := q.fl hf
    have e8 : hx.1 59 f = hm.1 9 (72 + f) := e8
    have e9 : hx.1 60 f = hm.1 9 (96 + f) := e9
    obtain ⟨n1, n2, n3, n4⟩ := q.fN hf
    have n1' : hm.1 9 (72 + f) = nI (ix (hm.1 9 (72 + f))) := n1
    have n2' : hm.1 9 (96 + f) = nI (ix (hm.1 9 (96 + f))) := n2
    have hfit : ix (hm.1 9 (72 + f)) + ix (hm.1 9 (96 + f)) ≤ r 2 * r 3 := by
      rcases (q.2.2.2.2.2.2.2.1 f hf).2.1 with ⟨j, -⟩ | ⟨⟨u, hu, k1, k2⟩, -⟩
      · exact absurd j hne
      · have := (q.2.2.2.2.2.1 u hu).2.1
        omega
    rw [h1, h2', bind_s, bind_s, if_neg q1f, if_neg q1f, q24 (show f < 24 by omega), qg_t, ix_nI (by omega), la_96, la_72, q353 (show 96 + f < 353 by omega), qg_t, i353 (show 96 + f < 353 by omega), q353 (show 72 + f < 353 by omega), i353 (show 72 + f < 353 by omega), e8, e9]
    simp only [qg_t]
    generalize ix (hm.1 9 (72 + f)) = sB at n1' hfit
    generalize ix (hm.1 9 (96 + f)) = bB at n2' hfit n3 n4
    rw [n1', n2']
    rcases in0 (hm := hm) (n := bB) y (by omega) with ⟨i, hi, rfl, g1, g2, g3, g4⟩ | ⟨g1, g4⟩
    · rw [g4, bind_s, if_neg q1f, if_neg g1, if_neg g3]
      rcases inB (hm := hm) w 1 (by omega) with ⟨j, hj, rfl, p1, p2, p4⟩ | ⟨p1, p4⟩
      · have p4 : f9_in (nI j) 0 1 hm = some 1 := p4
        have p2 : nI j ≤ 1 := p2
        have hb : f4_isBlock 6 (nI (sB + i)) hx = some 1 := by
          rcases q.isBlock (nI (sB + i)) with ⟨b, -, -, a1, -⟩ | ⟨-, a2⟩
          · exact a1
          · exfalso
            unfold f9_isBlock at a2
            rw [q.told.2, bind_s, qj_e, if_neg q1f, q.bot, bind_s] at a2
            rcases in0 (hm := hm) (n := r 2 * r 3) (nI (sB + i)) (by omega) with ⟨b, hb, eb, -, -, -, g9⟩ | ⟨g8, -⟩
            · rw [g9, bind_s, if_neg q1f] at a2
              exact absurd (Option.some.inj a2) (by decide)
            · rcases g8 with g8 | ⟨-, g8, -⟩
              · exact nI_pos (by omega) g8
              · exact nI_ge (by omega) (by omega) g8
        rw [p4, bind_s, if_neg q1f, if_neg p1, if_pos p2, qlt_e, qlt_e, nI_add, hb, bind_s, if_neg q1f, qj_e, qj_e]
        obtain ⟨x3, x4⟩ := q.2.1.2.2.2 (sB + i) (by omega)
        by_cases e : nI j = 0
        · rw [if_pos e, if_pos e, qin_nI (show sB + i < 96 by omega) (by omega), qg_t, ix_nI (by omega), x3, f9_spotOf_eq (q.rm (show 2 < 8 by omega)) (by omega) (by omega) (by omega), bind_s]
          exact ⟨_, rfl, rfl⟩
        · rw [if_neg e, if_neg e, qin_nI (show sB + i < 96 by omega) (by omega), qg_t, ix_nI (by omega), x4, f9_wrapOf_eq (q.rm (show 2 < 8 by omega)) (by omega) (by omega) (by omega), bind_s]
          exact ⟨_, rfl, rfl⟩
      · have p4 : f9_in w 0 1 hm = some 0 := p4
        rw [p4, bind_s, if_pos rfl]
        refine ⟨_, ?_, rfl⟩
        rcases p1 with p1 | ⟨p1, p2⟩
        · rw [if_pos p1]
        · have p2 : ¬ w ≤ 1 := p2
          rw [if_neg p1, if_neg p2]
    · rw [g4, bind_s, if_pos rfl]
      refine ⟨_, ?_, rfl⟩
      rcases g1 with g1 | ⟨g1, g2, g3⟩
      · rw [if_pos g1]
      · rw [if_neg g1, if_pos g2]
  · rw [h1, h2', bind_s, bind_s, if_pos rfl, if_pos rfl]
    exact ⟨_, rfl, rfl⟩
theorem QQ.vShares (q : QQ T r B F hx 51 hm) (x y : Int32) : ∃ v, f8_shares x y hx = some v ∧ f9_shares x y hm = some v := by
  have hT := q.t31
  unfold f8_shares f9_shares
  rcases q.isTape x with ⟨t, ht, rfl, h1, h2⟩ | ⟨h1, h2⟩
  · rw [h1, h2, bind_s, bind_s, if_neg q1f, if_neg q1f]
    rcases inB (hm := hm) y 999 (by omega) with ⟨i, hi, rfl, g1, g2, g4⟩ | ⟨g1, g4⟩
    · have g4 : f9_in (nI i) 0 999 hm = some 1 := g4
      have g2 : nI i ≤ 999 := g2
      rw [g4, bind_s, if_neg q1f, if_neg g1, if_pos g2]
      obtain ⟨bv, c1, c2⟩ := q.blocksOn (nI t)
      obtain ⟨s, -, e⟩ := lq10 (σ := Int32) (γ := (Int32 → Int32 → Option Int32) → Option Int32 × Option Int32) (fun m s z kk => (f8_shares_L29 (nI t) (nI i) hx kk m s z, f9_shares_L26 (nI t) (nI i) hm kk m s z)) (fun s z kk => (kk s z, kk s z)) (fun _ _ => True) T (by omega) 0 trivial (fun j s hj _ => by
        have p1 := nI_ge hj (show T < 2 ^ 31 by omega)
        obtain ⟨v, d1, d2⟩ := q.blocksOn (nI j)
        refine ⟨s + v, trivial, fun m => funext fun kk => ?_⟩
        show (f8_shares_L29 (nI t) (nI i) hx kk (m + 1) s (nI j), f9_shares_L26 (nI t) (nI i) hm kk (m + 1) s (nI j)) = (f8_shares_L29 (nI t) (nI i) hx kk m (s + v) (nI (j + 1)), f9_shares_L26 (nI t) (nI i) hm kk m (s + v) (nI (j + 1)))
        congr 1
        · rw [f8_shares_L29, q.Tx, if_neg p1, d1, bind_s, qlt_e, qlt_e, nI_1]
        · rw [f9_shares_L26, q.Tm, if_neg p1, d2, bind_s, qlt_e, qlt_e, nI_1]) (fun m s _ => funext fun kk => by
        show (f8_shares_L29 (nI t) (nI i) hx kk (m + 1) s (nI T), f9_shares_L26 (nI t) (nI i) hm kk (m + 1) s (nI T)) = _
        congr 1
        · rw [f8_shares_L29, q.Tx, if_pos (nI_le (Nat.le_refl _) (by omega))]
        · rw [f9_shares_L26, q.Tm, if_pos (nI_le (Nat.le_refl _) (by omega))])
      have ex := fun kk => congrArg Prod.fst (congrFun e kk)
      have em := fun kk => congrArg Prod.snd (congrFun e kk)
      have ex : ∀ kk, f8_shares_L29 (nI t) (nI i) hx kk qN 0 0 = kk s (nI T) := ex
      have em : ∀ kk, f9_shares_L26 (nI t) (nI i) hm kk qN 0 0 = kk s (nI T) := em
      rw [ex, em, qj_e, qj_e]
      by_cases hs : s = 0
      · rw [if_pos hs, if_pos hs]; exact ⟨_, rfl, rfl⟩
      · rw [if_neg hs, if_neg hs, c1, c2]
        simp only [bind_s, decide_eq_true hs, qg_t]
        exact ⟨_, rfl, rfl⟩
    · have g4 : f9_in y 0 999 hm = some 0 := g4
      rw [g4, bind_s, if_pos rfl]
      refine ⟨_, ?_, rfl⟩
      rcases g1 with g1 | ⟨g1, g2⟩
      · rw [if_pos g1]
      · have g2 : ¬ y ≤ 999 := g2
        rw [if_neg g1, if_neg g2]
  · rw [h1, h2, bind_s, bind_s, if_pos rfl, if_pos rfl]
    exact ⟨_, rfl, rfl⟩
theorem QQ.vMost (q : QQ T r B F hx 51 hm) (x : Int32) : ∃ v, f8_most x hx = some v ∧ f9_most x hm = some v := by
  unfold f8_most f9_most
  rw [q.told.1, q.told.2, bind_s, bind_s, if_neg q1f, if_neg q1f]
  rcases inB (hm := hm) x 10 (by omega) with ⟨i, hi, rfl, g1, g2, g4⟩ | ⟨g1, g4⟩
  · have g4 : f9_in (nI i) 0 10 hm = some 1 := g4
    rw [g4, bind_s, if_neg q1f]
    have s12 := q.2.2.2.1.1
    rcases (show i = 0 ∨ i = 1 ∨ i = 2 ∨ i = 3 ∨ i = 4 ∨ i = 5 ∨ i = 6 ∨ i = 7 ∨ i = 8 ∨ i = 9 ∨ i = 10 by omega) with rfl | rfl | rfl | rfl | rfl | rfl | rfl | rfl | rfl | rfl | rfl
    · rw [if_pos (by decide), if_pos (by decide)]
      exact ⟨_, rfl, by rw [s12.1]⟩
    · rw [if_neg (by decide), if_pos (by decide), if_neg (by decide), if_pos (by decide)]
      exact ⟨_, rfl, by rw [s12.2.1]⟩
    · obtain ⟨v, c1, c2⟩ := q.inDrives
      exact ⟨v, by rw [if_neg (by decide), if_neg (by decide), if_pos (by decide), c1, bind_s], by rw [if_neg (by decide), if_neg (by decide), if_pos (by decide), c2, bind_s]⟩
    · obtain ⟨v, c1, c2⟩ := q.weak
      exact ⟨v, by rw [if_neg (by decide), if_neg (by decide), if_neg (by decide), if_pos (by decide), c1, bind_s], by rw [if_neg (by decide), if_neg (by decide), if_neg (by decide), if_pos (by decide), c2, bind_s]⟩
    · obtain ⟨v, c1, c2⟩ := q.held
      exact ⟨v, by rw [if_neg (by decide), if_neg (by decide), if_neg (by decide), if_neg (by decide), if_pos (by decide), c1, bind_s], by rw [if_neg (by decide), if_neg (by decide), if_neg (by decide), if_neg (by decide), if_pos (by decide), c2, bind_s]⟩
    · obtain ⟨v, -, c1, c2⟩ := q.known
      exact ⟨nI v, by rw [if_neg (by decide), if_neg (by decide), if_neg (by decide), if_neg (by decide), if_neg (by decide), if_pos (by decide), c1, bind_s], by rw [if_neg (by decide), if_neg (by decide), if_neg (by decide), if_neg (by decide), if_neg (by decide), if_pos (by decide), c2, bind_s]⟩
    · obtain ⟨c1, c2⟩ := q.askedAll
      exact ⟨_, by rw [if_neg (by decide), if_neg (by decide), if_neg (by decide), if_neg (by decide), if_neg (by decide), if_neg (by decide), if_pos (by decide), c1, bind_s], by rw [if_neg (by decide), if_neg (by decide), if_neg (by decide), if_neg (by decide), if_neg (by decide), if_neg (by decide), if_pos (by decide), c2, bind_s]⟩
    · obtain ⟨v, c1, c2⟩ := q.mended
      exact ⟨v, by rw [if_neg (by decide), if_neg (by decide), if_neg (by decide), if_neg (by decide), if_neg (by decide), if_neg (by decide), if_neg (by decide), if_pos (by decide), c1, bind_s], by rw [if_neg (by decide), if_neg (by decide), if_neg (by decide), if_neg (by decide), if_neg (by decide), if_neg (by decide), if_neg (by decide), if_pos (by decide), c2, bind_s]⟩
    · obtain ⟨v, c1, c2⟩ := q.roomiest
      exact ⟨v, by rw [if_neg (by decide), if_neg (by decide), if_neg (by decide), if_neg (by decide), if_neg (by decide), if_neg (by decide), if_neg (by decide), if_neg (by decide), if_pos (by decide), c1, bind_s], by rw [if_neg (by decide), if_neg (by decide), if_neg (by decide), if_neg (by decide), if_neg (by decide), if_neg (by decide), if_neg (by decide), if_neg (by decide), if_pos (by decide), c2, bind_s]⟩
    · obtain ⟨v, -, c1, c2⟩ := q.oldest
      exact ⟨v, by rw [if_neg (by decide), if_neg (by decide), if_neg (by decide), if_neg (by decide), if_neg (by decide), if_neg (by decide), if_neg (by decide), if_neg (by decide), if_neg (by decide), if_pos (by decide), c1, bind_s], by rw [if_neg (by decide), if_neg (by decide), if_neg (by decide), if_neg (by decide), if_neg (by decide), if_neg (by decide), if_neg (by decide), if_neg (by decide), if_neg (by decide), if_pos (by decide), c2, bind_s]⟩
    · obtain ⟨v, c1, c2⟩ := q.emptyTapes
      exact ⟨v, by rw [if_neg (by decide), if_neg (by decide), if_neg (by decide), if_neg (by decide), if_neg (by decide), if_neg (by decide), if_neg (by decide), if_neg (by decide), if_neg (by decide), if_neg (by decide), if_pos (by decide), c1, bind_s], by rw [if_neg (by decide), if_neg (by decide), if_neg (by decide), if_neg (by decide), if_neg (by decide), if_neg (by decide), if_neg (by decide), if_neg (by decide), if_neg (by decide), if_neg (by decide), c2, bind_s]⟩
  · have g4 : f9_in x 0 10 hm = some 0 := g4
    rw [g4, bind_s, if_pos rfl]
    have ny : ∀ i, i ≤ 10 → ¬ x = nI i := fun i hi e => by
      subst e
      rcases g1 with g1 | ⟨g1, g2⟩
      · exact nI_pos (by omega) g1
      · exact g2 (nI_le hi (by omega))
    rw [if_neg (show ¬ x = (0 : Int32) from ny 0 (by omega)), if_neg (show ¬ x = (1 : Int32) from ny 1 (by omega)), if_neg (show ¬ x = (2 : Int32) from ny 2 (by omega)), if_neg (show ¬ x = (3 : Int32) from ny 3 (by omega)), if_neg (show ¬ x = (4 : Int32) from ny 4 (by omega)), if_neg (show ¬ x = (5 : Int32) from ny 5 (by omega)), if_neg (show ¬ x = (6 : Int32) from ny 6 (by omega)), if_neg (show ¬ x = (7 : Int32) from ny 7 (by omega)), if_neg (show ¬ x = (8 : Int32) from ny 8 (by omega)), if_neg (show ¬ x = (9 : Int32) from ny 9 (by omega)), if_neg (show ¬ x = (10 : Int32) from ny 10 (by omega))]
    exact ⟨_, rfl, rfl⟩
theorem QQ.vTarget (q : QQ T r B F hx 51 hm) (x : Int32) : ∃ v, f8_target x hx = some v ∧ f9_target x hm = some v := by
  have hT := q.t31
  unfold f8_target f9_target
  simp only [qj_e]
  rcases q.isTape x with ⟨t, ht, rfl, h1, h2⟩ | ⟨h1, h2⟩
  · obtain ⟨c, s, hc, -, t1, t2, t3, t4⟩ := q.target (nI t)
    rw [h1, h2, bind_s, bind_s, if_neg q1f, if_neg q1f, t4, bind_s, t2, bind_s]
    by_cases e : c = 0
    · rw [if_pos e, e, if_pos (by decide)]; exact ⟨_, rfl, rfl⟩
    · rw [if_neg e, if_neg (nI_nle (by omega) (by omega)), t3, bind_s]; exact ⟨_, rfl, rfl⟩
  · rw [h1, h2, bind_s, bind_s, if_pos rfl, if_pos rfl]
    exact ⟨_, rfl, rfl⟩
theorem QQ.vIdle (q : QQ T r B F hx 51 hm) (x : Int32) : ∃ v, f8_idle x hx = some v ∧ f9_idle x hm = some v := by
  obtain ⟨w, w1, w2, w3, -⟩ := q.refuse (s := 9) (x := x) (y := -1) (x' := x) (y' := -1) (by omega) ⟨fun _ _ _ => rfl, by omega⟩
  have w1 : f7_refusal 51 9 x (-1) hx = some w := w1
  unfold f9_whyNot at w2
  rw [if_neg (by decide), if_neg (by decide), if_neg (by decide), if_neg (by decide), if_neg (by decide), if_neg (by decide), if_neg (by decide), if_neg (by decide), if_neg (by decide), if_pos (by decide), q.told.2, bind_s, qj_e, if_neg q1f] at w2
  unfold f8_idle f9_idle
  rw [w1, bind_s, q.told.2, bind_s, qj_e, qj_e, if_neg q1f]
  rw [f9_in_eq, bind_s] at w2 ⊢
  by_cases e : (if x < 1 then (0 : Int32) else if (99 : Int32) < x then 0 else 1) = 0
  · rw [if_pos e] at w2 ⊢
    have : ¬ w = -1 := by
      rw [← Option.some.inj w2]; decide
    rw [if_neg this]
    exact ⟨_, rfl, rfl⟩
  · rw [if_neg e] at w2 ⊢
    have hw : w = -1 := (Option.some.inj w2).symm
    rw [if_pos hw, q.2.2.2.1.1.1]
    obtain ⟨v, c1, c2⟩ := q.idle (hm.1 9 170 + x)
    rw [c1, c2]
    exact ⟨_, rfl, rfl⟩
theorem QQ.vTakes (q : QQ T r B F hx 51 hm) (x y : Int32) : ∃ v hx' hm', f8_takes x y hx = some (v, hx') ∧ f9_takes x y hm = some (v, hm') ∧ TF hx hx' hm hm' := by
  have ka : kStage 51 := Or.inl rfl
  have hT := q.t31
  unfold f8_takes f9_takes
  simp only [qj_e]
  rcases q.isTape x with ⟨t, ht, rfl, h1, h2⟩ | ⟨h1, h2⟩
  · rw [h1, h2, bind_s, bind_s, if_neg q1f, if_neg q1f]
    rcases in0 (hm := hm) (n := 3) y (by omega) with ⟨i, hi, rfl, g1, g2, g3, g4⟩ | ⟨g1, g4⟩
    · have g4 : f9_in (nI i) 0 2 hm = some 1 := g4
      have g2 : nI i < 3 := g2
      obtain ⟨p0, hp0, e1, e2⟩ := q.headOf ht
      obtain ⟨g, h2', c1, ga, c2, c3, c4⟩ := q.gather ka ht
      have hX2 : HX T r h2' := by
        have := q.2.1
        unfold HX at this ⊢
        rw [c3 6 (by omega), c3 7 (by omega), c3 12 (by omega), c3 13 (by omega)]
        exact this
      obtain ⟨w, t1, -⟩ := timeOf hX2 q.1 q.2.2.2.2 ga (show t < 2 ^ 31 by omega) (q.ak12 ht) hi hp0 (c2.trans e2)
      obtain ⟨w', l1, -⟩ := q.lays ht hi hp0
      rw [g4, bind_s, if_neg q1f, if_neg g1, if_pos g2, c1, bind_s, t1, qb2_s, e1, bind_s, l1, qb2_s]
      refine ⟨_, _, _, rfl, rfl, fun b p1 p2 p3 => ?_, fun j hj => ?_, fun b p1 p2 p3 p4 p5 p6 => ?_, fun j p1 p2 p3 => ?_⟩
      · rw [qrow_ne (by omega), c3 b (by omega)]
      · rw [qrow_ne (by omega), c3 0 (by omega)]
      · rw [hL_o p1 p2]
      · rw [hL_0, upd_ne p2]
    · have g4 : f9_in y 0 2 hm = some 0 := g4
      rw [g4, bind_s, if_pos rfl]
      refine ⟨_, hx, hm, ?_, rfl, TF.rf⟩
      rcases g1 with g1 | ⟨g1, g2, g3⟩
      · rw [if_pos g1]
      · have g3 : ¬ y < 3 := g3
        rw [if_neg g1, if_neg g3]
  · rw [h1, h2, bind_s, bind_s, if_pos rfl, if_pos rfl]
    exact ⟨_, hx, hm, rfl, rfl, TF.rf⟩
end PH1
