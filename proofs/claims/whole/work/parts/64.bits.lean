/-! sets of tapes as bits -/
theorem bt_or : ∀ (w : Fin 256) (i : Fin 8), nI w.val ||| ((1 : Int32) <<< (nI i.val &&& 31)) = nI (w.val ||| 2 ^ i.val) := by decide +kernel
theorem bt_has : ∀ (w : Fin 256) (i : Fin 8), ((nI w.val >>> (nI i.val &&& 31)) &&& 1 = 1) ↔ w.val.testBit i.val = true := by decide +kernel
theorem bt_or0 (x : Int32) : x ||| 0 = x := by simp
theorem bt_lt {w i : Nat} (hi : i < 8) (hw : w < 2 ^ i) : w < 256 := Nat.lt_of_lt_of_le hw (Nat.pow_le_pow_right (by omega) (by omega : i ≤ 8))
/-- s is the set of those below n of which P holds -/
def isSet (n : Nat) (P : Nat → Prop) (s : Int32) : Prop := ∃ w : Nat, w < 2 ^ n ∧ s = nI w ∧ ∀ j, j < n → (w.testBit j = true ↔ P j)
theorem isSet_0 {P : Nat → Prop} : isSet 0 P 0 := ⟨0, by decide, rfl, fun j hj => by omega⟩
theorem isSet_no {n : Nat} {P : Nat → Prop} {s : Int32} (h : isSet n P s) (hn : n < 8) (hp : ¬ P n) : isSet (n + 1) P (s ||| 0) := by
  obtain ⟨w, h1, h2, h3⟩ := h
  refine ⟨w, by rw [Nat.pow_succ]; omega, by rw [bt_or0]; exact h2, fun j hj => ?_⟩
  by_cases e : j = n
  · subst e
    rw [Nat.testBit_lt_two_pow h1]
    exact ⟨fun z => (by cases z), fun z => absurd z hp⟩
  · exact h3 j (by omega)
theorem isSet_yes {n : Nat} {P : Nat → Prop} {s : Int32} (h : isSet n P s) (hn : n < 8) (hp : P n) : isSet (n + 1) P (s ||| ((1 : Int32) <<< (nI n &&& 31))) := by
  obtain ⟨w, h1, h2, h3⟩ := h
  refine ⟨w ||| 2 ^ n, ?_, by rw [h2]; exact bt_or ⟨w, bt_lt hn h1⟩ ⟨n, hn⟩, fun j hj => ?_⟩
  · exact Nat.or_lt_two_pow (Nat.lt_of_lt_of_le h1 (Nat.pow_le_pow_right (by omega) (by omega))) (Nat.pow_lt_pow_right (by omega) (by omega))
  · rw [Nat.testBit_or, Bool.or_eq_true]
    by_cases e : j = n
    · subst e
      rw [Nat.testBit_two_pow_self]
      exact ⟨fun _ => hp, fun _ => Or.inr rfl⟩
    · rw [Nat.testBit_two_pow_of_ne (Ne.symm e), h3 j (by omega)]
      simp
theorem isSet_has {n : Nat} {P : Nat → Prop} {s : Int32} (h : isSet n P s) (hn : n ≤ 8) {j : Nat} (hj : j < n) : ((s >>> (nI j &&& 31)) &&& 1 = 1) ↔ P j := by
  obtain ⟨w, h1, h2, h3⟩ := h
  rw [h2, bt_has ⟨w, Nat.lt_of_lt_of_le h1 (Nat.pow_le_pow_right (by omega) hn)⟩ ⟨j, by omega⟩]
  exact h3 j hj
section PD
variable {T B F a : Nat} {r : Nat → Nat} {hx hm : qH}
theorem f9_has_eq {n : Nat} {P : Nat → Prop} {s : Int32} (h : isSet n P s) (hn : n ≤ 8) {j : Nat} (hj : j < n) [Decidable (P j)] : f9_has s (nI j) hm = some (if P j then 1 else 0) := by
  unfold f9_has
  have := isSet_has h hn hj
  by_cases hp : P j
  · rw [if_pos (this.mpr hp), if_pos hp]
    rfl
  · rw [if_neg (fun z => hp (this.mp z)), if_neg hp]
    rfl
theorem QQ.weakS (q : QQ T r B F hx a hm) : ∃ v : Int32, isSet T (fun t => ¬ hm.1 9 (24 + t) ≤ nI (r 6) ∧ ∃ c, 0 < c ∧ c ≤ F ∧ f9_filesOn (nI t) hm = some (nI c)) v ∧ f7_weakTapes a hx = some v ∧ f9_weakOnes hm = some v := by
  have hT := q.t31
  have hb := q.1
  unfold f7_weakTapes f9_weakOnes
  obtain ⟨s, hI, h1, h2⟩ := up_loop20 (fun m s x => f7_weakTapes_L4 a hx (fun y _ => some y) m s x) (fun m s x => f9_weakOnes_L4 hm (fun y _ => some y) m s x) (fun s _ => some s) (fun s _ => some s) (fun i s => isSet i (fun t => ¬ hm.1 9 (24 + t) ≤ nI (r 6) ∧ ∃ c, 0 < c ∧ c ≤ F ∧ f9_filesOn (nI t) hm = some (nI c)) s) T (by omega) 0 isSet_0 (fun i s hi hv => by
    have g1 := nI_ge hi (show T < 2 ^ 31 by omega)
    obtain ⟨ep, e3, e4, e5, e6⟩ := q.tp hi
    obtain ⟨c, hc0, fx, fm⟩ := q.filesOn (nI i)
    refine ⟨s ||| (if hm.1 9 (24 + i) ≤ nI (r 6) then 0 else if nI c ≤ 0 then 0 else (1 : Int32) <<< (nI i &&& 31)), ?_, fun m => ?_, fun m => ?_⟩
    · by_cases h1 : hm.1 9 (24 + i) ≤ nI (r 6)
      · rw [if_pos h1]
        exact isSet_no hv (by omega) (fun z => z.1 h1)
      · rw [if_neg h1]
        by_cases h2 : c = 0
        · subst h2
          rw [if_pos (by decide)]
          exact isSet_no hv (by omega) (fun z => by
            obtain ⟨-, c', h3, h4, h5⟩ := z
            rw [fm] at h5
            have := (nI_eq (by omega) (by omega)).mp (Option.some.inj h5)
            omega)
        · rw [if_neg (nI_nle (by omega) (by omega))]
          exact isSet_yes hv (by omega) ⟨h1, c, by omega, hc0, fm⟩
    · show f7_weakTapes_L4 a hx _ (m + 1) _ (nI i) = f7_weakTapes_L4 a hx _ m _ (nI (i + 1))
      simp only [f7_weakTapes_L4, q.Tx, g1, q8 (show i < 8 by omega), ix_nI (show i < 2 ^ 31 by omega), e4, q.rx (show 6 < 8 by omega), fx, qj_e, qlt_e, qg_t, bind_s, nI_1, if_true, if_false]
      by_cases hc : hm.1 9 (24 + i) ≤ nI (r 6) <;> by_cases hd : nI c ≤ 0 <;> simp only [hc, hd, if_true, if_false]
    · show f9_weakOnes_L4 hm _ (m + 1) _ (nI i) = f9_weakOnes_L4 hm _ m _ (nI (i + 1))
      simp only [f9_weakOnes_L4, q.Tm, g1, q.isWeak hi fm, qj_e, qlt_e, qg_t, bind_s, nI_1, if_true, if_false]
      by_cases hc : hm.1 9 (24 + i) ≤ nI (r 6) <;> by_cases hd : nI c ≤ 0 <;> simp only [hc, hd, if_true, if_false, q1f]) (fun m s _ => by
    refine ⟨?_, ?_⟩
    · show f7_weakTapes_L4 a hx _ (m + 1) s (nI T) = _
      rw [f7_weakTapes_L4, q.Tx, if_pos (nI_le (Nat.le_refl _) (by omega))]
    · show f9_weakOnes_L4 hm _ (m + 1) s (nI T) = _
      rw [f9_weakOnes_L4, q.Tm, if_pos (nI_le (Nat.le_refl _) (by omega))])
  exact ⟨s, hI, h1, h2⟩
theorem QQ.idleS (q : QQ T r B F hx a hm) (w : Int32) : ∃ v : Int32, isSet T (fun t => ¬ hx.1 (a + 1) t = -1 ∧ ¬ w - hm.1 9 (40 + t) ≤ nI (r 7)) v ∧ f7_idleAt a w hx = some v ∧ f9_idleOnes w hm = some v := by
  have hT := q.t31
  have hb := q.1
  unfold f7_idleAt f9_idleOnes
  obtain ⟨s, hI, h1, h2⟩ := up_loop20 (fun m s x => f7_idleAt_L4 a w hx (fun y _ => some y) m s x) (fun m s x => f9_idleOnes_L4 w hm (fun y _ => some y) m s x) (fun s _ => some s) (fun s _ => some s) (fun i s => isSet i (fun t => ¬ hx.1 (a + 1) t = -1 ∧ ¬ w - hm.1 9 (40 + t) ≤ nI (r 7)) s) T (by omega) 0 isSet_0 (fun i s hi hv => by
    have g1 := nI_ge hi (show T < 2 ^ 31 by omega)
    obtain ⟨ep, e3, e4, e5, e6⟩ := q.tp hi
    have ed := q.dr hi
    refine ⟨s ||| (if hx.1 (a + 1) i = -1 then 0 else if w - hm.1 9 (40 + i) ≤ nI (r 7) then 0 else (1 : Int32) <<< (nI i &&& 31)), ?_, fun m => ?_, fun m => ?_⟩
    · by_cases hc : hx.1 (a + 1) i = -1
      · rw [if_pos hc]
        exact isSet_no hv (by omega) (fun z => z.1 hc)
      · rw [if_neg hc]
        by_cases hd : w - hm.1 9 (40 + i) ≤ nI (r 7)
        · rw [if_pos hd]
          exact isSet_no hv (by omega) (fun z => z.2 hd)
        · rw [if_neg hd]
          exact isSet_yes hv (by omega) ⟨hc, hd⟩
    · show f7_idleAt_L4 a w hx _ (m + 1) _ (nI i) = f7_idleAt_L4 a w hx _ m _ (nI (i + 1))
      simp only [f7_idleAt_L4, q.Tx, g1, q8 (show i < 8 by omega), ix_nI (show i < 2 ^ 31 by omega), e6, q.rx (show 7 < 8 by omega), qj_e, qlt_e, qg_t, bind_s, nI_1, if_true, if_false]
      by_cases hc : hx.1 (a + 1) i = -1 <;> by_cases hd : w - hm.1 9 (40 + i) ≤ nI (r 7) <;> simp only [hc, hd, if_true, if_false]
    · show f9_idleOnes_L4 w hm _ (m + 1) _ (nI i) = f9_idleOnes_L4 w hm _ m _ (nI (i + 1))
      simp only [f9_idleOnes_L4, q.Tm, g1, ed, q.rm (show 7 < 8 by omega), la_40, q353 (show 40 + i < 353 by omega), i353 (show 40 + i < 353 by omega), qj_e, qlt_e, qg_t, bind_s, nI_1, if_true, if_false]
      by_cases hc : hx.1 (a + 1) i = -1 <;> by_cases hd : w - hm.1 9 (40 + i) ≤ nI (r 7) <;> simp only [hc, hd, if_true, if_false, q1f]) (fun m s _ => by
    refine ⟨?_, ?_⟩
    · show f7_idleAt_L4 a w hx _ (m + 1) s (nI T) = _
      rw [f7_idleAt_L4, q.Tx, if_pos (nI_le (Nat.le_refl _) (by omega))]
    · show f9_idleOnes_L4 w hm _ (m + 1) s (nI T) = _
      rw [f9_idleOnes_L4, q.Tm, if_pos (nI_le (Nat.le_refl _) (by omega))])
  exact ⟨s, hI, h1, h2⟩
end PD
