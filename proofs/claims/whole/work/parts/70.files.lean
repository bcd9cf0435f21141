section PJ
variable {T B F a : Nat} {r : Nat → Nat} {hx hm : qH}
theorem nask_congr {N N' : Nat → Int32} : ∀ n, (∀ f, f < n → N' (144 + f) = N (144 + f)) → nask N' n = nask N n
  | 0, _ => rfl
  | n + 1, h => by
    show nask N' n + _ = nask N n + _
    rw [nask_congr n (fun f hf => h f (by omega)), h n (by omega)]
theorem isN_lt (x : Int32) : ix x < 2 ^ 31 := by
  have : x.toInt < 2 ^ 31 := Int32.toInt_lt x
  show x.toInt.toNat < 2 ^ 31
  omega
/-- a new file, behind all on a tape -/
theorem IN.new {N N' : Nat → Int32} {o c : Nat} (h : IN T r B F N) (hT : T ≤ 8) (hL : r 2 * r 3 ≤ 96) (hF : F < 24) (ho : o < T) (hc : 1 ≤ c) (hc9 : c ≤ 9) (he : ix (N (16 + o)) + c ≤ r 2 * r 3)
    (n168 : N' 168 = nI (F + 1)) (n48 : N' (48 + F) = nI o) (n72 : N' (72 + F) = N (16 + o)) (n96 : N' (96 + F) = nI c) (n120 : N' (120 + F) = 1) (n144 : N' (144 + F) = 0) (n16 : N' (16 + o) = nI (ix (N (16 + o)) + c)) (no : ∀ k, k ≠ 168 → k ≠ 48 + F → k ≠ 72 + F → k ≠ 96 + F → k ≠ 120 + F → k ≠ 144 + F → k ≠ 16 + o → N' k = N k) : IN T r B (F + 1) N' := by
  obtain ⟨⟨i1, i2, i3, i4⟩, i5, i6, i7, i8, i9, i10⟩ := h
  have f1 : ∀ f, f < F → N' (48 + f) = N (48 + f) ∧ N' (72 + f) = N (72 + f) ∧ N' (96 + f) = N (96 + f) ∧ N' (120 + f) = N (120 + f) ∧ N' (144 + f) = N (144 + f) := fun f hf => ⟨no _ (by omega) (by omega) (by omega) (by omega) (by omega) (by omega) (by omega), no _ (by omega) (by omega) (by omega) (by omega) (by omega) (by omega) (by omega), no _ (by omega) (by omega) (by omega) (by omega) (by omega) (by omega) (by omega), no _ (by omega) (by omega) (by omega) (by omega) (by omega) (by omega) (by omega), no _ (by omega) (by omega) (by omega) (by omega) (by omega) (by omega) (by omega)⟩
  have f4 : N' 171 = N 171 := no _ (by omega) (by omega) (by omega) (by omega) (by omega) (by omega) (by omega)
  have fe : ∀ t, t < T → isN (N' (16 + t)) ∧ ix (N (16 + t)) ≤ ix (N' (16 + t)) ∧ ix (N' (16 + t)) ≤ r 2 * r 3 := by
    intro t ht
    by_cases e : t = o
    · subst e
      rw [n16, ix_nI (by omega)]
      exact ⟨isN_nI (by omega), by omega, he⟩
    · rw [no _ (by omega) (by omega) (by omega) (by omega) (by omega) (by omega) (by omega)]
      exact ⟨(i5 t ht).1, Nat.le_refl _, (i5 t ht).2.1⟩
  have eo := (i5 o ho).1
  refine ⟨⟨n168, by omega, by rw [f4]; exact i3, by rw [f4]; exact i4⟩, fun t ht => ?_, fun t u ht hu => ?_, fun f hf => ?_, fun f g hf hg hne => ?_, fun f g hf hg => ?_, ?_⟩
  · refine ⟨(fe t ht).1, (fe t ht).2.2, ?_⟩
    rw [no t (by omega) (by omega) (by omega) (by omega) (by omega) (by omega) (by omega), no (8 + t) (by omega) (by omega) (by omega) (by omega) (by omega) (by omega) (by omega)]
    exact (i5 t ht).2.2
  · rw [no t (by omega) (by omega) (by omega) (by omega) (by omega) (by omega) (by omega), no u (by omega) (by omega) (by omega) (by omega) (by omega) (by omega) (by omega)]
    exact i6 t u ht hu
  · by_cases e : f = F
    · subst e
      rw [n48, n72, n96, n120, n144, ix_nI (show c < 2 ^ 31 by omega)]
      exact ⟨⟨eo, isN_nI (by omega), hc, hc9⟩, Or.inr ⟨⟨o, ho, rfl, by rw [n16, ix_nI (by omega)]; exact Nat.le_refl _⟩, Or.inr rfl⟩, rfl, Nat.zero_le _⟩
    · have hf' : f < F := by omega
      obtain ⟨g1, g2, g3, g4, g5⟩ := f1 f hf'
      rw [g1, g2, g3, g4, g5, f4]
      obtain ⟨j1, j2, j3⟩ := i7 f hf'
      refine ⟨j1, ?_, j3⟩
      rcases j2 with j2 | ⟨⟨t, ht, k1, k2⟩, j2⟩
      · exact Or.inl j2
      · exact Or.inr ⟨⟨t, ht, k1, Nat.le_trans k2 (fe t ht).2.1⟩, j2⟩
  · have key : ∀ f, f < F → N (48 + f) = nI o → ix (N (72 + f)) + ix (N (96 + f)) ≤ ix (N (16 + o)) := by
      intro f hf e
      rcases (i7 f hf).2.1 with ⟨j, -⟩ | ⟨⟨t, ht, k1, k2⟩, -⟩
      · exact absurd (e.symm.trans j) (nI_m1 (by omega))
      · have : t = o := (nI_eq (by omega) (by omega)).mp (k1.symm.trans e)
        subst this
        exact k2
    by_cases e : f = F <;> by_cases e' : g = F
    · omega
    · subst e
      have hg' : g < f := by omega
      obtain ⟨g1, g2, g3, -⟩ := f1 g hg'
      rw [n48, n72, n96, g1, g2, g3]
      intro e2
      exact Or.inr (Or.inr (key g hg' e2.symm))
    · subst e'
      have hf' : f < g := by omega
      obtain ⟨g1, g2, g3, -⟩ := f1 f hf'
      rw [n48, n72, n96, g1, g2, g3]
      intro e2
      exact Or.inr (Or.inl (key f hf' e2))
    · obtain ⟨g1, g2, g3, -⟩ := f1 f (by omega)
      obtain ⟨k1, k2, k3, -⟩ := f1 g (by omega)
      rw [g1, g2, g3, k1, k2, k3]
      exact i8 f g (by omega) (by omega) hne
  · by_cases e : f = F <;> by_cases e' : g = F
    · intro _; exact Or.inr (by omega)
    · subst e; rw [n144]; intro _; exact Or.inl rfl
    · subst e'; rw [n144]; intro h9; exact Or.inl h9
    · rw [(f1 f (by omega)).2.2.2.2, (f1 g (by omega)).2.2.2.2]
      exact i9 f g (by omega) (by omega)
  · show nask N' F + _ ≤ 12
    rw [n144, if_pos rfl, nask_congr F (fun f hf => (f1 f hf).2.2.2.2)]
    exact i10
/-- a file goes behind all on another tape -/
theorem IN.move {N N' : Nat → Int32} {o f0 : Nat} (h : IN T r B F N) (hT : T ≤ 8) (hL : r 2 * r 3 ≤ 96) (hF : F ≤ 24) (ho : o < T) (hf0 : f0 < F) (hon : ¬ N (48 + f0) = nI o) (he : ix (N (16 + o)) + ix (N (96 + f0)) ≤ r 2 * r 3)
    (n48 : N' (48 + f0) = nI o) (n72 : N' (72 + f0) = N (16 + o)) (n120 : N' (120 + f0) = 1) (n16 : N' (16 + o) = nI (ix (N (16 + o)) + ix (N (96 + f0)))) (no : ∀ k, k ≠ 48 + f0 → k ≠ 72 + f0 → k ≠ 120 + f0 → k ≠ 16 + o → N' k = N k) : IN T r B F N' := by
  obtain ⟨⟨i1, i2, i3, i4⟩, i5, i6, i7, i8, i9, i10⟩ := h
  have f0' : ∀ f, f < F → N' (96 + f) = N (96 + f) ∧ N' (144 + f) = N (144 + f) := fun f hf => ⟨no _ (by omega) (by omega) (by omega) (by omega), no _ (by omega) (by omega) (by omega) (by omega)⟩
  have f1 : ∀ f, f < F → f ≠ f0 → N' (48 + f) = N (48 + f) ∧ N' (72 + f) = N (72 + f) ∧ N' (120 + f) = N (120 + f) := fun f hf hne => ⟨no _ (by omega) (by omega) (by omega) (by omega), no _ (by omega) (by omega) (by omega) (by omega), no _ (by omega) (by omega) (by omega) (by omega)⟩
  have f3 : N' 168 = N 168 := no _ (by omega) (by omega) (by omega) (by omega)
  have f4 : N' 171 = N 171 := no _ (by omega) (by omega) (by omega) (by omega)
  have fe : ∀ t, t < T → isN (N' (16 + t)) ∧ ix (N (16 + t)) ≤ ix (N' (16 + t)) ∧ ix (N' (16 + t)) ≤ r 2 * r 3 := by
    intro t ht
    by_cases e : t = o
    · subst e
      rw [n16, ix_nI (by omega)]
      exact ⟨isN_nI (by omega), by omega, he⟩
    · rw [no _ (by omega) (by omega) (by omega) (by omega)]
      exact ⟨(i5 t ht).1, Nat.le_refl _, (i5 t ht).2.1⟩
  have eo := (i5 o ho).1
  refine ⟨⟨by rw [f3]; exact i1, i2, by rw [f4]; exact i3, by rw [f4]; exact i4⟩, fun t ht => ?_, fun t u ht hu => ?_, fun f hf => ?_, fun f g hf hg hne => ?_, fun f g hf hg => ?_, ?_⟩
  · refine ⟨(fe t ht).1, (fe t ht).2.2, ?_⟩
    rw [no t (by omega) (by omega) (by omega) (by omega), no (8 + t) (by omega) (by omega) (by omega) (by omega)]
    exact (i5 t ht).2.2
  · rw [no t (by omega) (by omega) (by omega) (by omega), no u (by omega) (by omega) (by omega) (by omega)]
    exact i6 t u ht hu
  · obtain ⟨j1, j2, j3⟩ := i7 f hf
    rw [(f0' f hf).1, (f0' f hf).2, f4]
    by_cases e : f = f0
    · subst e
      rw [n48, n72, n120]
      exact ⟨⟨eo, j1.2⟩, Or.inr ⟨⟨o, ho, rfl, by rw [n16, ix_nI (by omega)]; exact Nat.le_refl _⟩, Or.inr rfl⟩, j3⟩
    · obtain ⟨g1, g2, g4⟩ := f1 f hf e
      rw [g1, g2, g4]
      refine ⟨j1, ?_, j3⟩
      rcases j2 with j2 | ⟨⟨t, ht, k1, k2⟩, j2⟩
      · exact Or.inl j2
      · exact Or.inr ⟨⟨t, ht, k1, Nat.le_trans k2 (fe t ht).2.1⟩, j2⟩
  · have key : ∀ f, f < F → N (48 + f) = nI o → ix (N (72 + f)) + ix (N (96 + f)) ≤ ix (N (16 + o)) := by
      intro f hf e
      rcases (i7 f hf).2.1 with ⟨j, -⟩ | ⟨⟨t, ht, k1, k2⟩, -⟩
      · exact absurd (e.symm.trans j) (nI_m1 (by omega))
      · have : t = o := (nI_eq (by omega) (by omega)).mp (k1.symm.trans e)
        subst this
        exact k2
    rw [(f0' f hf).1, (f0' g hg).1]
    by_cases e : f = f0 <;> by_cases e' : g = f0
    · omega
    · subst e
      obtain ⟨g1, g2, -⟩ := f1 g hg e'
      rw [n48, n72, g1, g2]
      intro e2
      exact Or.inr (Or.inr (key g hg e2.symm))
    · subst e'
      obtain ⟨g1, g2, -⟩ := f1 f hf e
      rw [n48, n72, g1, g2]
      intro e2
      exact Or.inr (Or.inl (key f hf e2))
    · obtain ⟨g1, g2, -⟩ := f1 f hf e
      obtain ⟨k1, k2, -⟩ := f1 g hg e'
      rw [g1, g2, k1, k2]
      exact i8 f g hf hg hne
  · rw [(f0' f hf).2, (f0' g hg).2]
    exact i9 f g hf hg
  · rw [nask_congr F (fun f hf => (f0' f hf).2)]
    exact i10
end PJ
