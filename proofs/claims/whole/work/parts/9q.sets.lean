/-! ===== sets of files by number ===== -/
/-- a row that tells every asked file once -/
def EN (C : Nat) (g : Nat → Nat) (A : Nat → Bool) : Prop := (∀ k, k < C → g k < 24 ∧ A (g k) = true) ∧ (∀ i j, i < C → j < C → g i = g j → i = j) ∧ ∀ f, f < 24 → A f = true → ∃ k, k < C ∧ g k = f
/-- the files of a set -/
def fs (g : Nat → Nat) (S : Nat) : Nat → Nat → Bool
  | 0, _ => false
  | n + 1, f => (decide (g n = f) && S.testBit n) || fs g S n f
theorem fs_iff {g : Nat → Nat} {S : Nat} : ∀ {C f : Nat}, fs g S C f = true ↔ ∃ k, k < C ∧ g k = f ∧ S.testBit k = true
  | 0, f => ⟨fun h => absurd h (by show ¬ false = true; decide), fun ⟨k, hk, _⟩ => by omega⟩
  | n + 1, f => by
    show ((decide (g n = f) && S.testBit n) || fs g S n f) = true ↔ _
    rw [Bool.or_eq_true, Bool.and_eq_true, decide_eq_true_iff, fs_iff (C := n) (f := f)]
    constructor
    · rintro (⟨h1, h2⟩ | ⟨k, k1, k2⟩)
      · exact ⟨n, by omega, h1, h2⟩
      · exact ⟨k, by omega, k2⟩
    · rintro ⟨k, k1, k2, k3⟩
      by_cases e : k = n
      · subst e
        exact Or.inl ⟨k2, k3⟩
      · exact Or.inr ⟨k, by omega, k2, k3⟩
theorem tb_x {S i k : Nat} : (S ^^^ 2 ^ i).testBit k = (S.testBit k ^^ decide (i = k)) := by
  rw [Nat.testBit_xor, Nat.testBit_two_pow]
theorem x_lt : ∀ {i S : Nat}, S.testBit i = true → S ^^^ 2 ^ i < S
  | 0, S, h => by
    have a : (S ^^^ 2 ^ 0) / 2 = S / 2 := by
      rw [Nat.xor_div_two]
      show S / 2 ^^^ 0 = S / 2
      exact Nat.xor_zero _
    have b : (S ^^^ 2 ^ 0).testBit 0 = false := by
      rw [tb_x, h, decide_eq_true rfl]
      rfl
    have c : ¬ (S ^^^ 2 ^ 0) % 2 = 1 := fun z => by
      rw [Nat.mod_two_eq_one_iff_testBit_zero.mp z] at b
      exact absurd b (by decide)
    have d : S % 2 = 1 := Nat.mod_two_eq_one_iff_testBit_zero.mpr h
    omega
  | i + 1, S, h => by
    have h2 : (S / 2).testBit i = true := by rw [← Nat.testBit_succ]; exact h
    have a : (S ^^^ 2 ^ (i + 1)) / 2 = S / 2 ^^^ 2 ^ i := by
      rw [Nat.xor_div_two, Nat.pow_succ, Nat.mul_div_cancel _ (by omega)]
    have b := x_lt h2
    omega
section PQ1
variable {C : Nat} {g : Nat → Nat} {A : Nat → Bool}
theorem EN.at (e : EN C g A) {S i : Nat} (hi : i < C) : fs g S C (g i) = S.testBit i := by
  cases h : S.testBit i with
  | true => exact fs_iff.mpr ⟨i, hi, rfl, h⟩
  | false =>
    cases h2 : fs g S C (g i) with
    | false => rfl
    | true =>
      obtain ⟨k, k1, k2, k3⟩ := fs_iff.mp h2
      rw [e.2.1 k i k1 hi k2, h] at k3
      exact absurd k3 (by decide)
theorem EN.del (e : EN C g A) {S i : Nat} (hi : i < C) (h : S.testBit i = true) : dl (fs g S C) (g i) = fs g (S ^^^ 2 ^ i) C := by
  funext f
  have key : dl (fs g S C) (g i) f = true ↔ fs g (S ^^^ 2 ^ i) C f = true := by
    rw [dl_at, fs_iff, fs_iff]
    constructor
    · rintro ⟨⟨k, k1, k2, k3⟩, k4⟩
      refine ⟨k, k1, k2, ?_⟩
      have ne : ¬ i = k := fun z => k4 (by rw [← k2, z])
      rw [tb_x, k3, decide_eq_false ne]
      rfl
    · rintro ⟨k, k1, k2, k3⟩
      have ne : ¬ i = k := fun z => by
        rw [← z, tb_x, h, decide_eq_true rfl] at k3
        exact absurd k3 (by decide)
      rw [tb_x, decide_eq_false ne, Bool.xor_false] at k3
      exact ⟨⟨k, k1, k2, k3⟩, fun z => ne (e.2.1 i k hi k1 (by rw [k2, z]))⟩
  cases a : dl (fs g S C) (g i) f with
  | true => exact (key.mp a).symm
  | false =>
    cases b : fs g (S ^^^ 2 ^ i) C f with
    | false => rfl
    | true =>
      rw [key.mpr b] at a
      exact absurd a (by decide)
theorem cdn_le {P : Nat → Bool} : ∀ N, cdn P N ≤ N
  | 0 => Nat.le_refl _
  | n + 1 => by
    have := cdn_le (P := P) n
    show cdn P n + (if P n = true then 1 else 0) ≤ n + 1
    split <;> omega
/-- what stands in the table at a set and its last one -/
def tv (c0 : Nat → Nat) (c1 : Nat → Nat → Nat) (C : Nat) (g : Nat → Nat) (S i : Nat) : Nat := VV c0 c1 24 (fs g S C) (g i)
theorem EN.step (e : EN C g A) {c0 : Nat → Nat} {c1 : Nat → Nat → Nat} {S i : Nat} (hi : i < C) (h : S.testBit i = true) : tv c0 c1 C g S i = (mo C (fun k => (S ^^^ 2 ^ i).testBit k) (fun k => tv c0 c1 C g (S ^^^ 2 ^ i) k + c1 (g k) (g i))).getD (c0 (g i)) := by
  show (mo 24 (dl (fs g S C) (g i)) (fun f => VV c0 c1 23 (dl (fs g S C) (g i)) f + c1 f (g i))).getD (c0 (g i)) = _
  have he : fs g S C (g i) = true := by rw [e.at hi]; exact h
  rw [e.del hi h]
  congr 1
  symm
  refine mo_eq (e := g) (fun k hk hq => ⟨(e.1 k hk).1, by rw [e.at hk]; exact hq, ?_⟩) (fun f hf hq => ?_)
  · have hq' : fs g (S ^^^ 2 ^ i) C (g k) = true := by rw [e.at hk]; exact hq
    have c := cdn_dl hq' (e.1 k hk).1
    have l := cdn_le (P := fs g (S ^^^ 2 ^ i) C) 24
    have z := VV_fuel (c0 := c0) (c1 := c1) 23 (fs g (S ^^^ 2 ^ i) C) (g k) (by omega)
    show VV c0 c1 24 (fs g (S ^^^ 2 ^ i) C) (g k) + c1 (g k) (g i) = VV c0 c1 23 (fs g (S ^^^ 2 ^ i) C) (g k) + c1 (g k) (g i)
    rw [z]
  · obtain ⟨k, k1, k2, k3⟩ := fs_iff.mp hq
    exact ⟨k, k1, k3, k2⟩
/-- all of them: the same files, in whatever row -/
theorem EN.all (e : EN C g A) (f : Nat) (hf : f < 24) : fs g (2 ^ C - 1) C f = A f := by
  cases a : A f with
  | true =>
    obtain ⟨k, k1, k2⟩ := e.2.2 f hf a
    exact fs_iff.mpr ⟨k, k1, k2, by rw [Nat.testBit_two_pow_sub_one, decide_eq_true k1]⟩
  | false =>
    cases b : fs g (2 ^ C - 1) C f with
    | false => rfl
    | true =>
      obtain ⟨k, k1, k2, -⟩ := fs_iff.mp b
      have := (e.1 k k1).2
      rw [k2, a] at this
      exact absurd this (by decide)
end PQ1
theorem VV_cg {c0 : Nat → Nat} {c1 : Nat → Nat → Nat} : ∀ (n : Nat) (P P' : Nat → Bool) (f : Nat), (∀ g, g < 24 → P g = P' g) → VV c0 c1 n P f = VV c0 c1 n P' f
  | 0, _, _, _, _ => rfl
  | n + 1, P, P', f, h => by
    have hd : ∀ g, g < 24 → dl P f g = dl P' f g := fun g hg => by
      unfold dl
      rw [h g hg]
    show (mo 24 (dl P f) (fun g => VV c0 c1 n (dl P f) g + c1 g f)).getD (c0 f) = (mo 24 (dl P' f) (fun g => VV c0 c1 n (dl P' f) g + c1 g f)).getD (c0 f)
    rw [mo_eq (N := 24) (Q := dl P' f) (v := fun g => VV c0 c1 n (dl P' f) g + c1 g f) (e := fun k => k) (fun k hk hq => ⟨hk, by rw [← hd k hk]; exact hq, by
      show VV c0 c1 n (dl P f) k + c1 k f = VV c0 c1 n (dl P' f) k + c1 k f
      rw [VV_cg n _ _ k hd]⟩) (fun g hg hq => ⟨g, hg, by rw [hd g hg]; exact hq, rfl⟩)]
/-- the last line of either table: the least of all -/
theorem EN.fin {C : Nat} {g : Nat → Nat} {A : Nat → Bool} (e : EN C g A) {c0 : Nat → Nat} {c1 : Nat → Nat → Nat} : mo C (fun _ => true) (fun k => tv c0 c1 C g (2 ^ C - 1) k) = mo 24 A (fun f => VV c0 c1 24 A f) := by
  refine mo_eq (e := g) (fun k hk _ => ⟨(e.1 k hk).1, (e.1 k hk).2, ?_⟩) (fun f hf hq => ?_)
  · exact VV_cg 24 _ _ (g k) (fun f hf => e.all f hf)
  · obtain ⟨k, k1, k2⟩ := e.2.2 f hf hq
    exact ⟨k, k1, rfl, k2⟩
