/-! ===== the least time over all orders: the meaning of both tables ===== -/
/-- the least value of those that are asked for -/
def mo : Nat → (Nat → Bool) → (Nat → Nat) → Option Nat
  | 0, _, _ => none
  | n + 1, Q, v => if Q n = true then some (match mo n Q v with
      | none => v n
      | some m => min m (v n)) else mo n Q v
theorem mo_n {Q : Nat → Bool} {v : Nat → Nat} : ∀ {N : Nat}, (∀ g, g < N → Q g = false) → mo N Q v = none
  | 0, _ => rfl
  | n + 1, h => by
    show (if Q n = true then _ else mo n Q v) = none
    rw [if_neg (by rw [h n (by omega)]; decide)]
    exact mo_n (fun g hg => h g (by omega))
theorem mo_z {Q : Nat → Bool} {v : Nat → Nat} : ∀ {N : Nat}, mo N Q v = none → ∀ g, g < N → Q g = false
  | 0, _, g, hg => absurd hg (by omega)
  | n + 1, h, g, hg => by
    have h : (if Q n = true then some (match mo n Q v with
      | none => v n
      | some m => min m (v n)) else mo n Q v) = none := h
    by_cases c : Q n = true
    · rw [if_pos c] at h
      exact absurd h (by intro z; cases z)
    · rw [if_neg c] at h
      by_cases e : g = n
      · subst e
        cases hq : Q g with
        | true => exact absurd hq c
        | false => rfl
      · exact mo_z h g (by omega)
theorem mo_s {Q : Nat → Bool} {v : Nat → Nat} : ∀ {N m : Nat}, mo N Q v = some m → (∃ g, g < N ∧ Q g = true ∧ m = v g) ∧ ∀ g, g < N → Q g = true → m ≤ v g
  | 0, m, h => absurd h (by intro z; cases z)
  | n + 1, m, h => by
    have h : (if Q n = true then some (match mo n Q v with
      | none => v n
      | some m => min m (v n)) else mo n Q v) = some m := h
    by_cases c : Q n = true
    · rw [if_pos c] at h
      cases hm : mo n Q v with
      | none =>
        rw [hm] at h
        have e : v n = m := Option.some.inj h
        have z := mo_z hm
        refine ⟨⟨n, by omega, c, e.symm⟩, fun g hg hq => ?_⟩
        by_cases eg : g = n
        · subst eg; omega
        · rw [z g (by omega)] at hq
          exact absurd hq (by decide)
      | some m1 =>
        rw [hm] at h
        have e : min m1 (v n) = m := Option.some.inj h
        obtain ⟨⟨g1, g2, g3, g4⟩, g5⟩ := mo_s hm
        refine ⟨?_, fun g hg hq => ?_⟩
        · by_cases l : m1 ≤ v n
          · exact ⟨g1, by omega, g3, by omega⟩
          · exact ⟨n, by omega, c, by omega⟩
        · by_cases eg : g = n
          · subst eg; omega
          · have := g5 g (by omega) hq
            omega
    · rw [if_neg c] at h
      obtain ⟨⟨g1, g2, g3, g4⟩, g5⟩ := mo_s h
      refine ⟨⟨g1, by omega, g3, g4⟩, fun g hg hq => ?_⟩
      by_cases eg : g = n
      · subst eg; exact absurd hq c
      · exact g5 g (by omega) hq
/-- it does not matter in which order they are asked -/
theorem mo_eq {C N : Nat} {Q' Q : Nat → Bool} {v' v e : Nat → Nat} (h1 : ∀ k, k < C → Q' k = true → e k < N ∧ Q (e k) = true ∧ v' k = v (e k)) (h2 : ∀ g, g < N → Q g = true → ∃ k, k < C ∧ Q' k = true ∧ e k = g) : mo C Q' v' = mo N Q v := by
  cases a : mo C Q' v' with
  | none =>
    refine (mo_n (fun g hg => ?_)).symm
    cases hq : Q g with
    | false => rfl
    | true =>
      obtain ⟨k, k1, k2, -⟩ := h2 g hg hq
      rw [mo_z a k k1] at k2
      exact absurd k2 (by decide)
  | some m =>
    obtain ⟨⟨k, k1, k2, k3⟩, k4⟩ := mo_s a
    obtain ⟨b1, b2, b3⟩ := h1 k k1 k2
    cases b : mo N Q v with
    | none =>
      rw [mo_z b (e k) b1] at b2
      exact absurd b2 (by decide)
    | some m' =>
      obtain ⟨⟨g, g1, g2, g3⟩, g4⟩ := mo_s b
      obtain ⟨k', d1, d2, d3⟩ := h2 g g1 g2
      have l1 := g4 (e k) b1 b2
      have l2 := k4 k' d1 d2
      have l3 := (h1 k' d1 d2).2.2
      rw [d3] at l3
      have : m = m' := by omega
      rw [this]
theorem mo_cg {N : Nat} {Q : Nat → Bool} {v v' : Nat → Nat} (h : ∀ g, g < N → Q g = true → v g = v' g) : mo N Q v = mo N Q v' := mo_eq (e := fun k => k) (fun k hk hq => ⟨hk, hq, h k hk hq⟩) (fun g hg hq => ⟨g, hg, hq, rfl⟩)
theorem mo_add {Q : Nat → Bool} {v : Nat → Nat} (c : Nat) : ∀ N : Nat, mo N Q (fun g => v g + c) = (mo N Q v).map (· + c)
  | 0 => rfl
  | n + 1 => by
    show (if Q n = true then some (match mo n Q (fun g => v g + c) with
      | none => v n + c
      | some m => min m (v n + c)) else mo n Q (fun g => v g + c)) = (if Q n = true then some (match mo n Q v with
      | none => v n
      | some m => min m (v n)) else mo n Q v).map (· + c)
    rw [mo_add c n]
    by_cases q : Q n = true
    · rw [if_pos q, if_pos q]
      cases hm : mo n Q v with
      | none => rfl
      | some m =>
        show some (min (m + c) (v n + c)) = some (min m (v n) + c)
        congr 1
        omega
    · rw [if_neg q, if_neg q]
/-- a set without one -/
def dl (P : Nat → Bool) (f : Nat) : Nat → Bool := fun g => P g && !(decide (g = f))
theorem dl_at {P : Nat → Bool} {f g : Nat} : dl P f g = true ↔ P g = true ∧ g ≠ f := by
  unfold dl
  by_cases e : g = f
  · simp [e]
  · simp [e]
/-- the least time of a row over a set, with its last one -/
def VV (c0 : Nat → Nat) (c1 : Nat → Nat → Nat) : Nat → (Nat → Bool) → Nat → Nat
  | 0, _, f => c0 f
  | n + 1, P, f => (mo 24 (dl P f) (fun g => VV c0 c1 n (dl P f) g + c1 g f)).getD (c0 f)
def cdn (P : Nat → Bool) : Nat → Nat
  | 0 => 0
  | n + 1 => cdn P n + if P n = true then 1 else 0
theorem cdn_z {P : Nat → Bool} : ∀ {N : Nat}, cdn P N = 0 → ∀ g, g < N → P g = false
  | 0, _, g, hg => absurd hg (by omega)
  | n + 1, h, g, hg => by
    have h : cdn P n + (if P n = true then 1 else 0) = 0 := h
    by_cases e : g = n
    · subst e
      cases hp : P g with
      | false => rfl
      | true =>
        rw [hp, if_pos rfl] at h
        omega
    · exact cdn_z (N := n) (show cdn P n = 0 by omega) g (by omega)
theorem cdn_same {P P' : Nat → Bool} : ∀ {N : Nat}, (∀ g, g < N → P g = P' g) → cdn P N = cdn P' N
  | 0, _ => rfl
  | n + 1, h => by
    show cdn P n + (if P n = true then 1 else 0) = cdn P' n + (if P' n = true then 1 else 0)
    rw [cdn_same (fun g hg => h g (by omega)), h n (by omega)]
theorem cdn_dl {P : Nat → Bool} {f : Nat} (hp : P f = true) : ∀ {N : Nat}, f < N → cdn P N = cdn (dl P f) N + 1
  | 0, hf => absurd hf (by omega)
  | n + 1, hf => by
    show cdn P n + (if P n = true then 1 else 0) = cdn (dl P f) n + (if dl P f n = true then 1 else 0) + 1
    by_cases e : f = n
    · subst e
      have d : ¬ dl P f f = true := fun z => (dl_at.mp z).2 rfl
      have s : cdn P f = cdn (dl P f) f := cdn_same (fun g hg => by
        unfold dl
        rw [decide_eq_false (show ¬ g = f by omega)]
        simp)
      rw [if_pos hp, if_neg d, s]
    · have d : dl P f n = P n := by
        unfold dl
        rw [decide_eq_false (fun z => e z.symm)]
        simp
      rw [cdn_dl hp (show f < n by omega), d]
      omega
theorem VV_fuel {c0 : Nat → Nat} {c1 : Nat → Nat → Nat} : ∀ (n : Nat) (P : Nat → Bool) (f : Nat), cdn (dl P f) 24 ≤ n → VV c0 c1 (n + 1) P f = VV c0 c1 n P f
  | 0, P, f, h => by
    show (mo 24 (dl P f) _).getD (c0 f) = c0 f
    rw [mo_n (cdn_z (by omega))]
    rfl
  | n + 1, P, f, h => by
    show (mo 24 (dl P f) (fun g => VV c0 c1 (n + 1) (dl P f) g + c1 g f)).getD (c0 f) = (mo 24 (dl P f) (fun g => VV c0 c1 n (dl P f) g + c1 g f)).getD (c0 f)
    rw [mo_cg (v' := fun g => VV c0 c1 n (dl P f) g + c1 g f) (fun g hg hq => by
      have := cdn_dl hq hg
      rw [VV_fuel n (dl P f) g (by omega)])]
/-- the blocks of a set -/
def smn (P : Nat → Bool) (bl : Nat → Nat) : Nat → Nat
  | 0 => 0
  | n + 1 => smn P bl n + if P n = true then bl n else 0
theorem smn_z {P : Nat → Bool} {bl : Nat → Nat} : ∀ {N : Nat}, (∀ g, g < N → P g = false) → smn P bl N = 0
  | 0, _ => rfl
  | n + 1, h => by
    show smn P bl n + (if P n = true then bl n else 0) = 0
    rw [smn_z (fun g hg => h g (by omega)), if_neg (by rw [h n (by omega)]; decide)]
theorem smn_same {P P' : Nat → Bool} {bl : Nat → Nat} : ∀ {N : Nat}, (∀ g, g < N → P g = P' g) → smn P bl N = smn P' bl N
  | 0, _ => rfl
  | n + 1, h => by
    show smn P bl n + (if P n = true then bl n else 0) = smn P' bl n + (if P' n = true then bl n else 0)
    rw [smn_same (fun g hg => h g (by omega)), h n (by omega)]
theorem smn_dl {P : Nat → Bool} {bl : Nat → Nat} {f : Nat} (hp : P f = true) : ∀ {N : Nat}, f < N → smn P bl N = smn (dl P f) bl N + bl f
  | 0, hf => absurd hf (by omega)
  | n + 1, hf => by
    show smn P bl n + (if P n = true then bl n else 0) = smn (dl P f) bl n + (if dl P f n = true then bl n else 0) + bl f
    by_cases e : f = n
    · subst e
      have d : ¬ dl P f f = true := fun z => (dl_at.mp z).2 rfl
      have s : smn P bl f = smn (dl P f) bl f := smn_same (fun g hg => by
        unfold dl
        rw [decide_eq_false (show ¬ g = f by omega)]
        simp)
      rw [if_pos hp, if_neg d, s]
      omega
    · have d : dl P f n = P n := by
        unfold dl
        rw [decide_eq_false (fun z => e z.symm)]
        simp
      rw [smn_dl hp (show f < n by omega), d]
      omega
/-- with and without the blocks -/
theorem VV_bl {c0 bl : Nat → Nat} {c1 : Nat → Nat → Nat} : ∀ (n : Nat) (P : Nat → Bool) (f : Nat), f < 24 → P f = true → cdn (dl P f) 24 ≤ n → VV (fun f => c0 f + bl f) (fun g f => c1 g f + bl f) n P f = VV c0 c1 n P f + smn P bl 24
  | 0, P, f, hf, hp, h => by
    show c0 f + bl f = c0 f + smn P bl 24
    rw [smn_dl hp hf, smn_z (cdn_z (by omega))]
    omega
  | n + 1, P, f, hf, hp, h => by
    show (mo 24 (dl P f) (fun g => VV (fun f => c0 f + bl f) (fun g f => c1 g f + bl f) n (dl P f) g + (c1 g f + bl f))).getD (c0 f + bl f) = (mo 24 (dl P f) (fun g => VV c0 c1 n (dl P f) g + c1 g f)).getD (c0 f) + smn P bl 24
    have s := smn_dl (bl := bl) hp hf
    rw [mo_cg (v' := fun g => (VV c0 c1 n (dl P f) g + c1 g f) + smn P bl 24) (fun g hg hq => by
      have z := cdn_dl hq hg
      rw [VV_bl n (dl P f) g hg hq (by omega)]
      omega), mo_add]
    cases a : mo 24 (dl P f) (fun g => VV c0 c1 n (dl P f) g + c1 g f) with
    | none =>
      show c0 f + bl f = c0 f + smn P bl 24
      rw [s, smn_z (mo_z a)]
      omega
    | some m => rfl
theorem VV_le {c0 : Nat → Nat} {c1 : Nat → Nat → Nat} {b : Nat} (h0 : ∀ f, c0 f ≤ b) (h1 : ∀ g f, c1 g f ≤ b) : ∀ (n : Nat) (P : Nat → Bool) (f : Nat), VV c0 c1 n P f ≤ b * (n + 1)
  | 0, P, f => by
    have := h0 f
    show c0 f ≤ b * 1
    omega
  | n + 1, P, f => by
    show (mo 24 (dl P f) (fun g => VV c0 c1 n (dl P f) g + c1 g f)).getD (c0 f) ≤ b * (n + 1 + 1)
    rw [Nat.mul_succ]
    cases a : mo 24 (dl P f) (fun g => VV c0 c1 n (dl P f) g + c1 g f) with
    | none =>
      have := h0 f
      show c0 f ≤ _
      omega
    | some m =>
      obtain ⟨⟨g, -, -, e⟩, -⟩ := mo_s a
      have := VV_le h0 h1 n (dl P f) g
      have := h1 g f
      show m ≤ _
      omega
