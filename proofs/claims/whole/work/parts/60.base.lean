/-! ===== PURE: numbers, loops, sums ===== -/
theorem qlt_e {α ρ : Type} (x : α) (k : α → Option ρ) : qlt x k = k x := rfl
theorem qj_e {κ ρ : Type} (K : κ) (F : κ → Option ρ) : qj K F = F K := rfl
theorem qg_t {ρ : Type} (r : Option ρ) : qg true r = r := rfl
theorem qb2_s {ρ : Type} (z : Int32) (h : qH) (k : Int32 → qH → Option ρ) : qb2 (some (z, h)) k = k z h := rfl
theorem bind_s {α β : Type} (a : α) (k : α → Option β) : (some a).bind k = k a := rfl
theorem ix_nI {k : Nat} (h : k < 2 ^ 31) : ix (nI k) = k := nI_clamp h
theorem qin_nI {k n : Nat} (h : k < n) (hn : n < 2 ^ 31) : qin (nI k) n = true := by
  simp only [qin, Bool.and_eq_true, decide_eq_true_eq]
  exact ⟨nI_pos (by omega), by rw [nI_clamp (by omega)]; exact h⟩
theorem la_1 (k : Nat) : (1 : Int32) + nI k = nI (1 + k) := nI_add 1 k
theorem la_2 (k : Nat) : (2 : Int32) + nI k = nI (2 + k) := nI_add 2 k
theorem la_3 (k : Nat) : (3 : Int32) + nI k = nI (3 + k) := nI_add 3 k
theorem la_4 (k : Nat) : (4 : Int32) + nI k = nI (4 + k) := nI_add 4 k
theorem la_8 (k : Nat) : (8 : Int32) + nI k = nI (8 + k) := nI_add 8 k
theorem la_16 (k : Nat) : (16 : Int32) + nI k = nI (16 + k) := nI_add 16 k
theorem la_24 (k : Nat) : (24 : Int32) + nI k = nI (24 + k) := nI_add 24 k
theorem la_32 (k : Nat) : (32 : Int32) + nI k = nI (32 + k) := nI_add 32 k
theorem la_40 (k : Nat) : (40 : Int32) + nI k = nI (40 + k) := nI_add 40 k
theorem la_48 (k : Nat) : (48 : Int32) + nI k = nI (48 + k) := nI_add 48 k
theorem la_72 (k : Nat) : (72 : Int32) + nI k = nI (72 + k) := nI_add 72 k
theorem la_96 (k : Nat) : (96 : Int32) + nI k = nI (96 + k) := nI_add 96 k
theorem la_120 (k : Nat) : (120 : Int32) + nI k = nI (120 + k) := nI_add 120 k
theorem la_144 (k : Nat) : (144 : Int32) + nI k = nI (144 + k) := nI_add 144 k
theorem la_173 (k : Nat) : (173 : Int32) + nI k = nI (173 + k) := nI_add 173 k
theorem la_100 (k : Nat) : (100 : Int32) + nI k = nI (100 + k) := nI_add 100 k
theorem la_60 (k : Nat) : (60 : Int32) + nI k = nI (60 + k) := nI_add 60 k
theorem la_39 (k : Nat) : (39 : Int32) + nI k = nI (39 + k) := nI_add 39 k
theorem la_0 (k : Nat) : (0 : Int32) + nI k = nI k := by rw [show (0 : Int32) = nI 0 from rfl, nI_add, Nat.zero_add]
theorem lit_nI (a : Nat) : (OfNat.ofNat a : Int32) = nI a := rfl
theorem lit_add (a k : Nat) : (OfNat.ofNat a : Int32) + nI k = nI (a + k) := nI_add a k
theorem qbo_0 : qbo 0 = true := by decide
theorem qbo_1 : qbo 1 = true := by decide
theorem qbo_if {c : Prop} [Decidable c] : qbo (if c then 1 else 0) = true := by split <;> decide
theorem qbo_if' {c : Prop} [Decidable c] : qbo (if c then 0 else 1) = true := by split <;> decide
theorem qrow_at (h : qH) (a : Nat) (f : Nat → Int32) : (qrow h a f).1 a = f := if_pos rfl
theorem qrow_ne {h : qH} {a b : Nat} {f : Nat → Int32} (hne : b ≠ a) : (qrow h a f).1 b = h.1 b := if_neg hne
/-- d rounds from i on -/
def qit {σ : Type} (g : Nat → σ → σ) : Nat → Nat → σ → σ
  | _, 0, s => s
  | i, d + 1, s => qit g (i + 1) d (g i s)
theorem up_loop {ρ σ : Type} (F : Nat → σ → Int32 → Option ρ) (K : σ → Int32 → Option ρ) (g : Nat → σ → σ) (I : Nat → σ → Prop) (n : Nat)
    (hs : ∀ m i s, i < n → I i s → F (m + 1) s (nI i) = F m (g i s) (nI (i + 1)) ∧ I (i + 1) (g i s)) (he : ∀ m s, I n s → F (m + 1) s (nI n) = K s (nI n)) :
    ∀ d i s m, i + d = n → I i s → d < m → F m s (nI i) = K (qit g i d s) (nI n) ∧ I n (qit g i d s)
  | 0, i, s, m, hi, hI, hm => by
    obtain ⟨m', rfl⟩ : ∃ m', m = m' + 1 := ⟨m - 1, by omega⟩
    have e : i = n := by omega
    subst e
    exact ⟨he m' s hI, hI⟩
  | d + 1, i, s, m, hi, hI, hm => by
    obtain ⟨m', rfl⟩ : ∃ m', m = m' + 1 := ⟨m - 1, by omega⟩
    obtain ⟨h1, h2⟩ := hs m' i s (by omega) hI
    have := up_loop F K g I n hs he d (i + 1) (g i s) m' (by omega) h2 (by omega)
    rw [h1]
    exact this
/-- the same, from 0 on, the fuel of the walks -/
theorem up_loop0 {ρ σ : Type} (F : Nat → σ → Int32 → Option ρ) (K : σ → Int32 → Option ρ) (g : Nat → σ → σ) (I : Nat → σ → Prop) (n : Nat) (hn : n < 100000)
    (hs : ∀ m i s, i < n → I i s → F (m + 1) s (nI i) = F m (g i s) (nI (i + 1)) ∧ I (i + 1) (g i s)) (he : ∀ m s, I n s → F (m + 1) s (nI n) = K s (nI n)) (s : σ) (h0 : I 0 s) :
    F qN s 0 = K (qit g 0 n s) (nI n) ∧ I n (qit g 0 n s) := up_loop F K g I n hs he n 0 s qN (by omega) h0 (qN_lt hn)
def qsum (f : Nat → Int32) : Nat → Int32
  | 0 => 0
  | n + 1 => qsum f n + f n
theorem qit_succ {σ : Type} (g : Nat → σ → σ) : ∀ (d i : Nat) (s : σ), qit g i (d + 1) s = g (i + d) (qit g i d s)
  | 0, i, s => rfl
  | d + 1, i, s => by
    show qit g (i + 1) (d + 1) (g i s) = _
    rw [qit_succ g d (i + 1) (g i s)]
    show g (i + 1 + d) _ = g (i + (d + 1)) _
    rw [show i + 1 + d = i + (d + 1) by omega]
    rfl
theorem qit_sum (f : Nat → Int32) : ∀ n, qit (fun i s => s + f i) 0 n 0 = qsum f n
  | 0 => rfl
  | n + 1 => by rw [qit_succ, qit_sum f n, Nat.zero_add]; rfl
theorem qsum_congr {f g : Nat → Int32} : ∀ {n : Nat}, (∀ i, i < n → f i = g i) → qsum f n = qsum g n
  | 0, _ => rfl
  | n + 1, h => by
    show qsum f n + f n = qsum g n + g n
    rw [qsum_congr (fun i hi => h i (by omega)), h n (by omega)]
theorem qit_congr {σ : Type} {g g' : Nat → σ → σ} : ∀ (d i : Nat) (s : σ), (∀ j s, i ≤ j → j < i + d → g j s = g' j s) → qit g i d s = qit g' i d s
  | 0, _, _, _ => rfl
  | d + 1, i, s, h => by
    show qit g (i + 1) d (g i s) = qit g' (i + 1) d (g' i s)
    rw [h i s (Nat.le_refl i) (by omega)]
    exact qit_congr d (i + 1) _ (fun j s h1 h2 => h j s (by omega) (by omega))
/-! a test of the way: filesOn, both -/
theorem f7_filesOn_eq {a F : Nat} {t : Int32} {h : qH} (hF : h.1 a 5 = nI F) (hF24 : F ≤ 24) : f7_filesOn a t h = some (qsum (fun i => if h.1 (a + 7) i = t then 1 else 0) F) := by
  unfold f7_filesOn
  refine ((up_loop0 (fun m s x => f7_filesOn_L4 a t h (fun x9 _ => some x9) m s x) (fun s _ => some s) (fun i s => s + if h.1 (a + 7) i = t then 1 else 0) (fun _ _ => True) F (by omega) (fun m i s hi _ => ⟨?_, trivial⟩) (fun m s _ => ?_) 0 trivial).1).trans ?_
  · show f7_filesOn_L4 a t h _ (m + 1) s (nI i) = _
    rw [f7_filesOn_L4, if_neg (by rw [hF]; exact nI_ge hi (by omega)), qin_nI (by omega) (by omega), qg_t]
    simp only [qlt_e, ix_nI (show i < 2 ^ 31 by omega), nI_1]
  · show f7_filesOn_L4 a t h _ (m + 1) s (nI F) = _
    rw [f7_filesOn_L4, if_pos (by rw [hF]; exact nI_le (Nat.le_refl _) (by omega))]
  · exact congrArg some (qit_sum _ _)
theorem f9_isOn_eq {i : Nat} {t : Int32} {h : qH} (hi : i < 24) : f9_isOn (nI i) t h = some (if h.1 9 (48 + i) = t then 1 else 0) := by
  unfold f9_isOn
  rw [la_48, qin_nI (by omega) (by omega), qg_t, qlt_e, qbo_if, qg_t, ix_nI (by omega)]
theorem f9_filesOn_eq {F : Nat} {t : Int32} {h : qH} (hF : h.1 9 168 = nI F) (hF24 : F ≤ 24) : f9_filesOn t h = some (qsum (fun i => if h.1 9 (48 + i) = t then 1 else 0) F) := by
  unfold f9_filesOn
  refine ((up_loop0 (fun m s x => f9_filesOn_L4 t h (fun x9 _ => some x9) m s x) (fun s _ => some s) (fun i s => s + if h.1 9 (48 + i) = t then 1 else 0) (fun _ _ => True) F (by omega) (fun m i s hi _ => ⟨?_, trivial⟩) (fun m s _ => ?_) 0 trivial).1).trans ?_
  · show f9_filesOn_L4 t h _ (m + 1) s (nI i) = _
    rw [f9_filesOn_L4, if_neg (by rw [hF]; exact nI_ge hi (by omega)), f9_isOn_eq (by omega), bind_s]
    simp only [qlt_e, nI_1]
    by_cases hc : h.1 9 (48 + i) = t <;> simp [hc, qlt_e]
  · show f9_filesOn_L4 t h _ (m + 1) s (nI F) = _
    rw [f9_filesOn_L4, if_pos (by rw [hF]; exact nI_le (Nat.le_refl _) (by omega))]
  · exact congrArg some (qit_sum _ _)
