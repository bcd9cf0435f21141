/-! ===== the relation between the class's store and the reference's ===== -/
/-- a number that isn't negative -/
def isN (x : Int32) : Prop := x = nI (ix x)
theorem isN_nI {k : Nat} (h : k < 2 ^ 31) : isN (nI k) := by
  show nI k = nI (ix (nI k))
  rw [ix_nI h]
/-- bounds of a hall: rules r 0 .. r 7, T tapes -/
def HB (T : Nat) (r : Nat → Nat) : Prop := 1 ≤ T ∧ T ≤ 8 ∧ T ≤ r 0 ∧ 4 ≤ r 0 ∧ r 0 ≤ 10 ∧ 1 ≤ r 1 ∧ r 1 ≤ 3 ∧ 4 ≤ r 2 ∧ r 2 ≤ 16 ∧ 1 ≤ r 3 ∧ r 3 ≤ 6 ∧ 1 ≤ r 4 ∧ r 4 ≤ 9 ∧ 1 ≤ r 5 ∧ r 5 ≤ 5 ∧ r 6 ≤ 99 ∧ r 7 ≤ 99
/-- where a block lies -/
def spot (r : Nat → Nat) (b : Nat) : Nat := if b / r 2 % 2 = 1 then r 2 - 1 - b % r 2 else b % r 2
/-- the class's plan -/
def HX (T : Nat) (r : Nat → Nat) (h : qH) : Prop := h.1 6 1 = nI T ∧ (∀ k, k < 8 → h.1 7 k = nI (r k)) ∧ h.1 6 7 = nI (r 2 * r 3) ∧ ∀ b, b < r 2 * r 3 → h.1 12 b = nI (spot r b) ∧ h.1 13 b = nI (b / r 2)
/-- the reference's -/
def HM (T : Nat) (r : Nat → Nat) (h : qH) : Prop := h.1 0 12 = nI T ∧ ∀ k, k < 8 → h.1 5 k = nI (r k)
/-- a tape's place: in its slot, or in a drive -/
def RP (r : Nat → Nat) (h : qH) (a : Nat) (N : Nat → Int32) (t : Nat) : Prop := (h.1 (a + 1) t = -1 ∧ h.1 (a + 2) t = 0 ∧ N t = nI t ∧ N (8 + t) = -1) ∨ ∃ d, d < r 1 ∧ h.1 (a + 1) t = nI d ∧ N t = nI (r 0 + d) ∧ N (8 + t) = h.1 (a + 2) t
/-- a stage of the class at the cell a, and a row of the reference -/
def RS (T : Nat) (r : Nat → Nat) (F : Nat) (h : qH) (a : Nat) (N : Nat → Int32) : Prop :=
  (h.1 a 2 = N 170 ∧ h.1 a 3 = N 169 ∧ h.1 a 4 = N 171 ∧ h.1 a 5 = N 168) ∧
  (∀ t, t < T → RP r h a N t ∧ h.1 (a + 3) t = N (16 + t) ∧ h.1 (a + 4) t = N (24 + t) ∧ h.1 (a + 5) t = N (32 + t) ∧ h.1 (a + 6) t = N (40 + t)) ∧
  ∀ f, f < F → h.1 (a + 7) f = N (48 + f) ∧ h.1 (a + 8) f = N (72 + f) ∧ h.1 (a + 9) f = N (96 + f) ∧ h.1 (a + 10) f = N (120 + f) ∧ h.1 (a + 11) f = N (144 + f)
/-- how many files are asked for -/
def nask (N : Nat → Int32) : Nat → Nat
  | 0 => 0
  | f + 1 => nask N f + if N (144 + f) = 0 then 0 else 1
/-- what always holds of a row: T tapes, rules r, F files, no more than B turns -/
def IN (T : Nat) (r : Nat → Nat) (B F : Nat) (N : Nat → Int32) : Prop :=
  (N 168 = nI F ∧ F ≤ 24 ∧ isN (N 171) ∧ ix (N 171) ≤ B) ∧
  (∀ t, t < T → isN (N (16 + t)) ∧ ix (N (16 + t)) ≤ r 2 * r 3 ∧ ((N t = nI t ∧ N (8 + t) = -1) ∨ ∃ d, d < r 1 ∧ N t = nI (r 0 + d) ∧ isN (N (8 + t)) ∧ ix (N (8 + t)) < r 2 * r 3)) ∧
  (∀ t u, t < T → u < T → N t = N u → t = u) ∧
  (∀ f, f < F → (isN (N (72 + f)) ∧ isN (N (96 + f)) ∧ 1 ≤ ix (N (96 + f)) ∧ ix (N (96 + f)) ≤ 9) ∧
    (N (48 + f) = -1 ∧ N (120 + f) = 0 ∧ N (144 + f) = 0 ∨ (∃ t, t < T ∧ N (48 + f) = nI t ∧ ix (N (72 + f)) + ix (N (96 + f)) ≤ ix (N (16 + t))) ∧ (N (120 + f) = 0 ∧ N (144 + f) = 0 ∨ N (120 + f) = 1)) ∧
    isN (N (144 + f)) ∧ ix (N (144 + f)) ≤ ix (N 171)) ∧
  (∀ f g, f < F → g < F → f ≠ g → N (48 + f) = N (48 + g) → N (48 + f) = -1 ∨ ix (N (72 + f)) + ix (N (96 + f)) ≤ ix (N (72 + g)) ∨ ix (N (72 + g)) + ix (N (96 + g)) ≤ ix (N (72 + f))) ∧
  (∀ f g, f < F → g < F → N (144 + f) = N (144 + g) → N (144 + f) = 0 ∨ f = g) ∧
  nask N F ≤ 12
/-- all of it: the class's stage at a in hx, the reference's row now in hm -/
def QQ (T : Nat) (r : Nat → Nat) (B F : Nat) (hx : qH) (a : Nat) (hm : qH) : Prop := HB T r ∧ HX T r hx ∧ HM T r hm ∧ RS T r F hx a (hm.1 9) ∧ IN T r B F (hm.1 9)
/-- two loops side by side -/
theorem up_loop2 {ρ1 ρ2 σ : Type} (F1 : Nat → σ → Int32 → Option ρ1) (F2 : Nat → σ → Int32 → Option ρ2) (K1 : σ → Int32 → Option ρ1) (K2 : σ → Int32 → Option ρ2) (I : Nat → σ → Prop) (n : Nat)
    (hs : ∀ i s, i < n → I i s → ∃ s', I (i + 1) s' ∧ (∀ m, F1 (m + 1) s (nI i) = F1 m s' (nI (i + 1))) ∧ ∀ m, F2 (m + 1) s (nI i) = F2 m s' (nI (i + 1))) (he : ∀ m s, I n s → F1 (m + 1) s (nI n) = K1 s (nI n) ∧ F2 (m + 1) s (nI n) = K2 s (nI n)) :
    ∀ d i s m1 m2, i + d = n → I i s → d < m1 → d < m2 → ∃ s', I n s' ∧ F1 m1 s (nI i) = K1 s' (nI n) ∧ F2 m2 s (nI i) = K2 s' (nI n)
  | 0, i, s, m1, m2, hi, hI, h1, h2 => by
    obtain ⟨k1, rfl⟩ : ∃ k, m1 = k + 1 := ⟨m1 - 1, by omega⟩
    obtain ⟨k2, rfl⟩ : ∃ k, m2 = k + 1 := ⟨m2 - 1, by omega⟩
    have e : i = n := by omega
    subst e
    exact ⟨s, hI, (he k1 s hI).1, (he k2 s hI).2⟩
  | d + 1, i, s, m1, m2, hi, hI, h1, h2 => by
    obtain ⟨k1, rfl⟩ : ∃ k, m1 = k + 1 := ⟨m1 - 1, by omega⟩
    obtain ⟨k2, rfl⟩ : ∃ k, m2 = k + 1 := ⟨m2 - 1, by omega⟩
    obtain ⟨s', hI', g1, g2⟩ := hs i s (by omega) hI
    rw [g1, g2]
    exact up_loop2 F1 F2 K1 K2 I n hs he d (i + 1) s' k1 k2 (by omega) hI' (by omega) (by omega)
theorem up_loop20 {ρ1 ρ2 σ : Type} (F1 : Nat → σ → Int32 → Option ρ1) (F2 : Nat → σ → Int32 → Option ρ2) (K1 : σ → Int32 → Option ρ1) (K2 : σ → Int32 → Option ρ2) (I : Nat → σ → Prop) (n : Nat) (hn : n < 100000) (s : σ) (h0 : I 0 s)
    (hs : ∀ i s, i < n → I i s → ∃ s', I (i + 1) s' ∧ (∀ m, F1 (m + 1) s (nI i) = F1 m s' (nI (i + 1))) ∧ ∀ m, F2 (m + 1) s (nI i) = F2 m s' (nI (i + 1))) (he : ∀ m s, I n s → F1 (m + 1) s (nI n) = K1 s (nI n) ∧ F2 (m + 1) s (nI n) = K2 s (nI n)) :
    ∃ s', I n s' ∧ F1 qN s 0 = K1 s' (nI n) ∧ F2 qN s 0 = K2 s' (nI n) := up_loop2 F1 F2 K1 K2 I n hs he n 0 s qN qN (by omega) h0 (qN_lt hn) (qN_lt hn)
section PA
variable {T B F a : Nat} {r : Nat → Nat} {hx hm : qH}
theorem QQ.t31 (q : QQ T r B F hx a hm) : T ≤ 8 ∧ F ≤ 24 := ⟨q.1.2.1, q.2.2.2.2.1.2.1⟩
theorem QQ.Tx (q : QQ T r B F hx a hm) : hx.1 6 1 = nI T := q.2.1.1
theorem QQ.Tm (q : QQ T r B F hx a hm) : hm.1 0 12 = nI T := q.2.2.1.1
theorem QQ.rx (q : QQ T r B F hx a hm) {k : Nat} (hk : k < 8) : hx.1 7 k = nI (r k) := q.2.1.2.1 k hk
theorem QQ.rm (q : QQ T r B F hx a hm) {k : Nat} (hk : k < 8) : hm.1 5 k = nI (r k) := q.2.2.1.2 k hk
theorem QQ.Fm (q : QQ T r B F hx a hm) : hm.1 9 168 = nI F := q.2.2.2.2.1.1
theorem QQ.Fx (q : QQ T r B F hx a hm) : hx.1 a 5 = nI F := q.2.2.2.1.1.2.2.2.trans q.Fm
theorem QQ.tp (q : QQ T r B F hx a hm) {t : Nat} (ht : t < T) : RP r hx a (hm.1 9) t ∧ hx.1 (a + 3) t = hm.1 9 (16 + t) ∧ hx.1 (a + 4) t = hm.1 9 (24 + t) ∧ hx.1 (a + 5) t = hm.1 9 (32 + t) ∧ hx.1 (a + 6) t = hm.1 9 (40 + t) := q.2.2.2.1.2.1 t ht
theorem QQ.fl (q : QQ T r B F hx a hm) {f : Nat} (hf : f < F) : hx.1 (a + 7) f = hm.1 9 (48 + f) ∧ hx.1 (a + 8) f = hm.1 9 (72 + f) ∧ hx.1 (a + 9) f = hm.1 9 (96 + f) ∧ hx.1 (a + 10) f = hm.1 9 (120 + f) ∧ hx.1 (a + 11) f = hm.1 9 (144 + f) := q.2.2.2.1.2.2 f hf
/-- is it in a drive: both say the same -/
theorem QQ.dr (q : QQ T r B F hx a hm) {t : Nat} (ht : t < T) : f9_isDriven (nI t) hm = some (if hx.1 (a + 1) t = -1 then 0 else 1) := by
  have hT := q.t31
  have hb := q.1
  unfold f9_isDriven
  rw [la_0, qin_nI (by omega) (by omega), qg_t, ix_nI (by omega), q.rm (by omega)]
  rcases (q.tp ht).1 with ⟨h1, h2, h3, h4⟩ | ⟨d, hd, h1, h2, h3⟩
  · rw [h3, if_pos (nI_lt (by have := hb.2.2.1; omega) (by have := hb.2.2.2.2.1; omega)), h1, if_pos rfl]
    rfl
  · rw [h2, if_neg (nI_nlt (by omega) (by have := hb.2.2.2.2.1; have := hb.2.2.2.2.2.2.1; omega)), h1, if_neg (by intro e; have := congrArg Int32.toInt e; rw [nI_toInt (by have := hb.2.2.2.2.2.2.1; omega)] at this; simp at this)]
    rfl
theorem nI_m1 {k : Nat} (h : k < 2 ^ 31) : ¬ nI k = -1 := by
  intro e
  have := congrArg Int32.toInt e
  rw [nI_toInt h] at this
  simp at this
theorem QQ.filesOn (q : QQ T r B F hx a hm) (t : Int32) : ∃ c : Nat, c ≤ F ∧ f7_filesOn a t hx = some (nI c) ∧ f9_filesOn t hm = some (nI c) := by
  have hT := q.t31
  rw [f7_filesOn_eq q.Fx hT.2, f9_filesOn_eq q.Fm hT.2]
  rw [qsum_congr (g := fun i => if hm.1 9 (48 + i) = t then 1 else 0) (fun i hi => by rw [(q.fl hi).1])]
  have key : ∀ n : Nat, ∃ c : Nat, c ≤ n ∧ qsum (fun i => if hm.1 9 (48 + i) = t then 1 else 0) n = nI c := by
    intro n
    induction n with
    | zero => exact ⟨0, Nat.le_refl _, rfl⟩
    | succ n ih =>
      obtain ⟨c, h1, h2⟩ := ih
      simp only [qsum, h2]
      by_cases hc : hm.1 9 (48 + n) = t
      · exact ⟨c + 1, by omega, by rw [if_pos hc, nI_1]⟩
      · exact ⟨c, by omega, by rw [if_neg hc]; simp⟩
  obtain ⟨c, h1, h2⟩ := key F
  exact ⟨c, h1, congrArg some h2, congrArg some h2⟩
/-- asked for or not: a turn isn't negative -/
theorem QQ.ask (q : QQ T r B F hx a hm) {f : Nat} (hf : f < F) : (hm.1 9 (144 + f) ≤ 0) = (hm.1 9 (144 + f) = 0) := by
  have h1 := (q.2.2.2.2.2.2.2.1 f hf).2.2.1
  rw [h1]
  have hlt : ix (hm.1 9 (144 + f)) < 2 ^ 31 := by
    have : (hm.1 9 (144 + f)).toInt < 2 ^ 31 := Int32.toInt_lt _
    show (hm.1 9 (144 + f)).toInt.toNat < 2 ^ 31
    omega
  generalize ix (hm.1 9 (144 + f)) = k at hlt
  apply propext
  constructor
  · intro h
    by_cases h0 : k = 0
    · subst h0; rfl
    · exact absurd h (nI_nle (by omega) hlt)
  · intro h
    rw [h]
    decide
theorem QQ.kn (q : QQ T r B F hx a hm) {f : Nat} (hf : f < F) : (hm.1 9 (48 + f) = -1 ∧ hm.1 9 (120 + f) = 0) ∨ (¬ hm.1 9 (48 + f) = -1 ∧ (hm.1 9 (120 + f) = 0 ∨ hm.1 9 (120 + f) = 1)) := by
  have hT := q.t31
  rcases (q.2.2.2.2.2.2.2.1 f hf).2.1 with ⟨h1, h2, -⟩ | ⟨⟨t, ht, h1, -⟩, h2⟩
  · exact Or.inl ⟨h1, h2⟩
  · refine Or.inr ⟨by rw [h1]; exact nI_m1 (by omega), ?_⟩
    rcases h2 with ⟨h2, -⟩ | h2
    · exact Or.inl h2
    · exact Or.inr h2
end PA
