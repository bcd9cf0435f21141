section PW1
variable {T B F : Nat} {r : Nat → Nat} {N : Nat → Int32} {h : qH}
theorem seek2 (hX : HX T r h) (hB : HB T r) (hI : IN T r B F N) {p f t : Nat} (ht : t < 2 ^ 31) (hp : p < r 2 * r 3) (hf : f < F) (hia : ia N t f = true) : f4_seekTime 6 (nI p) (N (72 + f)) h = some (nI (skn r p (ix (N (72 + f))))) := by
  obtain ⟨j1, j2, j3, j4⟩ := (hI.2.2.2.1 f hf).1
  obtain ⟨-, k1, k2⟩ := hI.fit hB.2.1 hf ht (ia_iff.mp hia).1
  have hn : N (72 + f) = nI (ix (N (72 + f))) := j1
  generalize ix (N (72 + f)) = k at hn k1 ⊢
  rw [hn]
  exact f4_seekTime_eq hX hB hp (by omega)
theorem ahead2 (hX : HX T r h) (hB : HB T r) (hI : IN T r B F N) {t C o p k k' : Nat} {g : Nat → Nat} (ga : GA N F t C g h) (ht : t < 2 ^ 31) (hC : C ≤ 12) (ho : o < 3) (hp : p < r 2 * r 3) (hk : k < C) (hk' : k' < C) : f2_isAhead (nI o) (nI k) (nI k') (nI p) h = some (if bf N r o p (g k) (g k') = true then 1 else 0) := by
  obtain ⟨a1, a2, a3, a4, a5, a6⟩ := ga.2.1 k hk
  obtain ⟨b1, b2, b3, b4, b5, b6⟩ := ga.2.1 k' hk'
  have nf := (hI.2.2.2.1 _ a5).1.1
  have ng := (hI.2.2.2.1 _ b5).1.1
  have tf := (hI.2.2.2.1 _ a5).2.2.1
  have tg := (hI.2.2.2.1 _ b5).2.2.1
  have h1 := hB.2.2.2.2.2.2.2.1
  have h2 := hB.2.2.2.2.2.2.2.2.1
  unfold f2_isAhead
  simp only [q12 (show k < 12 by omega), q12 (show k' < 12 by omega), ix_nI (show k < 2 ^ 31 by omega), ix_nI (show k' < 2 ^ 31 by omega), qg_t, qj_e, qlt_e, qbo_if', qbo_0, qbo_1, a2, b2, a4, b4, seek2 hX hB hI ht hp a5 a6, seek2 hX hB hI ht hp b5 b6, bind_s, isN_le2 ng nf, isN_le2 tg tf]
  rcases (show o = 0 ∨ o = 1 ∨ o = 2 by omega) with rfl | rfl | rfl
  · rw [if_pos (by decide)]
    by_cases h : ix (N (72 + g k')) ≤ ix (N (72 + g k))
    · rw [if_pos h, if_neg]
      rw [Bool.not_eq_true, bf_not, ok1_0, ok1_0, ok2_0, ok2_0]
      exact Or.inr ⟨rfl, h⟩
    · rw [if_neg h, if_pos]
      rw [bf_iff, ok1_0, ok1_0, ok2_0, ok2_0]
      exact Or.inr ⟨rfl, by omega⟩
  · have l1 := skn_le (r := r) (b := p) (c := ix (N (72 + g k))) (by omega) h2
    have l2 := skn_le (r := r) (b := p) (c := ix (N (72 + g k'))) (by omega) h2
    rw [if_neg (by decide), if_pos (by decide)]
    simp only [nI_ltI (show skn r p (ix (N (72 + g k))) < 2 ^ 31 by omega) (show skn r p (ix (N (72 + g k'))) < 2 ^ 31 by omega), nI_eq (show skn r p (ix (N (72 + g k))) < 2 ^ 31 by omega) (show skn r p (ix (N (72 + g k'))) < 2 ^ 31 by omega)]
    have e1 : ok1 N r 1 p (g k) = skn r p (ix (N (72 + g k))) := ok1_1
    have e2 : ok1 N r 1 p (g k') = skn r p (ix (N (72 + g k'))) := ok1_1
    have e3 : ok2 N 1 (g k) = ix (N (72 + g k)) := ok2_1
    have e4 : ok2 N 1 (g k') = ix (N (72 + g k')) := ok2_1
    by_cases h1 : skn r p (ix (N (72 + g k))) < skn r p (ix (N (72 + g k')))
    · rw [if_pos h1, if_pos]
      rw [bf_iff, e1, e2]
      exact Or.inl h1
    · rw [if_neg h1]
      by_cases h2 : skn r p (ix (N (72 + g k))) = skn r p (ix (N (72 + g k')))
      · rw [if_pos h2]
        by_cases h : ix (N (72 + g k')) ≤ ix (N (72 + g k))
        · rw [if_pos h, if_neg]
          rw [Bool.not_eq_true, bf_not, e1, e2, e3, e4]
          omega
        · rw [if_neg h, if_pos]
          rw [bf_iff, e1, e2, e3, e4]
          omega
      · rw [if_neg h2, if_neg]
        rw [Bool.not_eq_true, bf_not, e1, e2, e3, e4]
        omega
  · rw [if_neg (by decide), if_neg (by decide)]
    by_cases h : ix (N (144 + g k')) ≤ ix (N (144 + g k))
    · rw [if_pos h, if_neg]
      rw [Bool.not_eq_true, bf_not, ok1_2, ok1_2, ok2_2, ok2_2]
      exact Or.inr ⟨rfl, h⟩
    · rw [if_neg h, if_pos]
      rw [bf_iff, ok1_2, ok1_2, ok2_2, ok2_2]
      exact Or.inr ⟨rfl, by omega⟩
/-- no two are each behind the other -/
theorem bf_uniq (hI : IN T r B F N) {t o p f g : Nat} (ht : t < 2 ^ 31) (hf : f < F) (hg : g < F) (h1 : ia N t f = true) (h2 : ia N t g = true) (e1 : bf N r o p f g = false) (e2 : bf N r o p g f = false) : f = g := by
  rw [bf_not] at e1 e2
  have ek : ok2 N o f = ok2 N o g := by omega
  rw [ia_iff] at h1 h2
  unfold ok2 at ek
  by_cases ho : o = 2
  · rw [if_pos ho, if_pos ho] at ek
    have n1 : N (144 + f) = nI (ix (N (144 + f))) := (hI.2.2.2.1 f hf).2.2.1
    have n2 : N (144 + g) = nI (ix (N (144 + g))) := (hI.2.2.2.1 g hg).2.2.1
    have e : N (144 + f) = N (144 + g) := by rw [n1, n2, ek]
    rcases hI.2.2.2.2.2.1 f g hf hg e with h9 | h9
    · exact absurd h9 h1.2
    · exact h9
  · rw [if_neg ho, if_neg ho] at ek
    have p1 := (hI.2.2.2.1 f hf).1.2.2.1
    have p2 := (hI.2.2.2.1 g hg).1.2.2.1
    rcases hI.dis hf hg ht h1.1 h2.1 with h9 | h9 | h9
    · exact h9
    · omega
    · omega
theorem HX.r48 {w : Nat → Int32} (hX : HX T r h) {c : Nat} (hc : 43 ≤ c) : HX T r (qrow h c w) := by
  unfold HX at hX ⊢
  rw [qrow_ne (show (6 : Nat) ≠ c by omega), qrow_ne (show (7 : Nat) ≠ c by omega), qrow_ne (show (12 : Nat) ≠ c by omega), qrow_ne (show (13 : Nat) ≠ c by omega)]
  exact hX
theorem GA.r48 {t C : Nat} {g : Nat → Nat} {w : Nat → Int32} (ga : GA N F t C g h) : GA N F t C g (qrow h 48 w) := ga.cg (qrow_ne (by omega)) (qrow_ne (by omega)) (qrow_ne (by omega)) (qrow_ne (by omega)) (qrow_ne (by omega))
theorem timeOf52 (hX : HX T r h) (hB : HB T r) (hI : IN T r B F N) {t C o p i : Nat} {g ρ : Nat → Nat} {τ : Int32} (ga : GA N F t C g h) (ht : t < 2 ^ 31) (hC : C ≤ 12) (ho : o < 3) (hp : p < r 2 * r 3) (hi : i < C) (hρ : ∀ j, j < C → h.1 48 j = nI (ρ j) ∧ ρ j < C) : ∃ c, i ≤ c ∧ c < C ∧ (∀ j, i ≤ j → j < C → bf N r o p (g (ρ j)) (g (ρ c)) = false) ∧ ∀ k, f2_timeOf_L52 (nI o) (nI p) τ (nI i) h k qN (nI i) (nI (i + 1)) = k (nI c) (nI C) := by
  obtain ⟨c, ⟨⟨h1, h2, h3⟩, -⟩, h4⟩ := lq1 (σ := Nat) (γ := (Int32 → Int32 → Option (Int32 × qH)) → Option (Int32 × qH)) (fun m c x k => f2_timeOf_L52 (nI o) (nI p) τ (nI i) h k m (nI c) x) (fun c x k => k (nI c) x) (fun j c => (i ≤ c ∧ c < C ∧ ∀ j', i ≤ j' → j' < j → bf N r o p (g (ρ j')) (g (ρ c)) = false) ∧ i ≤ j) C (fun j c hj hc => by
    obtain ⟨⟨c1, c2, c3⟩, hij⟩ := hc
    have g1 := nI_ge hj (show C < 2 ^ 31 by omega)
    obtain ⟨w1, w2⟩ := hρ j hj
    obtain ⟨w3, w4⟩ := hρ c c2
    have ea := ahead2 hX hB hI ga ht hC ho hp w2 w4
    by_cases hb : bf N r o p (g (ρ j)) (g (ρ c)) = true
    · refine ⟨j, ⟨⟨hij, hj, fun j' h1 h2 => ?_⟩, by omega⟩, fun m => funext fun k => ?_⟩
      · by_cases e : j' = j
        · subst e; rw [bf_not]; omega
        · have := c3 j' h1 (by omega)
          rw [bf_iff] at hb
          rw [bf_not] at this ⊢
          omega
      · show f2_timeOf_L52 (nI o) (nI p) τ (nI i) h k (m + 1) (nI c) (nI j) = f2_timeOf_L52 (nI o) (nI p) τ (nI i) h k m (nI j) (nI (j + 1))
        simp only [f2_timeOf_L52, ga.1, g1, if_false, q12 (show j < 12 by omega), q12 (show c < 12 by omega), ix_nI (show j < 2 ^ 31 by omega), ix_nI (show c < 2 ^ 31 by omega), qg_t, w1, w3, ea, hb, if_true, bind_s, q1f, qlt_e, nI_1]
    · refine ⟨c, ⟨⟨c1, c2, fun j' h1 h2 => ?_⟩, by omega⟩, fun m => funext fun k => ?_⟩
      · by_cases e : j' = j
        · subst e; simpa using hb
        · exact c3 j' h1 (by omega)
      · show f2_timeOf_L52 (nI o) (nI p) τ (nI i) h k (m + 1) (nI c) (nI j) = f2_timeOf_L52 (nI o) (nI p) τ (nI i) h k m (nI c) (nI (j + 1))
        simp only [f2_timeOf_L52, ga.1, g1, if_false, q12 (show j < 12 by omega), q12 (show c < 12 by omega), ix_nI (show j < 2 ^ 31 by omega), ix_nI (show c < 2 ^ 31 by omega), qg_t, w1, w3, ea, hb, Bool.false_eq_true, if_true, bind_s, qlt_e, nI_1]) (fun m c _ => funext fun k => by
    show f2_timeOf_L52 (nI o) (nI p) τ (nI i) h k (m + 1) (nI c) (nI C) = _
    rw [f2_timeOf_L52, ga.1, if_pos (nI_le (Nat.le_refl _) (by omega))]) (C - (i + 1)) (i + 1) i (by omega) ⟨⟨Nat.le_refl _, hi, fun j' h1 h2 => by
    rw [show j' = i by omega, bf_not]
    omega⟩, by omega⟩
  exact ⟨c, h1, h2, h3, fun k => congrFun (h4 qN (qN_lt (by omega))) k⟩
theorem timeOf2 {C : Nat} (hC : C ≤ 12) (h43 : h.1 43 1 = nI C) {o : Int32} (k : Int32 → qH → Option (Int32 × qH)) : ∃ w, (∀ j, j < C → w j = nI j) ∧ f2_timeOf_L2 o k qN 0 h = k (nI C) (qrow h 48 w) := by
  obtain ⟨w, hw, h1⟩ := lq10 (σ := Nat → Int32) (fun m w x => f2_timeOf_L2 o k m x (qrow h 48 w)) (fun w x => k x (qrow h 48 w)) (fun i w => ∀ j, j < i → w j = nI j) C (by omega) (h.1 48) (fun j hj => by omega) (fun i w hi hw => by
    have g1 := nI_ge hi (show C < 2 ^ 31 by omega)
    have e43 : (qrow h 48 w).1 43 = h.1 43 := qrow_ne (by omega)
    refine ⟨upd w i (nI i), fun j hj => ?_, fun m => ?_⟩
    · by_cases e : j = i
      · subst e; rw [upd_at]
      · rw [upd_ne e]; exact hw j (by omega)
    · show f2_timeOf_L2 o k (m + 1) (nI i) (qrow h 48 w) = f2_timeOf_L2 o k m (nI (i + 1)) (qrow h 48 (upd w i (nI i)))
      simp only [f2_timeOf_L2, e43, h43, g1, if_false, q12 (show i < 12 by omega), ix_nI (show i < 2 ^ 31 by omega), qg_t, qlt_e, qw, qrow_at, qrow_qrow, nI_1]) (fun m w _ => by
    show f2_timeOf_L2 o k (m + 1) (nI C) (qrow h 48 w) = _
    rw [f2_timeOf_L2, qrow_ne (by omega), h43, if_pos (nI_le (Nat.le_refl _) (by omega))])
  have h1' : f2_timeOf_L2 o k qN 0 (qrow h 48 (h.1 48)) = k (nI C) (qrow h 48 w) := h1
  rw [qrow_self] at h1'
  exact ⟨w, hw, h1'⟩
theorem timeOf (hX : HX T r h) (hB : HB T r) (hI : IN T r B F N) {t o p0 : Nat} {g : Nat → Nat} (ga : GA N F t (ak N (nI t) F) g h) (ht : t < 2 ^ 31) (hC : ak N (nI t) F ≤ 12) (ho : o < 3) (hp0 : p0 < r 2 * r 3) (hh : h.1 43 2 = nI p0) : ∃ w, f2_timeOf (nI o) h = some ((sq N r F t o p0 (ak N (nI t) F)).2.1, qrow h 48 w) ∧ ∀ j, j < ak N (nI t) F → ∃ k, k < ak N (nI t) F ∧ w j = nI k ∧ g k = sb N r F t o (sq N r F t o p0 j) := by
  have hL : r 2 * r 3 ≤ 96 := Nat.le_trans (Nat.mul_le_mul hB.2.2.2.2.2.2.2.2.1 hB.2.2.2.2.2.2.2.2.2.2.1) (by omega)
  unfold f2_timeOf
  generalize hCe : ak N (nI t) F = C at *
  obtain ⟨w0, hw0, l2⟩ := timeOf2 hC ga.1 (o := nI o) (fun (x6 : Int32) (h7 : qH) => qlt (h7.1 43 2) fun (x8 : Int32) => f2_timeOf_L33 (nI o) (fun (x31 : Int32) (x32 : Int32) (x33 : Int32) (h34 : qH) => some (x32, h34)) qN x8 (0 : Int32) (0 : Int32) h7)
  rw [l2, qlt_e, qrow_ne (by omega), hh]
  obtain ⟨s, ⟨-, e2, -, ρ, hρ, -, -, hg⟩, h1⟩ := lq10 (σ := Nat × Int32 × (Nat → Int32)) (fun m s x => f2_timeOf_L33 (nI o) (fun _ x32 _ h34 => some (x32, h34)) m (nI s.1) s.2.1 x (qrow h 48 s.2.2)) (fun s _ => some (s.2.1, qrow h 48 s.2.2)) (fun i s => s.1 = (sq N r F t o p0 i).1 ∧ s.2.1 = (sq N r F t o p0 i).2.1 ∧ s.1 < r 2 * r 3 ∧ ∃ ρ : Nat → Nat, (∀ j, j < C → s.2.2 j = nI (ρ j) ∧ ρ j < C) ∧ (∀ j j', j < C → j' < C → ρ j = ρ j' → j = j') ∧ (∀ k, k < C → ∃ j, j < C ∧ ρ j = k) ∧ ∀ j, j < i → g (ρ j) = sb N r F t o (sq N r F t o p0 j)) C (by omega) (p0, 0, w0) ⟨rfl, rfl, hp0, fun j => j, fun j hj => ⟨hw0 j hj, hj⟩, fun _ _ _ _ e => e, fun k hk => ⟨k, hk, rfl⟩, fun j hj => by omega⟩ (fun i s hi hs => by
    obtain ⟨p, τ, w⟩ := s
    have hs : p = (sq N r F t o p0 i).1 ∧ τ = (sq N r F t o p0 i).2.1 ∧ p < r 2 * r 3 ∧ ∃ ρ : Nat → Nat, (∀ j, j < C → w j = nI (ρ j) ∧ ρ j < C) ∧ (∀ j j', j < C → j' < C → ρ j = ρ j' → j = j') ∧ (∀ k, k < C → ∃ j, j < C ∧ ρ j = k) ∧ ∀ j, j < i → g (ρ j) = sb N r F t o (sq N r F t o p0 j) := hs
    obtain ⟨ep, et, hp, ρ, hρ, hinj, hsur, hg⟩ := hs
    have hinv := sq_inv N r F t o p0 i (by omega)
    have hpk := sq_pk hinv.1 (by omega)
    obtain ⟨c1, c2, c3, c4⟩ := pk_some hpk
    rw [← ep] at hpk c4
    have e1 : sq N r F t o p0 (i + 1) = (ix (N (72 + sb N r F t o (sq N r F t o p0 i))) + ix (N (96 + sb N r F t o (sq N r F t o p0 i))) - 1, (sq N r F t o p0 i).2.1 + (sk r (sq N r F t o p0 i).1 (ix (N (72 + sb N r F t o (sq N r F t o p0 i)))) + N (96 + sb N r F t o (sq N r F t o p0 i))), fun g => decide (g = sb N r F t o (sq N r F t o p0 i)) || (sq N r F t o p0 i).2.2 g) := rfl
    rw [← ep, ← et] at e1
    obtain ⟨c, h1, h2, h3, h4⟩ := timeOf52 (h := qrow h 48 w) (τ := τ) (ρ := ρ) (hX.r48 (by omega)) hB hI ga.r48 ht hC ho hp hi (fun j hj => by rw [qrow_at]; exact hρ j hj)
    obtain ⟨k1, k2⟩ := hρ c h2
    obtain ⟨v1, v2, v3, v4, v5, v6⟩ := ga.2.1 (ρ c) k2
    have hb : g (ρ c) = sb N r F t o (sq N r F t o p0 i) := by
      have d1 : (sq N r F t o p0 i).2.2 (g (ρ c)) = false := by
        rw [← Bool.not_eq_true]
        intro h9
        obtain ⟨j, hj, ej⟩ := (hinv.2 _).mp h9
        rw [← hg j hj] at ej
        have := hinj j c (by omega) h2 (ga.inj (hρ j (by omega)).2 k2 ej)
        omega
      have d2 := c4 (g (ρ c)) v5 v6 d1
      obtain ⟨kk, hkk, ekk⟩ := ga.2.2.2 _ c1 c2
      obtain ⟨j, hj, ej⟩ := hsur kk hkk
      have hij : i ≤ j := by
        rcases Nat.lt_or_ge j i with h9 | h9
        · exfalso
          have : (sq N r F t o p0 i).2.2 (sb N r F t o (sq N r F t o p0 i)) = true := (hinv.2 _).mpr ⟨j, h9, by rw [← hg j h9, ej, ekk]⟩
          rw [c3] at this
          cases this
        · exact h9
      have d3 := h3 j hij hj
      rw [ej, ekk] at d3
      exact bf_uniq hI ht v5 c1 v6 c2 d2 d3
    generalize hsb : sb N r F t o (sq N r F t o p0 i) = b at *
    obtain ⟨z1, z2, z3, z4⟩ := (hI.2.2.2.1 b c1).1
    obtain ⟨-, z5, z6⟩ := hI.fit hB.2.1 c1 ht (ia_iff.mp c2).1
    have z1' : N (72 + b) = nI (ix (N (72 + b))) := z1
    have z2' : N (96 + b) = nI (ix (N (96 + b))) := z2
    have esum : N (72 + b) + N (96 + b) - 1 = nI (ix (N (72 + b)) + ix (N (96 + b)) - 1) := by
      obtain ⟨m, hm'⟩ : ∃ m, ix (N (72 + b)) + ix (N (96 + b)) = m + 1 := ⟨ix (N (72 + b)) + ix (N (96 + b)) - 1, by omega⟩
      have e9 : N (72 + b) + N (96 + b) = nI (m + 1) := by
        rw [← hm', ← nI_add, ← z1', ← z2']
      rw [e9, nI_pred, hm']
      rfl
    have g1 := nI_ge hi (show C < 2 ^ 31 by omega)
    obtain ⟨i1, i2⟩ := hρ i hi
    rw [hb] at v2 v3
    have eS : ∀ w, f4_seekTime 6 (nI p) (N (72 + b)) (qrow h 48 w) = some (sk r p (ix (N (72 + b)))) := fun w => seek2 (hX.r48 (by omega)) hB hI ht hp c1 c2
    have e43 : ∀ w, (qrow h 48 w).1 43 = h.1 43 := fun w => qrow_ne (by omega)
    have e45 : ∀ w, (qrow h 48 w).1 45 = h.1 45 := fun w => qrow_ne (by omega)
    have e46 : ∀ w, (qrow h 48 w).1 46 = h.1 46 := fun w => qrow_ne (by omega)
    have e48 : ∀ w, (qrow h 48 w).1 48 = w := fun w => qrow_at _ _ _
    refine ⟨(ix (N (72 + b)) + ix (N (96 + b)) - 1, τ + (sk r p (ix (N (72 + b))) + N (96 + b)), upd (upd w c (nI (ρ i))) i (nI (ρ c))), ⟨by rw [e1], by rw [e1], ?_, fun j => if j = i then ρ c else if j = c then ρ i else ρ j, fun j hj => ?_, fun j j' hj hj' e => ?_, fun k hk => ?_, fun j hj => ?_⟩, fun m => ?_⟩
    · show ix (N (72 + b)) + ix (N (96 + b)) - 1 < r 2 * r 3
      omega
    · show upd (upd w c (nI (ρ i))) i (nI (ρ c)) j = nI (if j = i then ρ c else if j = c then ρ i else ρ j) ∧ (if j = i then ρ c else if j = c then ρ i else ρ j) < C
      by_cases e : j = i
      · subst e; rw [upd_at, if_pos rfl]; exact ⟨rfl, k2⟩
      · rw [upd_ne e, if_neg e]
        by_cases e' : j = c
        · subst e'; rw [upd_at, if_pos rfl]; exact ⟨rfl, i2⟩
        · rw [upd_ne e', if_neg e']; exact hρ j hj
    · have e : (if j = i then ρ c else if j = c then ρ i else ρ j) = (if j' = i then ρ c else if j' = c then ρ i else ρ j') := e
      by_cases a1 : j = i <;> by_cases a2 : j' = i
      · omega
      · rw [if_pos a1, if_neg a2] at e
        by_cases a3 : j' = c
        · rw [if_pos a3] at e
          have := hinj c i h2 hi e
          omega
        · rw [if_neg a3] at e
          have := hinj c j' h2 hj' e
          omega
      · rw [if_neg a1, if_pos a2] at e
        by_cases a3 : j = c
        · rw [if_pos a3] at e
          have := hinj i c hi h2 e
          omega
        · rw [if_neg a3] at e
          have := hinj j c hj h2 e
          omega
      · rw [if_neg a1, if_neg a2] at e
        by_cases a3 : j = c <;> by_cases a4 : j' = c
        · omega
        · rw [if_pos a3, if_neg a4] at e
          have := hinj i j' hi hj' e
          omega
        · rw [if_neg a3, if_pos a4] at e
          have := hinj j i hj hi e
          omega
        · rw [if_neg a3, if_neg a4] at e
          exact hinj j j' hj hj' e
    · obtain ⟨j, hj, ej⟩ := hsur k hk
      show ∃ j, j < C ∧ (if j = i then ρ c else if j = c then ρ i else ρ j) = k
      by_cases a1 : j = i
      · subst a1
        by_cases a2 : c = j
        · subst a2; exact ⟨c, h2, by rw [if_pos rfl]; exact ej⟩
        · exact ⟨c, h2, by rw [if_neg a2, if_pos rfl]; exact ej⟩
      · by_cases a2 : j = c
        · subst a2; exact ⟨i, hi, by rw [if_pos rfl]; exact ej⟩
        · exact ⟨j, hj, by rw [if_neg a1, if_neg a2]; exact ej⟩
    · show g (if j = i then ρ c else if j = c then ρ i else ρ j) = _
      by_cases a1 : j = i
      · subst a1; rw [if_pos rfl, hsb]; exact hb
      · rw [if_neg a1, if_neg (show ¬ j = c by omega)]
        exact hg j (by omega)
    · show f2_timeOf_L33 (nI o) _ (m + 1) (nI p) τ (nI i) (qrow h 48 w) = f2_timeOf_L33 (nI o) _ m (nI (ix (N (72 + b)) + ix (N (96 + b)) - 1)) (τ + (sk r p (ix (N (72 + b))) + N (96 + b))) (nI (i + 1)) (qrow h 48 (upd (upd w c (nI (ρ i))) i (nI (ρ c))))
      simp only [f2_timeOf_L33, e43, ga.1, g1, if_false, qlt_e, nI_1, h4, q12 (show c < 12 by omega), q12 (show i < 12 by omega), ix_nI (show c < 2 ^ 31 by omega), ix_nI (show i < 2 ^ 31 by omega), qg_t, e48, k1, i1, qw, qrow_qrow, q12 (show ρ c < 12 by omega), ix_nI (show ρ c < 2 ^ 31 by omega), e45, e46, v2, v3, eS, bind_s, esum]) (fun m s _ => by
    show f2_timeOf_L33 (nI o) _ (m + 1) (nI s.1) s.2.1 (nI C) (qrow h 48 s.2.2) = _
    rw [f2_timeOf_L33, qrow_ne (by omega), ga.1, if_pos (nI_le (Nat.le_refl _) (by omega))])
  refine ⟨s.2.2, ?_, fun j hj => ⟨ρ j, (hρ j hj).2, (hρ j hj).1, hg j hj⟩⟩
  rw [← e2]
  exact h1
end PW1
