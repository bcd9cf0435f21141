section PL
variable {T B F a : Nat} {r : Nat → Nat} {hx hm : qH}
theorem nask_upd {N N' : Nat → Int32} {f : Nat} {θ : Int32} (hf' : N' (144 + f) = θ) (no : ∀ g, g < 24 → g ≠ f → N' (144 + g) = N (144 + g)) : ∀ n, n ≤ 24 → f < n → nask N' n + (if N (144 + f) = 0 then 0 else 1) = nask N n + (if θ = 0 then 0 else 1)
  | 0, _, h => by omega
  | n + 1, hn, h => by
    show nask N' n + (if N' (144 + n) = 0 then 0 else 1) + _ = nask N n + (if N (144 + n) = 0 then 0 else 1) + _
    by_cases e : f = n
    · subst e
      rw [nask_congr f (fun g hg => no g (by omega) (by omega)), hf']
      omega
    · have ih := nask_upd hf' no n (by omega) (by omega)
      rw [no n (by omega) (by omega)]
      omega
theorem IN.upF {N N' : Nat → Int32} {B' f : Nat} {ω κ θ u' : Int32} (h : IN T r B F N) (hT : T ≤ 8) (hF : F ≤ 24) (hf : f < F)
    (n48 : N' (48 + f) = ω) (n120 : N' (120 + f) = κ) (n144 : N' (144 + f) = θ) (n171 : N' 171 = u') (no : ∀ k, k ≠ 48 + f → k ≠ 120 + f → k ≠ 144 + f → k ≠ 171 → N' k = N k)
    (hu : isN u' ∧ ix (N 171) ≤ ix u' ∧ ix u' ≤ B') (hω : (ω = -1 ∧ κ = 0 ∧ θ = 0) ∨ (ω = N (48 + f) ∧ ¬ N (48 + f) = -1 ∧ (κ = 0 ∧ θ = 0 ∨ κ = 1))) (hθ : isN θ ∧ ix θ ≤ ix u') (hd : θ = 0 ∨ ∀ g, g < F → g ≠ f → ¬ N (144 + g) = θ) (ha : nask N F + (if θ = 0 then 0 else 1) ≤ 12 + (if N (144 + f) = 0 then 0 else 1)) : IN T r B' F N' := by
  obtain ⟨⟨i1, i2, i3, i4⟩, i5, i6, i7, i8, i9, i10⟩ := h
  have f1 : ∀ g, g < F → N' (72 + g) = N (72 + g) ∧ N' (96 + g) = N (96 + g) := fun g hg => ⟨no _ (by omega) (by omega) (by omega) (by omega), no _ (by omega) (by omega) (by omega) (by omega)⟩
  have f2 : ∀ g, g < F → g ≠ f → N' (48 + g) = N (48 + g) ∧ N' (120 + g) = N (120 + g) ∧ N' (144 + g) = N (144 + g) := fun g hg hne => ⟨no _ (by omega) (by omega) (by omega) (by omega), no _ (by omega) (by omega) (by omega) (by omega), no _ (by omega) (by omega) (by omega) (by omega)⟩
  have f3 : N' 168 = N 168 := no _ (by omega) (by omega) (by omega) (by omega)
  have f5 : ∀ t, t < T → N' (16 + t) = N (16 + t) ∧ N' t = N t ∧ N' (8 + t) = N (8 + t) := fun t ht => ⟨no _ (by omega) (by omega) (by omega) (by omega), no _ (by omega) (by omega) (by omega) (by omega), no _ (by omega) (by omega) (by omega) (by omega)⟩
  refine ⟨⟨by rw [f3]; exact i1, i2, by rw [n171]; exact hu.1, by rw [n171]; exact hu.2.2⟩, fun t ht => ?_, fun t u ht hu' => ?_, fun g hg => ?_, fun g g' hg hg' hne => ?_, fun g g' hg hg' => ?_, ?_⟩
  · rw [(f5 t ht).1, (f5 t ht).2.1, (f5 t ht).2.2]
    exact i5 t ht
  · rw [(f5 t ht).2.1, (f5 u hu').2.1]
    exact i6 t u ht hu'
  · obtain ⟨j1, j2, j3, j4⟩ := i7 g hg
    rw [(f1 g hg).1, (f1 g hg).2, n171]
    by_cases e : g = f
    · subst e
      rw [n48, n120, n144]
      refine ⟨j1, ?_, hθ⟩
      rcases hω with hω | ⟨e1, e2, e3⟩
      · exact Or.inl hω
      · rcases j2 with ⟨j2, -⟩ | ⟨⟨t, ht, k1, k2⟩, -⟩
        · exact absurd j2 e2
        · exact Or.inr ⟨⟨t, ht, by rw [e1]; exact k1, by rw [(f5 t ht).1]; exact k2⟩, e3⟩
    · obtain ⟨g1, g2, g3⟩ := f2 g hg e
      rw [g1, g2, g3]
      refine ⟨j1, ?_, j3, Nat.le_trans j4 hu.2.1⟩
      rcases j2 with j2 | ⟨⟨t, ht, k1, k2⟩, j2⟩
      · exact Or.inl j2
      · exact Or.inr ⟨⟨t, ht, k1, by rw [(f5 t ht).1]; exact k2⟩, j2⟩
  · rw [(f1 g hg).1, (f1 g hg).2, (f1 g' hg').1, (f1 g' hg').2]
    have key : ∀ x, x < F → N' (48 + x) = -1 ∨ N' (48 + x) = N (48 + x) := by
      intro x hx'
      by_cases e : x = f
      · subst e
        rw [n48]
        rcases hω with hω | hω
        · exact Or.inl hω.1
        · exact Or.inr hω.1
      · exact Or.inr (f2 x hx' e).1
    intro e
    rcases key g hg with k1 | k1
    · exact Or.inl k1
    · rcases key g' hg' with k2 | k2
      · exact Or.inl (e.trans k2)
      · rw [k1, k2] at e
        rw [k1]
        exact i8 g g' hg hg' hne e
  · by_cases e : g = f <;> by_cases e' : g' = f
    · intro _; exact Or.inr (by omega)
    · subst e
      rw [n144, (f2 g' hg' e').2.2]
      intro h9
      rcases hd with hd | hd
      · exact Or.inl hd
      · exact absurd h9.symm (hd g' hg' e')
    · subst e'
      rw [n144, (f2 g hg e).2.2]
      intro h9
      rcases hd with hd | hd
      · exact Or.inl (h9.trans hd)
      · exact absurd h9 (hd g hg e)
    · rw [(f2 g hg e).2.2, (f2 g' hg' e').2.2]
      exact i9 g g' hg hg'
  · have := nask_upd (N := N) (N' := N') n144 (fun g h24 hg => no _ (by omega) (by omega) (by omega) (by omega)) F hF hf
    omega
/-- one file is touched: on, known, turn; the turns' counter -/
theorem QQ.upF (q : QQ T r B F hx a hm) (ka : kStage a) {hx' hm' : qH} {N' : Nat → Int32} {B' f : Nat} {ω κ θ u' : Int32} (hf : f < F)
    (h0 : hx'.1 a = upd (hx.1 a) 4 u') (h7 : hx'.1 (a + 7) = upd (hx.1 (a + 7)) f ω) (h10 : hx'.1 (a + 10) = upd (hx.1 (a + 10)) f κ) (h11 : hx'.1 (a + 11) = upd (hx.1 (a + 11)) f θ) (ho : ∀ b, b ≠ a → b ≠ a + 7 → b ≠ a + 10 → b ≠ a + 11 → hx'.1 b = hx.1 b) (hl : hx'.2 = hx.2)
    (hN : hm'.1 9 = N') (n48 : N' (48 + f) = ω) (n120 : N' (120 + f) = κ) (n144 : N' (144 + f) = θ) (n171 : N' 171 = u') (no : ∀ k, k ≠ 48 + f → k ≠ 120 + f → k ≠ 144 + f → k ≠ 171 → N' k = hm.1 9 k) (fm : FM hm hm') (h18 : hm'.1 0 18 = hm.1 0 18)
    (hu : isN u' ∧ ix (hm.1 9 171) ≤ ix u' ∧ ix u' ≤ B') (hω : (ω = -1 ∧ κ = 0 ∧ θ = 0) ∨ (ω = hm.1 9 (48 + f) ∧ ¬ hm.1 9 (48 + f) = -1 ∧ (κ = 0 ∧ θ = 0 ∨ κ = 1))) (hθ : isN θ ∧ ix θ ≤ ix u') (hd : θ = 0 ∨ ∀ g, g < F → g ≠ f → ¬ hm.1 9 (144 + g) = θ) (hk : nask (hm.1 9) F + (if θ = 0 then 0 else 1) ≤ 12 + (if hm.1 9 (144 + f) = 0 then 0 else 1)) : OP T r B' F a hx hm hx' hm' := by
  have hT := q.t31
  obtain ⟨⟨s1, s2, s3, s4⟩, s5, s6⟩ := q.2.2.2.1
  have fx : FX a hx hx' := ⟨fun b h1 _ => ho b (by omega) (by omega) (by omega) (by omega), hl⟩
  refine ⟨q.mk ka fx fm ?_ ?_, fx, fm, ?_⟩
  · rw [hN]
    refine ⟨⟨?_, ?_, ?_, ?_⟩, fun u hu => ?_, fun g hg => ?_⟩
    · rw [h0, upd_ne (by omega), s1, no _ (by omega) (by omega) (by omega) (by omega)]
    · rw [h0, upd_ne (by omega), s2, no _ (by omega) (by omega) (by omega) (by omega)]
    · rw [h0, upd_at, n171]
    · rw [h0, upd_ne (by omega), s4, no _ (by omega) (by omega) (by omega) (by omega)]
    · unfold RP
      rw [ho (a + 1) (by omega) (by omega) (by omega) (by omega), ho (a + 2) (by omega) (by omega) (by omega) (by omega), ho (a + 3) (by omega) (by omega) (by omega) (by omega), ho (a + 4) (by omega) (by omega) (by omega) (by omega), ho (a + 5) (by omega) (by omega) (by omega) (by omega), ho (a + 6) (by omega) (by omega) (by omega) (by omega)]
      rw [no u (by omega) (by omega) (by omega) (by omega), no (8 + u) (by omega) (by omega) (by omega) (by omega), no (16 + u) (by omega) (by omega) (by omega) (by omega), no (24 + u) (by omega) (by omega) (by omega) (by omega), no (32 + u) (by omega) (by omega) (by omega) (by omega), no (40 + u) (by omega) (by omega) (by omega) (by omega)]
      exact s5 u hu
    · obtain ⟨e7, e8, e9, e10, e11⟩ := s6 g hg
      rw [h7, h10, h11, ho (a + 8) (by omega) (by omega) (by omega) (by omega), ho (a + 9) (by omega) (by omega) (by omega) (by omega), no (72 + g) (by omega) (by omega) (by omega) (by omega), no (96 + g) (by omega) (by omega) (by omega) (by omega)]
      by_cases e : g = f
      · subst e
        rw [upd_at, upd_at, upd_at, n48, n120, n144]
        exact ⟨rfl, e8, e9, rfl, rfl⟩
      · rw [upd_ne e, upd_ne e, upd_ne e, no (48 + g) (by omega) (by omega) (by omega) (by omega), no (120 + g) (by omega) (by omega) (by omega) (by omega), no (144 + g) (by omega) (by omega) (by omega) (by omega)]
        exact ⟨e7, e8, e9, e10, e11⟩
  · rw [hN]
    exact q.2.2.2.2.upF hT.1 hT.2 hf n48 n120 n144 n171 no hu hω hθ hd hk
  · rw [h0, upd_ne (by omega), h18]
theorem upd_self (f : Nat → Int32) (k : Nat) : upd f k (f k) = f := by
  funext j
  by_cases e : j = k
  · subst e; rw [upd_at]
  · rw [upd_ne e]
theorem QQ.turns (q : QQ T r B F hx a hm) : isN (hm.1 9 171) ∧ ix (hm.1 9 171) ≤ ix (hm.1 9 171) ∧ ix (hm.1 9 171) ≤ B := ⟨q.2.2.2.2.1.2.2.1, Nat.le_refl _, q.2.2.2.2.1.2.2.2⟩
theorem isN_m1 {x : Int32} (h : isN x) : ¬ x = -1 := by
  rw [h]
  exact nI_m1 (isN_lt x)
theorem QQ.dropFile (q : QQ T r B F hx a hm) (ka : kStage a) {f : Nat} (hf : f < F) : ∃ v hx' hm', ¬ v = -1 ∧ f7_dropFile a (nI f) hx = some (v, hx') ∧ f9_dropsNow (nI f) hm = some (v, hm') ∧ OP T r B F a hx hm hx' hm' := by
  have hT := q.t31
  obtain ⟨e7, e8, e9, e10, e11⟩ := q.fl hf
  obtain ⟨⟨s1, s2, s3, s4⟩, s5, s6⟩ := q.2.2.2.1
  refine ⟨hm.1 9 (96 + f), qrow (qrow (qrow hx (a + 7) (upd (hx.1 (a + 7)) f (-1))) (a + 10) (upd (hx.1 (a + 10)) f 0)) (a + 11) (upd (hx.1 (a + 11)) f 0), qrow hm 9 (upd (upd (upd (hm.1 9) (48 + f) (-1)) (120 + f) 0) (144 + f) 0), isN_m1 (q.2.2.2.2.2.2.2.1 f hf).1.2.1, ?_, ?_, ?_⟩
  · unfold f7_dropFile
    simp only [q24 (show f < 24 by omega), ix_nI (show f < 2 ^ 31 by omega), qg_t, qlt_e, qw, qrow_ne (show a + 10 ≠ a + 7 by omega), qrow_ne (show a + 11 ≠ a + 7 by omega), qrow_ne (show a + 11 ≠ a + 10 by omega), qrow_ne (show a + 9 ≠ a + 7 by omega), qrow_ne (show a + 9 ≠ a + 10 by omega), qrow_ne (show a + 9 ≠ a + 11 by omega), e9]
  · unfold f9_dropsNow
    simp only [la_48, la_96, la_120, la_144, q353 (show 48 + f < 353 by omega), i353 (show 48 + f < 353 by omega), q353 (show 96 + f < 353 by omega), i353 (show 96 + f < 353 by omega), q353 (show 120 + f < 353 by omega), i353 (show 120 + f < 353 by omega), q353 (show 144 + f < 353 by omega), i353 (show 144 + f < 353 by omega), qg_t, qlt_e, qw, qrow_at, qrow_qrow, upd_ne (show 96 + f ≠ 144 + f by omega), upd_ne (show 96 + f ≠ 120 + f by omega), upd_ne (show 96 + f ≠ 48 + f by omega)]
  · refine q.upF (ω := -1) (κ := 0) (θ := 0) (u' := hm.1 9 171) ka hf ?_ ?_ ?_ ?_ (fun b h1 h2 h3 h4 => by rw [qrow_ne h4, qrow_ne h3, qrow_ne h2]) rfl (qrow_at _ _ _) ?_ ?_ (upd_at _ _ _) ?_ (fun k h1 h2 h3 h4 => by rw [upd_ne h3, upd_ne h2, upd_ne h1]) (FM.now fun k hk => by rw [upd_ne (by omega), upd_ne (by omega), upd_ne (by omega)]) (by rw [qrow_ne (by omega)]) q.turns (Or.inl ⟨rfl, rfl, rfl⟩) ⟨rfl, Nat.zero_le _⟩ (Or.inl rfl) ?_
    · rw [qrow_ne (by omega), qrow_ne (by omega), qrow_ne (by omega), ← s3, upd_self]
    · rw [qrow_ne (by omega), qrow_ne (by omega), qrow_at]
    · rw [qrow_ne (by omega), qrow_at]
    · rw [qrow_at]
    · rw [upd_ne (by omega), upd_ne (by omega), upd_at]
    · rw [upd_ne (by omega), upd_at]
    · rw [upd_ne (by omega), upd_ne (by omega), upd_ne (by omega)]
    · have := q.2.2.2.2.2.2.2.2.2.2
      rw [if_pos rfl]
      omega
end PL
