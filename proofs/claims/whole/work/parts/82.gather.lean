/-- a loop that may end early -/
theorem lpx {γ σ : Type} (G : Nat → σ → Int32 → γ) (Q : γ → Prop) (I : Nat → σ → Prop) (n : Nat)
    (hs : ∀ i s, i < n → I i s → (∀ m, Q (G (m + 1) s (nI i))) ∨ ∃ s', I (i + 1) s' ∧ ∀ m, G (m + 1) s (nI i) = G m s' (nI (i + 1))) (he : ∀ m s, I n s → Q (G (m + 1) s (nI n))) :
    ∀ d i s m, i + d = n → I i s → d < m → Q (G m s (nI i))
  | 0, i, s, m, hi, hI, hm => by
    obtain ⟨k, rfl⟩ : ∃ k, m = k + 1 := ⟨m - 1, by omega⟩
    have e : i = n := by omega
    subst e
    exact he k s hI
  | d + 1, i, s, m, hi, hI, hm => by
    obtain ⟨k, rfl⟩ : ∃ k, m = k + 1 := ⟨m - 1, by omega⟩
    rcases hs i s (by omega) hI with h | ⟨s', hI', g1⟩
    · exact h k
    · rw [g1]
      exact lpx G Q I n hs he d (i + 1) s' k (by omega) hI' (by omega)
theorem lpx0 {γ σ : Type} (G : Nat → σ → Int32 → γ) (Q : γ → Prop) (I : Nat → σ → Prop) (n : Nat) (hn : n < 100000) (s : σ) (h0 : I 0 s)
    (hs : ∀ i s, i < n → I i s → (∀ m, Q (G (m + 1) s (nI i))) ∨ ∃ s', I (i + 1) s' ∧ ∀ m, G (m + 1) s (nI i) = G m s' (nI (i + 1))) (he : ∀ m s, I n s → Q (G (m + 1) s (nI n))) : Q (G qN s 0) := lpx G Q I n hs he n 0 s qN (by omega) h0 (qN_lt hn)
theorem ak_mono (N : Nat → Int32) (t : Int32) (i : Nat) : ∀ d, ak N t i ≤ ak N t (i + d)
  | 0 => Nat.le_refl _
  | d + 1 => Nat.le_trans (ak_mono N t i d) (Nat.le_add_right _ _)
theorem ak_ia {N : Nat → Int32} {t i : Nat} (h : ia N t i = true) : ak N (nI t) (i + 1) = ak N (nI t) i + 1 := by
  rw [ia_iff] at h
  show ak N (nI t) i + _ = _
  rw [if_pos h.1, if_neg h.2]
theorem ak_no {N : Nat → Int32} {t i : Nat} (h : ¬ ia N t i = true) : ak N (nI t) (i + 1) = ak N (nI t) i := by
  rw [ia_iff] at h
  show ak N (nI t) i + _ = _
  by_cases h1 : N (48 + i) = nI t
  · rw [if_pos h1]
    by_cases h2 : N (144 + i) = 0
    · rw [if_pos h2]; rfl
    · exact absurd ⟨h1, h2⟩ h
  · rw [if_neg h1]; rfl
theorem ak_lt {N : Nat → Int32} {t i f n : Nat} (h1 : i ≤ f) (h2 : f < n) (h : ia N t f = true) : ak N (nI t) i < ak N (nI t) n := by
  have e1 := ak_mono N (nI t) i (f - i)
  have e2 := ak_mono N (nI t) (f + 1) (n - (f + 1))
  rw [show i + (f - i) = f by omega] at e1
  rw [show f + 1 + (n - (f + 1)) = n by omega, ak_ia h] at e2
  omega
/-- what is gathered of a tape -/
def GA (N : Nat → Int32) (F t C : Nat) (g : Nat → Nat) (h : qH) : Prop := h.1 43 1 = nI C ∧ (∀ k, k < C → h.1 44 k = nI (g k) ∧ h.1 45 k = N (72 + g k) ∧ h.1 46 k = N (96 + g k) ∧ h.1 47 k = N (144 + g k) ∧ g k < F ∧ ia N t (g k) = true) ∧ (∀ k k', k < k' → k' < C → g k < g k') ∧ ∀ f, f < F → ia N t f = true → ∃ k, k < C ∧ g k = f
theorem GA.inj {N : Nat → Int32} {F t C : Nat} {g : Nat → Nat} {h : qH} (ga : GA N F t C g h) {k k' : Nat} (h1 : k < C) (h2 : k' < C) (e : g k = g k') : k = k' := by
  rcases Nat.lt_trichotomy k k' with h9 | h9 | h9
  · have := ga.2.2.1 k k' h9 h2; omega
  · exact h9
  · have := ga.2.2.1 k' k h9 h1; omega
theorem GA.cg {N : Nat → Int32} {F t C : Nat} {g : Nat → Nat} {h h' : qH} (ga : GA N F t C g h) (h1 : h'.1 43 = h.1 43) (h2 : h'.1 44 = h.1 44) (h3 : h'.1 45 = h.1 45) (h4 : h'.1 46 = h.1 46) (h5 : h'.1 47 = h.1 47) : GA N F t C g h' := by
  unfold GA
  rw [h1, h2, h3, h4, h5]
  exact ga
section PV
variable {T B F a : Nat} {r : Nat → Nat} {hx hm : qH}
theorem QQ.ak12 (q : QQ T r B F hx a hm) {t : Nat} (ht : t < T) : ak (hm.1 9) (nI t) F ≤ 12 := by
  have h1 := q.2.2.2.2.sum q.t31.1 F (Nat.le_refl _)
  have h2 := sm_ge (f := fun t => ak (hm.1 9) (nI t) F) ht
  have h3 : nask (hm.1 9) F ≤ 12 := q.2.2.2.2.2.2.2.2.2.2
  have h2 : ak (hm.1 9) (nI t) F ≤ sm (fun t => ak (hm.1 9) (nI t) F) T := h2
  omega
theorem q12 {k : Nat} (h : k < 12) : qin (nI k) 12 = true := qin_nI h (by omega)
theorem QQ.gather (q : QQ T r B F hx a hm) (ka : kStage a) {t : Nat} (ht : t < T) : ∃ g hx', f2_gather a (nI t) hx = some hx' ∧ GA (hm.1 9) F t (ak (hm.1 9) (nI t) F) g hx' ∧ hx'.1 43 2 = hx.1 (a + 2) t ∧ (∀ b, ¬ (43 ≤ b ∧ b ≤ 47) → hx'.1 b = hx.1 b) ∧ hx'.2 = hx.2 := by
  have hT := q.t31
  have hlo := ka.lo
  have h12 := q.ak12 ht
  have n7 : a + 7 ≠ 43 ∧ a + 7 ≠ 44 ∧ a + 7 ≠ 45 ∧ a + 7 ≠ 46 ∧ a + 7 ≠ 47 := by omega
  unfold f2_gather
  rw [qlt_e, q8 (show t < 8 by omega), qg_t, qlt_e, ix_nI (by omega)]
  have key := lpx0 (σ := qH) (fun m s x => f2_gather_L17 a (nI t) (fun _ h19 => some h19) m x s) (fun o => ∃ g hx', o = some hx' ∧ GA (hm.1 9) F t (ak (hm.1 9) (nI t) F) g hx' ∧ hx'.1 43 2 = hx.1 (a + 2) t ∧ (∀ b, ¬ (43 ≤ b ∧ b ≤ 47) → hx'.1 b = hx.1 b) ∧ hx'.2 = hx.2) (fun i s => ∃ g, GA (hm.1 9) i t (ak (hm.1 9) (nI t) i) g s ∧ s.1 43 2 = hx.1 (a + 2) t ∧ (∀ b, ¬ (43 ≤ b ∧ b ≤ 47) → s.1 b = hx.1 b) ∧ s.2 = hx.2) F (by omega) (qw (qw hx 43 1 0) 43 2 ((qw hx 43 1 0).1 (a + 2) t)) ⟨fun _ => 0, ⟨by
      show (qrow (qrow hx 43 _) 43 _).1 43 1 = nI 0
      rw [qrow_at, upd_ne (by omega), qrow_at, upd_at]; rfl, fun k hk => absurd hk (by show ¬ k < 0; omega), fun k k' _ hk => absurd hk (by show ¬ k' < 0; omega), fun f hf => by omega⟩, by
      show (qrow (qrow hx 43 _) 43 _).1 43 2 = _
      rw [qrow_at, upd_at, qrow_ne (by omega)], fun b hb => by rw [qrow_ne (by omega), qrow_ne (by omega)], rfl⟩ (fun i s hi hs => by
    obtain ⟨g, ga, s2, so, sl⟩ := hs
    have g1 := nI_ge hi (show F < 2 ^ 31 by omega)
    obtain ⟨e7, e8, e9, e10, e11⟩ := q.fl hi
    have s5 : s.1 a 5 = nI F := by rw [so a (by omega)]; exact q.Fx
    have s7 : s.1 (a + 7) = hx.1 (a + 7) := so _ (by omega)
    have s8 : s.1 (a + 8) = hx.1 (a + 8) := so _ (by omega)
    have s9 : s.1 (a + 9) = hx.1 (a + 9) := so _ (by omega)
    have s11 : s.1 (a + 11) = hx.1 (a + 11) := so _ (by omega)
    have s1 := ga.1
    generalize hc : ak (hm.1 9) (nI t) i = c at *
    by_cases hc12 : 12 ≤ c
    · left
      intro m
      have hcF : ak (hm.1 9) (nI t) F = c := by
        have := ak_mono (hm.1 9) (nI t) i (F - i)
        rw [show i + (F - i) = F by omega] at this
        omega
      refine ⟨g, s, ?_, ?_, s2, so, sl⟩
      · show f2_gather_L17 a (nI t) _ (m + 1) (nI i) s = _
        rw [f2_gather_L17, s5, if_neg g1, s1, if_pos (show (12 : Int32) ≤ nI c from nI_le (a := 12) hc12 (by omega))]
      · rw [hcF]
        refine ⟨ga.1, fun k hk => ?_, ga.2.2.1, fun f hf hia => ?_⟩
        · obtain ⟨k1, k2, k3, k4, k5, k6⟩ := ga.2.1 k hk
          exact ⟨k1, k2, k3, k4, by omega, k6⟩
        · by_cases hfi : f < i
          · exact ga.2.2.2 f hfi hia
          · have := ak_lt (N := hm.1 9) (t := t) (i := i) (f := f) (n := F) (by omega) hf hia
            omega
    · right
      have g2 : ¬ (12 : Int32) ≤ nI c := nI_ge (b := 12) (by omega) (by omega)
      by_cases hon : hm.1 9 (48 + i) = nI t
      · by_cases h0 : hm.1 9 (144 + i) = 0
        · have hno : ¬ ia (hm.1 9) t i = true := by rw [ia_iff]; exact fun h => h.2 h0
          refine ⟨s, ⟨g, ?_, s2, so, sl⟩, fun m => ?_⟩
          · rw [ak_no hno, hc]
            refine ⟨ga.1, fun k hk => ?_, ga.2.2.1, fun f hf hia => ?_⟩
            · obtain ⟨k1, k2, k3, k4, k5, k6⟩ := ga.2.1 k hk
              exact ⟨k1, k2, k3, k4, by omega, k6⟩
            · have : f ≠ i := fun e => hno (e ▸ hia)
              exact ga.2.2.2 f (by omega) hia
          · show f2_gather_L17 a (nI t) _ (m + 1) (nI i) s = f2_gather_L17 a (nI t) _ m (nI (i + 1)) s
            simp only [f2_gather_L17, s5, g1, if_false, s1, g2, q24 (show i < 24 by omega), ix_nI (show i < 2 ^ 31 by omega), qg_t, qj_e, qlt_e, s7, s11, e7, e11, hon, h0, if_true, nI_1]
        · have hyes : ia (hm.1 9) t i = true := ia_iff.mpr ⟨hon, h0⟩
          refine ⟨qrow (qrow (qrow (qrow (qrow s 44 (upd (s.1 44) c (nI i))) 45 (upd (s.1 45) c (hm.1 9 (72 + i)))) 46 (upd (s.1 46) c (hm.1 9 (96 + i)))) 47 (upd (s.1 47) c (hm.1 9 (144 + i)))) 43 (upd (s.1 43) 1 (nI (c + 1))), ⟨fun k => if k = c then i else g k, ?_, ?_, ?_, sl⟩, fun m => ?_⟩
          · rw [ak_ia hyes, hc]
            have x43 : (qrow (qrow (qrow (qrow (qrow s 44 (upd (s.1 44) c (nI i))) 45 (upd (s.1 45) c (hm.1 9 (72 + i)))) 46 (upd (s.1 46) c (hm.1 9 (96 + i)))) 47 (upd (s.1 47) c (hm.1 9 (144 + i)))) 43 (upd (s.1 43) 1 (nI (c + 1)))).1 43 = upd (s.1 43) 1 (nI (c + 1)) := qrow_at _ _ _
            have x44 : (qrow (qrow (qrow (qrow (qrow s 44 (upd (s.1 44) c (nI i))) 45 (upd (s.1 45) c (hm.1 9 (72 + i)))) 46 (upd (s.1 46) c (hm.1 9 (96 + i)))) 47 (upd (s.1 47) c (hm.1 9 (144 + i)))) 43 (upd (s.1 43) 1 (nI (c + 1)))).1 44 = upd (s.1 44) c (nI i) := by
              rw [qrow_ne (by omega), qrow_ne (by omega), qrow_ne (by omega), qrow_ne (by omega), qrow_at]
            have x45 : (qrow (qrow (qrow (qrow (qrow s 44 (upd (s.1 44) c (nI i))) 45 (upd (s.1 45) c (hm.1 9 (72 + i)))) 46 (upd (s.1 46) c (hm.1 9 (96 + i)))) 47 (upd (s.1 47) c (hm.1 9 (144 + i)))) 43 (upd (s.1 43) 1 (nI (c + 1)))).1 45 = upd (s.1 45) c (hm.1 9 (72 + i)) := by
              rw [qrow_ne (by omega), qrow_ne (by omega), qrow_ne (by omega), qrow_at]
            have x46 : (qrow (qrow (qrow (qrow (qrow s 44 (upd (s.1 44) c (nI i))) 45 (upd (s.1 45) c (hm.1 9 (72 + i)))) 46 (upd (s.1 46) c (hm.1 9 (96 + i)))) 47 (upd (s.1 47) c (hm.1 9 (144 + i)))) 43 (upd (s.1 43) 1 (nI (c + 1)))).1 46 = upd (s.1 46) c (hm.1 9 (96 + i)) := by
              rw [qrow_ne (by omega), qrow_ne (by omega), qrow_at]
            have x47 : (qrow (qrow (qrow (qrow (qrow s 44 (upd (s.1 44) c (nI i))) 45 (upd (s.1 45) c (hm.1 9 (72 + i)))) 46 (upd (s.1 46) c (hm.1 9 (96 + i)))) 47 (upd (s.1 47) c (hm.1 9 (144 + i)))) 43 (upd (s.1 43) 1 (nI (c + 1)))).1 47 = upd (s.1 47) c (hm.1 9 (144 + i)) := by
              rw [qrow_ne (by omega), qrow_at]
            unfold GA
            rw [x43, x44, x45, x46, x47]
            refine ⟨upd_at _ _ _, fun k hk => ?_, fun k k' hkk hk' => ?_, fun f hf hia => ?_⟩
            · show upd (s.1 44) c (nI i) k = nI (if k = c then i else g k) ∧ upd (s.1 45) c (hm.1 9 (72 + i)) k = hm.1 9 (72 + if k = c then i else g k) ∧ upd (s.1 46) c (hm.1 9 (96 + i)) k = hm.1 9 (96 + if k = c then i else g k) ∧ upd (s.1 47) c (hm.1 9 (144 + i)) k = hm.1 9 (144 + if k = c then i else g k) ∧ (if k = c then i else g k) < i + 1 ∧ ia (hm.1 9) t (if k = c then i else g k) = true
              by_cases e : k = c
              · subst e
                rw [if_pos rfl, upd_at, upd_at, upd_at, upd_at]
                exact ⟨rfl, rfl, rfl, rfl, by omega, hyes⟩
              · rw [if_neg e, upd_ne e, upd_ne e, upd_ne e, upd_ne e]
                obtain ⟨k1, k2, k3, k4, k5, k6⟩ := ga.2.1 k (by omega)
                exact ⟨k1, k2, k3, k4, by omega, k6⟩
            · show (if k = c then i else g k) < if k' = c then i else g k'
              rw [if_neg (show ¬ k = c by omega)]
              by_cases e : k' = c
              · rw [if_pos e]
                exact (ga.2.1 k (by omega)).2.2.2.2.1
              · rw [if_neg e]
                exact ga.2.2.1 k k' hkk (by omega)
            · by_cases e : f = i
              · exact ⟨c, by omega, by show (if c = c then i else g c) = f; rw [if_pos rfl, e]⟩
              · obtain ⟨k, hk, ek⟩ := ga.2.2.2 f (by omega) hia
                exact ⟨k, by omega, by show (if k = c then i else g k) = f; rw [if_neg (by omega)]; exact ek⟩
          · rw [qrow_at, upd_ne (by omega)]
            exact s2
          · intro b hb
            rw [qrow_ne (by omega), qrow_ne (by omega), qrow_ne (by omega), qrow_ne (by omega), qrow_ne (by omega)]
            exact so b hb
          · show f2_gather_L17 a (nI t) _ (m + 1) (nI i) s = f2_gather_L17 a (nI t) _ m (nI (i + 1)) _
            have o8 : ∀ j, j ≤ 4 → a + 8 ≠ 43 + j := fun j _ => by omega
            simp only [f2_gather_L17, s5, g1, if_false, s1, g2, q24 (show i < 24 by omega), ix_nI (show i < 2 ^ 31 by omega), q12 (show c < 12 by omega), ix_nI (show c < 2 ^ 31 by omega), qg_t, qj_e, qlt_e, qw, s7, s11, e7, e11, hon, h0, if_true, qrow_at, qrow_ne (show (43 : Nat) ≠ 44 by omega), qrow_ne (show (43 : Nat) ≠ 45 by omega), qrow_ne (show (43 : Nat) ≠ 46 by omega), qrow_ne (show (43 : Nat) ≠ 47 by omega), qrow_ne (show (45 : Nat) ≠ 44 by omega), qrow_ne (show (46 : Nat) ≠ 44 by omega), qrow_ne (show (46 : Nat) ≠ 45 by omega), qrow_ne (show (47 : Nat) ≠ 44 by omega), qrow_ne (show (47 : Nat) ≠ 45 by omega), qrow_ne (show (47 : Nat) ≠ 46 by omega), qrow_ne (show a + 8 ≠ 44 by omega), qrow_ne (show a + 9 ≠ 44 by omega), qrow_ne (show a + 9 ≠ 45 by omega), qrow_ne (show a + 11 ≠ 44 by omega), qrow_ne (show a + 11 ≠ 45 by omega), qrow_ne (show a + 11 ≠ 46 by omega), s8, s9, e8, e9, nI_1]
      · have hno : ¬ ia (hm.1 9) t i = true := by rw [ia_iff]; exact fun h => hon h.1
        refine ⟨s, ⟨g, ?_, s2, so, sl⟩, fun m => ?_⟩
        · rw [ak_no hno, hc]
          refine ⟨ga.1, fun k hk => ?_, ga.2.2.1, fun f hf hia => ?_⟩
          · obtain ⟨k1, k2, k3, k4, k5, k6⟩ := ga.2.1 k hk
            exact ⟨k1, k2, k3, k4, by omega, k6⟩
          · have : f ≠ i := fun e => hno (e ▸ hia)
            exact ga.2.2.2 f (by omega) hia
        · show f2_gather_L17 a (nI t) _ (m + 1) (nI i) s = f2_gather_L17 a (nI t) _ m (nI (i + 1)) s
          simp only [f2_gather_L17, s5, g1, if_false, s1, g2, q24 (show i < 24 by omega), ix_nI (show i < 2 ^ 31 by omega), qg_t, qj_e, qlt_e, s7, e7, hon, nI_1]) (fun m s hs => by
    obtain ⟨g, ga, s2, so, sl⟩ := hs
    have s5 : s.1 a 5 = nI F := by rw [so a (by omega)]; exact q.Fx
    refine ⟨g, s, ?_, ga, s2, so, sl⟩
    show f2_gather_L17 a (nI t) _ (m + 1) (nI F) s = _
    rw [f2_gather_L17, s5, if_pos (nI_le (Nat.le_refl _) (by omega))])
  exact key
end PV
