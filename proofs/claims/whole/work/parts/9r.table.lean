section PR1
variable {C : Nat} {m : Nat → Nat} {h : qH}
def sv (s : Int32) : Option Nat → Int32
  | none => s
  | some v => nI v
theorem ra_12 (k : Nat) : (12 : Int32) * nI k = nI (12 * k) := nI_mul 12 k
/-- the reference's inmost loop: the least way behind a set -/
theorem l87 {cz : Nat → Nat → Nat} {en V : Nat → Nat} {S i : Nat} {p1 x8 x5 s0 : Int32} (h20 : h.1 0 20 = nI C) (hC : C ≤ 12) (h11 : ∀ j, j < C → h.1 11 j = nI (m j)) (hk : ∀ z j, z < 1000 → j < C → f9_seekTo (nI z) (nI (m j)) h = some (nI (cz z (m j)))) (hcz : ∀ z f, cz z f < 1000) (hl : ∀ j, j < C → f9_lastBlock (nI (m j)) h = some (nI (en (m j))) ∧ en (m j) < 1000) (hS : S < 4096) (hi : i < C) (hV : ∀ k, k < C → S.testBit k = true → h.1 15 (12 * S + k) = nI (V k) ∧ V k < 100000) (hs : s0 = -1 ∨ ∀ k, k < C → S.testBit k = false) (kk : Int32 → Int32 → Option (Int32 × qH)) : ∀ (d k mm : Nat), k + d = C → d < mm → f9_leastOf_L87 p1 x8 x5 (nI i) (nI S) h kk mm (sv s0 (mo k (fun k => S.testBit k) (fun k => V k + cz (en (m k)) (m i)))) (nI k) = kk (sv s0 (mo C (fun k => S.testBit k) (fun k => V k + cz (en (m k)) (m i)))) (nI C) := by
  intro d
  induction d with
  | zero =>
    intro k mm hd hm
    obtain ⟨mm, rfl⟩ : ∃ j, mm = j + 1 := ⟨mm - 1, by omega⟩
    have e : k = C := by omega
    subst e
    rw [f9_leastOf_L87, h20, if_pos (nI_le (Nat.le_refl _) (by omega))]
  | succ d ih =>
    intro k mm hd hm
    obtain ⟨mm, rfl⟩ : ∃ j, mm = j + 1 := ⟨mm - 1, by omega⟩
    have ihk := ih (k + 1) mm (by omega) (by omega)
    rw [f9_leastOf_L87, h20, if_neg (nI_ge (by omega) (by omega)), f9_has_bt (by omega), bind_s, b_nI S (show k < 32 by omega), qj_e]
    have mk : mo (k + 1) (fun k => S.testBit k) (fun k => V k + cz (en (m k)) (m i)) = if S.testBit k = true then some (match mo k (fun k => S.testBit k) (fun k => V k + cz (en (m k)) (m i)) with
      | none => V k + cz (en (m k)) (m i)
      | some m' => min m' (V k + cz (en (m k)) (m i))) else mo k (fun k => S.testBit k) (fun k => V k + cz (en (m k)) (m i)) := rfl
    by_cases c : S.testBit k = true
    · have s1 : s0 = -1 := by
        rcases hs with hs | hs
        · exact hs
        · rw [hs k (by omega)] at c
          exact absurd c (by decide)
      obtain ⟨v1, v2⟩ := hV k (by omega) c
      obtain ⟨l1, l2⟩ := hl k (by omega)
      have cb := hcz (en (m k)) (m i)
      rw [if_pos c, if_neg q1f, ra_12, nI_add, qin_nI (show 12 * S + k < 49152 by omega) (by omega), qg_t, qin_nI (show k < 24 by omega) (by omega), qg_t, ix_nI (show k < 2 ^ 31 by omega), h11 k (by omega), l1, bind_s, qin_nI (show i < 24 by omega) (by omega), qg_t, ix_nI (show i < 2 ^ 31 by omega), h11 i hi, hk (en (m k)) i l2 hi, bind_s, ix_nI (show 12 * S + k < 2 ^ 31 by omega), v1, nI_add]
      simp only [qlt_e]
      rw [if_neg (nI_m1 (show V k + cz (en (m k)) (m i) < 2 ^ 31 by omega)), nI_1]
      rw [mk, if_pos c] at ihk
      refine Eq.trans ?_ ihk
      congr 1
      cases a : mo k (fun k => S.testBit k) (fun k => V k + cz (en (m k)) (m i)) with
      | none =>
        show (if s0 = -1 then _ else _) = nI (V k + cz (en (m k)) (m i))
        rw [if_pos s1]
      | some m' =>
        obtain ⟨⟨g, g1, g2, g3⟩, -⟩ := mo_s a
        have vg := (hV g (by omega) g2).2
        have cg := hcz (en (m g)) (m i)
        show (if nI m' = -1 then _ else if nI m' ≤ nI (V k + cz (en (m k)) (m i)) then nI m' else nI (V k + cz (en (m k)) (m i))) = nI (min m' (V k + cz (en (m k)) (m i)))
        rw [if_neg (nI_m1 (by omega))]
        by_cases l : m' ≤ V k + cz (en (m k)) (m i)
        · rw [if_pos (nI_le l (by omega)), Nat.min_eq_left l]
        · rw [if_neg (nI_ge (by omega) (by omega)), Nat.min_eq_right (by omega)]
    · rw [if_neg c, if_pos rfl]
      simp only [qlt_e, if_true]
      rw [nI_1]
      rw [mk, if_neg c] at ihk
      exact ihk
end PR1
