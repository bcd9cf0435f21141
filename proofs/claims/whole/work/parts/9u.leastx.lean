section PS1
variable {C : Nat} {m : Nat → Nat} {A : Nat → Bool} {h h0 : qH}
theorem mskx {S i : Nat} (hi : i < 32) : nI S ^^^ ((1 : Int32) <<< (nI i &&& 31)) = nI (S ^^^ 2 ^ i) := by
  apply b_ext
  intro j hj
  rw [b_xor, b_nI S hj, b_sh1 hi hj, b_nI _ hj, tb_x]
  by_cases e : j = i
  · subst e
    rw [decide_eq_true rfl]
  · rw [decide_eq_false e, decide_eq_false (fun z => e z.symm)]
theorem ixSC {S S' i k : Nat} (hk : k < C) (h : S' < S) : S' * C + k < S * C + i := by
  have : (S' + 1) * C ≤ S * C := Nat.mul_le_mul_right C h
  rw [Nat.succ_mul] at this
  omega
/-- the class's inmost loop: the least way behind a set -/
theorem lb6 {V cw : Nat → Nat} {S i LEN : Nat} (h43 : h.1 43 1 = nI C) (hC : C ≤ 12) (hS : S < 4096) (hi : i < C) (hV : ∀ k, k < C → S.testBit k = true → h.1 50 (S * C + k) = nI (V k) ∧ V k < 100000) (hW : ∀ k, k < C → h.1 49 (k * C + i) = nI (cw k) ∧ cw k < 1000) (hl : h.1 100 0 = nI LEN) (hl2 : S * C + C ≤ LEN) (hl3 : LEN < 2 ^ 31) (kk : Int32 → Int32 → Option Int32) : ∀ (d k mm : Nat), k + d = C → d < mm → f2_leastBehind_L6 (nI S) (nI i) h kk mm (sv 1000000 (mo k (fun k => S.testBit k) (fun k => V k + cw k))) (nI k) = kk (sv 1000000 (mo C (fun k => S.testBit k) (fun k => V k + cw k))) (nI C) := by
  intro d
  induction d with
  | zero =>
    intro k mm hd hm
    obtain ⟨mm, rfl⟩ : ∃ j, mm = j + 1 := ⟨mm - 1, by omega⟩
    have e : k = C := by omega
    subst e
    rw [f2_leastBehind_L6, h43, if_pos (nI_le (Nat.le_refl _) (by omega))]
  | succ d ih =>
    intro k mm hd hm
    obtain ⟨mm, rfl⟩ : ∃ j, mm = j + 1 := ⟨mm - 1, by omega⟩
    have ihk := ih (k + 1) mm (by omega) (by omega)
    have mk : mo (k + 1) (fun k => S.testBit k) (fun k => V k + cw k) = if S.testBit k = true then some (match mo k (fun k => S.testBit k) (fun k => V k + cw k) with
      | none => V k + cw k
      | some m' => min m' (V k + cw k)) else mo k (fun k => S.testBit k) (fun k => V k + cw k) := rfl
    have kC : k * C + i < 144 := by
      have : k * C ≤ 11 * C := Nat.mul_le_mul_right C (by omega)
      omega
    rw [f2_leastBehind_L6, h43, if_neg (nI_ge (by omega) (by omega)), qj_e]
    by_cases c : S.testBit k = true
    · obtain ⟨v1, v2⟩ := hV k (by omega) c
      obtain ⟨w1, w2⟩ := hW k (by omega)
      rw [if_pos ((b_has (by omega)).mpr (by rw [b_nI S (by omega)]; exact c)), nI_mul, nI_add, nI_mul, nI_add, hl, ix_nI (show LEN < 2 ^ 31 by omega), qin_nI (show S * C + k < LEN by omega) hl3, qg_t, qin_nI kC (by omega), qg_t, ix_nI (show S * C + k < 2 ^ 31 by omega), ix_nI (show k * C + i < 2 ^ 31 by omega), v1, w1, nI_add]
      simp only [qlt_e]
      rw [nI_1]
      rw [mk, if_pos c] at ihk
      refine Eq.trans ?_ ihk
      congr 1
      cases a : mo k (fun k => S.testBit k) (fun k => V k + cw k) with
      | none =>
        show (if nI (V k + cw k) < 1000000 then nI (V k + cw k) else 1000000) = nI (V k + cw k)
        rw [if_pos (show nI (V k + cw k) < (1000000 : Int32) from nI_lt (b := 1000000) (by omega) (by omega))]
      | some m' =>
        obtain ⟨⟨g, g1, g2, g3⟩, -⟩ := mo_s a
        have vg := (hV g (by omega) g2).2
        have cg := (hW g (by omega)).2
        show (if nI (V k + cw k) < nI m' then nI (V k + cw k) else nI m') = nI (min m' (V k + cw k))
        by_cases l : V k + cw k < m'
        · rw [if_pos (nI_lt l (by omega)), Nat.min_eq_right (by omega)]
        · rw [if_neg (nI_nlt (by omega) (by omega)), Nat.min_eq_left (by omega)]
    · rw [if_neg (fun z => c (by rw [← b_nI S (show k < 32 by omega)]; exact (b_has (by omega)).mp z))]
      simp only [qlt_e]
      rw [nI_1]
      rw [mk, if_neg c] at ihk
      exact ihk
/-- what the class's loops read -/
def LX (C : Nat) (m : Nat → Nat) (c0 : Nat → Nat) (c1 : Nat → Nat → Nat) (LEN : Nat) (h0 : qH) : Prop := h0.1 43 1 = nI C ∧ C ≤ 12 ∧ (∀ tb i, i < C → f4_seekTime 6 ((qrow h0 50 tb).1 43 2) ((qrow h0 50 tb).1 45 i) (qrow h0 50 tb) = some (nI (c0 (m i)))) ∧ (∀ f, c0 f < 1000) ∧ (∀ e f, c1 e f < 1000) ∧ (∀ i j, i < C → j < C → h0.1 49 (i * C + j) = nI (c1 (m i) (m j))) ∧ h0.1 100 0 = nI LEN ∧ 2 ^ C * C ≤ LEN ∧ LEN < 2 ^ 31
def TC (C : Nat) (T : Nat → Nat → Nat) (n : Nat) (tb : Nat → Int32) : Prop := ∀ S i, S < n → i < C → S.testBit i = true → tb (S * C + i) = nI (T S i)
/-- the class fills one set's line -/
theorem fill {c0 : Nat → Nat} {c1 : Nat → Nat → Nat} {LEN : Nat} (lx : LX C m c0 c1 LEN h0) (e : EN C m A) {S : Nat} (hS : S < 2 ^ C) : ∀ (d i : Nat) (tb : Nat → Int32), i + d = C → TC C (tv c0 c1 C m) S tb → (∀ k, k < i → S.testBit k = true → tb (S * C + k) = nI (tv c0 c1 C m S k)) → ∃ tb', TC C (tv c0 c1 C m) (S + 1) tb' ∧ ∀ kk mm, d < mm → f2_fillTable_L2 (nI S) kk mm (nI i) (qrow h0 50 tb) = kk (nI C) (qrow h0 50 tb') := by
  obtain ⟨l43, hC, lk, lc0, lc1, lw, ll, ll2, ll3⟩ := lx
  have h4 := pw_le hC
  have q43 : ∀ tb, (qrow h0 50 tb).1 43 1 = nI C := fun tb => by rw [qrow_ne (by omega)]; exact l43
  have q100 : ∀ tb, (qrow h0 50 tb).1 100 0 = nI LEN := fun tb => by rw [qrow_ne (by omega)]; exact ll
  have tvb : ∀ S k, tv c0 c1 C m S k < 100000 := fun S k => by
    have := VV_le (c0 := c0) (c1 := c1) (b := 999) (fun f => by have := lc0 f; omega) (fun g f => by have := lc1 g f; omega) 24 (fs m S C) (m k)
    show VV _ _ 24 (fs m S C) (m k) < 100000
    omega
  intro d
  induction d with
  | zero =>
    intro i tb hd tB hi
    have ei : i = C := by omega
    subst ei
    refine ⟨tb, fun S' k h1 h2 h3 => ?_, fun kk mm hm => ?_⟩
    · by_cases c : S' = S
      · subst c; exact hi k h2 h3
      · exact tB S' k (by omega) h2 h3
    · obtain ⟨mm, rfl⟩ : ∃ j, mm = j + 1 := ⟨mm - 1, by omega⟩
      rw [f2_fillTable_L2, q43, if_pos (nI_le (Nat.le_refl _) (by omega))]
  | succ d ih =>
    intro i tb hd tB hi
    by_cases c : S.testBit i = true
    · have xl := x_lt c
      have lenS : S * C + C ≤ LEN := by
        have : (S + 1) * C ≤ 2 ^ C * C := Nat.mul_le_mul_right C hS
        rw [Nat.succ_mul] at this
        omega
      have lenS' : (S ^^^ 2 ^ i) * C + C ≤ LEN := by
        have : (S ^^^ 2 ^ i) * C ≤ S * C := Nat.mul_le_mul_right C (by omega)
        omega
      let tb1 : Nat → Int32 := upd tb (S * C + i) (nI (tv c0 c1 C m S i))
      obtain ⟨tb', t1, t2⟩ := ih (i + 1) tb1 (by omega) (fun S' k h1 h2 h3 => by
        have := ixSC (i := i) h2 h1
        show upd tb (S * C + i) _ (S' * C + k) = _
        rw [upd_ne (by omega)]
        exact tB S' k h1 h2 h3) (fun k hk hb => by
        show upd tb (S * C + i) _ (S * C + k) = _
        by_cases ek : k = i
        · subst ek
          rw [upd_at]
        · rw [upd_ne (by omega)]
          exact hi k (by omega) hb)
      refine ⟨tb', t1, fun kk mm hm => ?_⟩
      obtain ⟨mm, rfl⟩ : ∃ j, mm = j + 1 := ⟨mm - 1, by omega⟩
      have t2' := t2 kk mm (by omega)
      have est := e.step (c0 := c0) (c1 := c1) (S := S) (i := i) (by omega) c
      have eh : qw (qrow h0 50 tb) 50 (S * C + i) (nI (tv c0 c1 C m S i)) = qrow h0 50 tb1 := by
        show qrow (qrow h0 50 tb) 50 (upd ((qrow h0 50 tb).1 50) (S * C + i) _) = _
        rw [qrow_at, qrow_qrow]
      rw [f2_fillTable_L2, q43, if_neg (nI_ge (by omega) (by omega)), qj_e, if_pos ((b_has (by omega)).mpr (by rw [b_nI S (by omega)]; exact c)), qlt_e, mskx (by omega), qj_e, nI_mul, nI_add, q100, ix_nI (show LEN < 2 ^ 31 by omega), qin_nI (show S * C + i < LEN by omega) ll3, ix_nI (show S * C + i < 2 ^ 31 by omega)]
      simp only [qlt_e, qg_t]
      by_cases z0 : S ^^^ 2 ^ i = 0
      · have v0 : tv c0 c1 C m S i = c0 (m i) := by
          rw [est, mo_n (fun g _ => by rw [z0]; exact Nat.zero_testBit g)]
          rfl
        rw [if_pos (show nI (S ^^^ 2 ^ i) = 0 by rw [z0]; rfl), qin_nI (show i < 12 by omega) (by omega), qg_t, ix_nI (show i < 2 ^ 31 by omega), lk tb i (by omega), bind_s, ← v0, eh, nI_1]
        exact t2'
      · have lb : f2_leastBehind (nI (S ^^^ 2 ^ i)) (nI i) (qrow h0 50 tb) = some (nI (tv c0 c1 C m S i)) := by
          unfold f2_leastBehind
          have z := lb6 (h := qrow h0 50 tb) (V := tv c0 c1 C m (S ^^^ 2 ^ i)) (cw := fun k => c1 (m k) (m i)) (S := S ^^^ 2 ^ i) (i := i) (q43 tb) hC (by omega) (by omega) (fun k hk hb => ⟨by rw [qrow_at]; exact tB _ k xl hk hb, tvb _ k⟩) (fun k hk => ⟨by rw [qrow_ne (by omega)]; exact lw k i hk (by omega), lc1 _ _⟩) (q100 tb) lenS' ll3 (fun x10 _ => some x10) C 0 qN (by omega) (qN_lt (by omega))
          have z : f2_leastBehind_L6 (nI (S ^^^ 2 ^ i)) (nI i) (qrow h0 50 tb) (fun x10 _ => some x10) qN 1000000 0 = some (sv 1000000 (mo C (fun k => (S ^^^ 2 ^ i).testBit k) (fun k => tv c0 c1 C m (S ^^^ 2 ^ i) k + c1 (m k) (m i)))) := z
          rw [z, est]
          congr 1
          cases a : mo C (fun k => (S ^^^ 2 ^ i).testBit k) (fun k => tv c0 c1 C m (S ^^^ 2 ^ i) k + c1 (m k) (m i)) with
          | none => exact absurd (S_0 (Nat.lt_trans xl hS) (mo_z a)) z0
          | some v => rfl
        rw [if_neg (show ¬ nI (S ^^^ 2 ^ i) = 0 from fun z => z0 (nI_inj (b := 0) (by omega) (by omega) z)), lb, bind_s, eh, nI_1]
        exact t2'
    · obtain ⟨tb', t1, t2⟩ := ih (i + 1) tb (by omega) tB (fun k hk hb => by
        by_cases ek : k = i
        · subst ek; exact absurd hb c
        · exact hi k (by omega) hb)
      refine ⟨tb', t1, fun kk mm hm => ?_⟩
      obtain ⟨mm, rfl⟩ : ∃ j, mm = j + 1 := ⟨mm - 1, by omega⟩
      have t2' := t2 kk mm (by omega)
      rw [f2_fillTable_L2, q43, if_neg (nI_ge (by omega) (by omega)), qj_e, if_neg (fun z => c (by rw [← b_nI S (show i < 32 by omega)]; exact (b_has (by omega)).mp z))]
      simp only [qlt_e]
      rw [nI_1]
      exact t2'
theorem fillTable_eq {c0 : Nat → Nat} {c1 : Nat → Nat → Nat} {LEN : Nat} (lx : LX C m c0 c1 LEN h0) (e : EN C m A) {S : Nat} (hS : S < 2 ^ C) (tb : Nat → Int32) (tB : TC C (tv c0 c1 C m) S tb) : ∃ tb', TC C (tv c0 c1 C m) (S + 1) tb' ∧ f2_fillTable (nI S) (qrow h0 50 tb) = some (qrow h0 50 tb') := by
  obtain ⟨tb', t1, t2⟩ := fill lx e hS C 0 tb (by omega) tB (fun k hk => absurd hk (by omega))
  exact ⟨tb', t1, t2 (fun _ h18 => some h18) qN (qN_lt (by have := lx.2.1; omega))⟩
end PS1
