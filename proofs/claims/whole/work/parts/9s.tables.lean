theorem pw2 : ∀ C, C < 13 → (1 : Int32) <<< (nI C &&& 31) = nI (2 ^ C) ∧ (1 : Int32) <<< (nI C &&& 31) - 1 = nI (2 ^ C - 1) := by decide +kernel
theorem pw_le {C : Nat} (hC : C ≤ 12) : 2 ^ C ≤ 4096 := Nat.pow_le_pow_right (n := 2) (by omega) hC
theorem msk {S i : Nat} (hi : i < 32) (h : S.testBit i = true) : nI S &&& (((1 : Int32) <<< (nI i &&& 31)) ^^^ -1) = nI (S ^^^ 2 ^ i) := by
  apply b_ext
  intro j hj
  rw [b_and, b_xor, b_nI S hj, b_sh1 hi hj, b_m1 j hj, b_nI _ hj, tb_x]
  by_cases e : j = i
  · subst e
    rw [h, decide_eq_true rfl]
    rfl
  · rw [decide_eq_false e, decide_eq_false (fun z => e z.symm)]
    cases S.testBit j <;> rfl
theorem S_0 {C S : Nat} (hS : S < 2 ^ C) (h : ∀ k, k < C → S.testBit k = false) : S = 0 := by
  refine Nat.eq_of_testBit_eq (fun i => ?_)
  rw [Nat.zero_testBit]
  by_cases c : i < C
  · exact h i c
  · exact Nat.testBit_lt_two_pow (Nat.lt_of_lt_of_le hS (Nat.pow_le_pow_right (by omega) (by omega)))
section PR2
variable {C : Nat} {m : Nat → Nat} {A : Nat → Bool} {h0 : qH} {cz : Nat → Nat → Nat} {en : Nat → Nat} {p0 : Nat} {p1 : Int32}
/-- what the reference's loops read -/
def LR (C : Nat) (m : Nat → Nat) (cz : Nat → Nat → Nat) (en : Nat → Nat) (p0 : Nat) (p1 : Int32) (h0 : qH) : Prop := h0.1 0 20 = nI C ∧ C ≤ 12 ∧ (∀ j, j < C → h0.1 11 j = nI (m j)) ∧ (∀ tb z j, z < 1000 → j < C → f9_seekTo (nI z) (nI (m j)) (qrow h0 15 tb) = some (nI (cz z (m j)))) ∧ (∀ z f, cz z f < 1000) ∧ (∀ tb j, j < C → f9_lastBlock (nI (m j)) (qrow h0 15 tb) = some (nI (en (m j))) ∧ en (m j) < 1000) ∧ (∀ tb, f9_headOf p1 (qrow h0 15 tb) = some (nI p0)) ∧ p0 < 1000
def TB (C : Nat) (T : Nat → Nat → Nat) (n : Nat) (tb : Nat → Int32) : Prop := ∀ S i, S < n → i < C → S.testBit i = true → tb (12 * S + i) = nI (T S i)
theorem l29 (lr : LR C m cz en p0 p1 h0) (e : EN C m A) {S : Nat} (hS : S < 2 ^ C) : ∀ (d i : Nat) (tb : Nat → Int32), i + d = C → TB C (tv (cz p0) (fun e f => cz (en e) f) C m) S tb → (∀ k, k < i → S.testBit k = true → tb (12 * S + k) = nI (tv (cz p0) (fun e f => cz (en e) f) C m S k)) → ∃ tb', TB C (tv (cz p0) (fun e f => cz (en e) f) C m) (S + 1) tb' ∧ ∀ kk mm, d < mm → f9_leastOf_L29 p1 (nI S) kk mm (sv (-1) (if S = 2 ^ C - 1 then mo i (fun _ => true) (tv (cz p0) (fun e f => cz (en e) f) C m S) else none)) (nI i) (qrow h0 15 tb) = kk (sv (-1) (if S = 2 ^ C - 1 then mo C (fun _ => true) (tv (cz p0) (fun e f => cz (en e) f) C m S) else none)) (nI C) (qrow h0 15 tb') := by
  obtain ⟨l20, hC, l11, lk, lcz, ll, lh, lp⟩ := lr
  have h4 := pw_le hC
  have q20 : ∀ tb, (qrow h0 15 tb).1 0 20 = nI C := fun tb => by rw [qrow_ne (by omega)]; exact l20
  have q11 : ∀ tb j, j < C → (qrow h0 15 tb).1 11 j = nI (m j) := fun tb j hj => by rw [qrow_ne (by omega)]; exact l11 j hj
  have tvb : ∀ S k, tv (cz p0) (fun e f => cz (en e) f) C m S k < 100000 := fun S k => by
    have := VV_le (c0 := cz p0) (c1 := fun e f => cz (en e) f) (b := 999) (fun f => by have := lcz p0 f; omega) (fun g f => by have := lcz (en g) f; show cz (en g) f ≤ 999; omega) 24 (fs m S C) (m k)
    show VV _ _ 24 (fs m S C) (m k) < 100000
    omega
  intro d
  induction d with
  | zero =>
    intro i tb hd tB hi
    have ei : i = C := by omega
    subst ei
    refine ⟨tb, fun S' k h1 h2 h3 => ?_, fun kk mm hm => ?_⟩
    · by_cases c : S' = S
      · subst c; exact hi k h2 h3
      · exact tB S' k (by omega) h2 h3
    · obtain ⟨mm, rfl⟩ : ∃ j, mm = j + 1 := ⟨mm - 1, by omega⟩
      rw [f9_leastOf_L29, q20, if_pos (nI_le (Nat.le_refl _) (by omega))]
  | succ d ih =>
    intro i tb hd tB hi
    by_cases c : S.testBit i = true
    · have xl := x_lt c
      let tb1 : Nat → Int32 := upd tb (12 * S + i) (nI (tv (cz p0) (fun e f => cz (en e) f) C m S i))
      obtain ⟨tb', t1, t2⟩ := ih (i + 1) tb1 (by omega) (fun S' k h1 h2 h3 => by
        show upd tb (12 * S + i) _ (12 * S' + k) = _
        rw [upd_ne (by omega)]
        exact tB S' k h1 h2 h3) (fun k hk hb => by
        show upd tb (12 * S + i) _ (12 * S + k) = _
        by_cases ek : k = i
        · subst ek
          rw [upd_at]
        · rw [upd_ne (by omega)]
          exact hi k (by omega) hb)
      refine ⟨tb', t1, fun kk mm hm => ?_⟩
      obtain ⟨mm, rfl⟩ : ∃ j, mm = j + 1 := ⟨mm - 1, by omega⟩
      have t2' := t2 kk mm (by omega)
      rw [f9_leastOf_L29, q20, if_neg (nI_ge (by omega) (by omega)), f9_has_bt (by omega), bind_s, b_nI S (show i < 32 by omega), if_pos c, qj_e, if_neg q1f, qlt_e, msk (by omega) c, qj_e]
      have est := e.step (c0 := cz p0) (c1 := fun e f => cz (en e) f) (S := S) (i := i) (by omega) c
      -- the value of this place
      have key : ∀ s0 : Int32, (s0 = -1 ∧ ¬ S ^^^ 2 ^ i = 0 ∨ s0 = nI (cz p0 (m i)) ∧ S ^^^ 2 ^ i = 0) → ∀ (x8 : Int32) (k2 : Int32 → Int32 → Option (Int32 × qH)), f9_leastOf_L87 p1 x8 (nI S) (nI i) (nI (S ^^^ 2 ^ i)) (qrow h0 15 tb) k2 qN s0 0 = k2 (nI (tv (cz p0) (fun e f => cz (en e) f) C m S i)) (nI C) := by
        intro s0 hs x8 k2
        have zb : ∀ k, (0 : Nat).testBit k = false := fun k => Nat.zero_testBit k
        have z := l87 (h := qrow h0 15 tb) (m := m) (cz := cz) (en := en) (V := tv (cz p0) (fun e f => cz (en e) f) C m (S ^^^ 2 ^ i)) (S := S ^^^ 2 ^ i) (i := i) (p1 := p1) (x8 := x8) (x5 := nI S) (s0 := s0) (q20 tb) hC (q11 tb) (lk tb) lcz (ll tb) (by omega) (by omega) (fun k hk hb => ⟨by rw [qrow_at]; exact tB _ k xl hk hb, tvb _ k⟩) (by
          rcases hs with ⟨hs, -⟩ | ⟨-, hs⟩
          · exact Or.inl hs
          · right
            intro k _
            rw [hs]
            exact zb k) k2 C 0 qN (by omega) (qN_lt (by omega))
        have z : f9_leastOf_L87 p1 x8 (nI S) (nI i) (nI (S ^^^ 2 ^ i)) (qrow h0 15 tb) k2 qN s0 0 = k2 (sv s0 (mo C (fun k => (S ^^^ 2 ^ i).testBit k) (fun k => tv (cz p0) (fun e f => cz (en e) f) C m (S ^^^ 2 ^ i) k + cz (en (m k)) (m i)))) (nI C) := z
        rw [z, est]
        congr 1
        cases a : mo C (fun k => (S ^^^ 2 ^ i).testBit k) (fun k => tv (cz p0) (fun e f => cz (en e) f) C m (S ^^^ 2 ^ i) k + cz (en (m k)) (m i)) with
        | none =>
          rcases hs with ⟨-, hs⟩ | ⟨hs, -⟩
          · exact absurd (S_0 (Nat.lt_trans xl hS) (mo_z a)) hs
          · rw [hs]
            rfl
        | some v => rfl
      have fin : ∀ s0 : Int32, (s0 = -1 ∧ ¬ S ^^^ 2 ^ i = 0 ∨ s0 = nI (cz p0 (m i)) ∧ S ^^^ 2 ^ i = 0) → f9_leastOf_L87 p1 (sv (-1) (if S = 2 ^ C - 1 then mo i (fun _ => true) (tv (cz p0) (fun e f => cz (en e) f) C m S) else none)) (nI S) (nI i) (nI (S ^^^ 2 ^ i)) (qrow h0 15 tb) (fun (x38 : Int32) (x39 : Int32) =>
            qg (qin (((12 : Int32) * nI S) + nI i) 49152) <|
            qlt (qw (qrow h0 15 tb) 15 (ix (((12 : Int32) * nI S) + nI i)) x38) fun (h40 : qH) =>
            qlt (if nI S = (((1 : Int32) <<< ((h40.1 0 20) &&& 31)) - (1 : Int32)) then (if (sv (-1) (if S = 2 ^ C - 1 then mo i (fun _ => true) (tv (cz p0) (fun e f => cz (en e) f) C m S) else none)) = (-1 : Int32) then x38 else (if (sv (-1) (if S = 2 ^ C - 1 then mo i (fun _ => true) (tv (cz p0) (fun e f => cz (en e) f) C m S) else none)) ≤ x38 then (sv (-1) (if S = 2 ^ C - 1 then mo i (fun _ => true) (tv (cz p0) (fun e f => cz (en e) f) C m S) else none)) else x38)) else (sv (-1) (if S = 2 ^ C - 1 then mo i (fun _ => true) (tv (cz p0) (fun e f => cz (en e) f) C m S) else none))) fun (x44 : Int32) =>
            f9_leastOf_L29 p1 (nI S) kk mm x44 (nI i + 1) h40) qN s0 (0 : Int32) = kk (sv (-1) (if S = 2 ^ C - 1 then mo C (fun _ => true) (tv (cz p0) (fun e f => cz (en e) f) C m S) else none)) (nI C) (qrow h0 15 tb') := by
        intro s0 hs
        rw [key s0 hs, ra_12, nI_add, qin_nI (show 12 * S + i < 49152 by omega) (by omega), qg_t, qlt_e, ix_nI (show 12 * S + i < 2 ^ 31 by omega), qlt_e, nI_1]
        have eh : qw (qrow h0 15 tb) 15 (12 * S + i) (nI (tv (cz p0) (fun e f => cz (en e) f) C m S i)) = qrow h0 15 tb1 := by
          show qrow (qrow h0 15 tb) 15 (upd ((qrow h0 15 tb).1 15) (12 * S + i) _) = _
          rw [qrow_at, qrow_qrow]
        rw [eh, q20 tb1, (pw2 C (by omega)).2]
        refine Eq.trans ?_ t2'
        congr 1
        by_cases f : S = 2 ^ C - 1
        · rw [if_pos (show nI S = nI (2 ^ C - 1) by rw [← f]), if_pos f, if_pos f]
          have bt := tvb S i
          show _ = sv (-1) (some (match mo i (fun _ => true) (tv (cz p0) (fun e f => cz (en e) f) C m S) with
            | none => tv (cz p0) (fun e f => cz (en e) f) C m S i
            | some m' => min m' (tv (cz p0) (fun e f => cz (en e) f) C m S i)))
          cases a : mo i (fun _ => true) (tv (cz p0) (fun e f => cz (en e) f) C m S) with
          | none =>
            show (if (-1 : Int32) = -1 then _ else _) = _
            rw [if_pos rfl]
            rfl
          | some v =>
            obtain ⟨⟨g, -, -, g3⟩, -⟩ := mo_s a
            have bg := tvb S g
            show (if nI v = -1 then _ else if nI v ≤ _ then nI v else _) = nI (min v _)
            rw [if_neg (nI_m1 (by omega))]
            by_cases l : v ≤ tv (cz p0) (fun e f => cz (en e) f) C m S i
            · rw [if_pos (nI_le l (by omega)), Nat.min_eq_left l]
            · rw [if_neg (nI_ge (by omega) (by omega)), Nat.min_eq_right (by omega)]
        · rw [if_neg (show ¬ nI S = nI (2 ^ C - 1) from fun z => f (nI_inj (by omega) (by omega) z)), if_neg f, if_neg f]
      by_cases z0 : S ^^^ 2 ^ i = 0
      · rw [if_pos (show nI (S ^^^ 2 ^ i) = 0 by rw [z0]; rfl), lh tb, bind_s, qin_nI (show i < 24 by omega) (by omega), qg_t, ix_nI (show i < 2 ^ 31 by omega), q11 tb i (by omega), lk tb p0 i lp (by omega), bind_s]
        exact fin _ (Or.inr ⟨rfl, z0⟩)
      · rw [if_neg (show ¬ nI (S ^^^ 2 ^ i) = 0 from fun z => z0 (nI_inj (b := 0) (by omega) (by omega) z))]
        exact fin _ (Or.inl ⟨rfl, z0⟩)
    · obtain ⟨tb', t1, t2⟩ := ih (i + 1) tb (by omega) tB (fun k hk hb => by
        by_cases ek : k = i
        · subst ek; exact absurd hb c
        · exact hi k (by omega) hb)
      refine ⟨tb', t1, fun kk mm hm => ?_⟩
      obtain ⟨mm, rfl⟩ : ∃ j, mm = j + 1 := ⟨mm - 1, by omega⟩
      have t2' := t2 kk mm (by omega)
      have nf : ¬ S = 2 ^ C - 1 := fun z => c (by rw [z, Nat.testBit_two_pow_sub_one, decide_eq_true (show i < C by omega)])
      rw [f9_leastOf_L29, q20, if_neg (nI_ge (by omega) (by omega)), f9_has_bt (by omega), bind_s, b_nI S (show i < 32 by omega), if_neg c, qj_e, if_pos rfl]
      simp only [qlt_e]
      rw [nI_1]
      rw [if_neg nf, if_neg nf] at t2' ⊢
      exact t2'
end PR2
