/-! ===== the class's least time: its own loops ===== -/
section PT1
variable {T B F : Nat} {r : Nat → Nat} {N : Nat → Int32} {h : qH}
def sgm (u : Nat → Nat) : Nat → Nat
  | 0 => 0
  | n + 1 => sgm u n + u n
theorem EN.sum {bl : Nat → Nat} : ∀ {C : Nat} {g : Nat → Nat} {A : Nat → Bool}, EN C g A → smn A bl 24 = sgm (fun k => bl (g k)) C
  | 0, g, A, e => smn_z (fun f hf => by
      cases hA : A f with
      | false => rfl
      | true =>
        obtain ⟨k, k1, -⟩ := e.2.2 f hf hA
        omega)
  | n + 1, g, A, e => by
    obtain ⟨e1, e2⟩ := e.1 n (by omega)
    rw [smn_dl e2 e1, EN.sum (C := n) (g := g) (A := dl A (g n)) ⟨fun k hk => ⟨(e.1 k (by omega)).1, dl_at.mpr ⟨(e.1 k (by omega)).2, fun z => by have := e.2.1 k n (by omega) (by omega) z; omega⟩⟩, fun i j hi hj z => e.2.1 i j (by omega) (by omega) z, fun f hf hA => by
      obtain ⟨a1, a2⟩ := dl_at.mp hA
      obtain ⟨k, k1, k2⟩ := e.2.2 f hf a1
      refine ⟨k, ?_, k2⟩
      by_cases z : k = n
      · subst z; exact absurd k2.symm a2
      · omega⟩]
    rfl
theorem en_lt (hB : HB T r) (hI : IN T r B F N) {t f : Nat} (ht : t < 2 ^ 31) (hf : f < F) (hia : ia N t f = true) : enF N f < r 2 * r 3 ∧ N (72 + f) + N (96 + f) - 1 = nI (enF N f) ∧ N (96 + f) = nI (ix (N (96 + f))) := by
  obtain ⟨z1, z2, z3, z4⟩ := (hI.2.2.2.1 f hf).1
  obtain ⟨-, z5, z6⟩ := hI.fit hB.2.1 hf ht (ia_iff.mp hia).1
  have z1' : N (72 + f) = nI (ix (N (72 + f))) := z1
  have z2' : N (96 + f) = nI (ix (N (96 + f))) := z2
  unfold enF
  refine ⟨by omega, ?_, z2'⟩
  obtain ⟨m, hm'⟩ : ∃ m, ix (N (72 + f)) + ix (N (96 + f)) = m + 1 := ⟨ix (N (72 + f)) + ix (N (96 + f)) - 1, by omega⟩
  have e9 : N (72 + f) + N (96 + f) = nI (m + 1) := by
    rw [← hm', ← nI_add, ← z1', ← z2']
  rw [e9, nI_pred, hm']
  rfl
/-- the ways from one of the row -/
theorem wy83 (hX : HX T r h) (hB : HB T r) (hI : IN T r B F N) {t C i : Nat} {g : Nat → Nat} (ga : GA N F t C g h) (ht : t < 2 ^ 31) (hC : C ≤ 12) (hi : i < C) (p1 x5 : Int32) (w0 : Nat → Int32) (hw0 : ∀ i' j, i' < i → j < C → w0 (i' * C + j) = nI (skn r (enF N (g i')) (stF N (g j)))) : ∃ w', (∀ i' j, i' < i + 1 → j < C → w' (i' * C + j) = nI (skn r (enF N (g i')) (stF N (g j)))) ∧ ∀ kk, f2_lt42_L83 p1 x5 (nI i) (nI (enF N (g i))) kk qN 0 (qrow h 49 w0) = kk (nI C) (qrow h 49 w') := by
  obtain ⟨-, -, -, -, b5, b6⟩ := ga.2.1 i hi
  obtain ⟨hen, -, -⟩ := en_lt hB hI ht b5 b6
  obtain ⟨w', hw', h1⟩ := lq10 (σ := Nat → Int32) (γ := (Int32 → qH → Option (Int32 × qH)) → Option (Int32 × qH)) (fun m w x kk => f2_lt42_L83 p1 x5 (nI i) (nI (enF N (g i))) kk m x (qrow h 49 w)) (fun w x kk => kk x (qrow h 49 w)) (fun j w => (∀ i' j', i' < i → j' < C → w (i' * C + j') = nI (skn r (enF N (g i')) (stF N (g j')))) ∧ ∀ j', j' < j → w (i * C + j') = nI (skn r (enF N (g i)) (stF N (g j')))) C (by omega) w0 ⟨hw0, fun j' hj => by omega⟩ (fun j w hj hw => by
    have g1 := nI_ge hj (show C < 2 ^ 31 by omega)
    obtain ⟨a1, a2, a3, a4, a5, a6⟩ := ga.2.1 j hj
    have e43 : (qrow h 49 w).1 43 = h.1 43 := qrow_ne (by omega)
    have e45 : (qrow h 49 w).1 45 = h.1 45 := qrow_ne (by omega)
    have es : f4_seekTime 6 (nI (enF N (g i))) (N (72 + g j)) (qrow h 49 w) = some (nI (skn r (enF N (g i)) (stF N (g j)))) := seek2 (hX.r48 (by omega)) hB hI ht hen a5 a6
    have kC : i * C + j < 144 := by
      have : i * C ≤ 11 * C := Nat.mul_le_mul_right C (by omega)
      omega
    refine ⟨upd w (i * C + j) (nI (skn r (enF N (g i)) (stF N (g j)))), ⟨fun i' j' h1 h2 => ?_, fun j' hj' => ?_⟩, fun m => funext fun kk => ?_⟩
    · rw [upd_ne (by have := ixSC (C := C) (S := i) (S' := i') (i := j) h2 h1; omega)]
      exact hw.1 i' j' h1 h2
    · by_cases e : j' = j
      · subst e; rw [upd_at]
      · rw [upd_ne (by omega)]; exact hw.2 j' (by omega)
    · show f2_lt42_L83 p1 x5 (nI i) (nI (enF N (g i))) kk (m + 1) (nI j) (qrow h 49 w) = f2_lt42_L83 p1 x5 (nI i) (nI (enF N (g i))) kk m (nI (j + 1)) (qrow h 49 (upd w (i * C + j) (nI (skn r (enF N (g i)) (stF N (g j))))))
      simp only [f2_lt42_L83, e43, e45, ga.1, g1, if_false, q12 (show j < 12 by omega), ix_nI (show j < 2 ^ 31 by omega), qg_t, a2, es, bind_s, nI_mul, nI_add, qin_nI kC (by omega), ix_nI (show i * C + j < 2 ^ 31 by omega), qlt_e, qw, qrow_at, qrow_qrow, nI_1]) (fun m w _ => funext fun kk => by
    show f2_lt42_L83 p1 x5 (nI i) (nI (enF N (g i))) kk (m + 1) (nI C) (qrow h 49 w) = _
    rw [f2_lt42_L83, qrow_ne (by omega), ga.1, if_pos (nI_le (Nat.le_refl _) (by omega))])
  refine ⟨w', fun i' j hi' hj => ?_, fun kk => congrFun h1 kk⟩
  by_cases e : i' = i
  · subst e; exact hw'.2 j hj
  · exact hw'.1 i' j (by omega) hj
/-- all ways, and the blocks -/
theorem wy46 (hX : HX T r h) (hB : HB T r) (hI : IN T r B F N) {t C : Nat} {g : Nat → Nat} (ga : GA N F t C g h) (ht : t < 2 ^ 31) (hC : C ≤ 12) (p1 : Int32) (kk : Int32 → Int32 → qH → Option (Int32 × qH)) : ∃ w', (∀ i j, i < C → j < C → w' (i * C + j) = nI (skn r (enF N (g i)) (stF N (g j)))) ∧ f2_lt42_L46 p1 kk qN 0 0 h = kk (nI (sgm (fun k => ix (N (96 + g k))) C)) (nI C) (qrow h 49 w') := by
  obtain ⟨s, ⟨hs1, hs2⟩, h1⟩ := lq10 (σ := Nat × (Nat → Int32)) (fun m s x => f2_lt42_L46 p1 kk m (nI s.1) x (qrow h 49 s.2)) (fun s x => kk (nI s.1) x (qrow h 49 s.2)) (fun i s => s.1 = sgm (fun k => ix (N (96 + g k))) i ∧ ∀ i' j, i' < i → j < C → s.2 (i' * C + j) = nI (skn r (enF N (g i')) (stF N (g j)))) C (by omega) (0, h.1 49) ⟨rfl, fun i' j hi => by omega⟩ (fun i s hi hs => by
    obtain ⟨s1, w⟩ := s
    obtain ⟨hs1, hs2⟩ := hs
    have hs1 : s1 = sgm (fun k => ix (N (96 + g k))) i := hs1
    have g1 := nI_ge hi (show C < 2 ^ 31 by omega)
    obtain ⟨a1, a2, a3, a4, a5, a6⟩ := ga.2.1 i hi
    obtain ⟨-, en, eb⟩ := en_lt hB hI ht a5 a6
    have ga' : GA N F t C g (qrow h 49 w) := ga.cg (qrow_ne (by omega)) (qrow_ne (by omega)) (qrow_ne (by omega)) (qrow_ne (by omega)) (qrow_ne (by omega))
    have e43 : (qrow h 49 w).1 43 = h.1 43 := qrow_ne (by omega)
    have e45 : (qrow h 49 w).1 45 = h.1 45 := qrow_ne (by omega)
    have e46 : (qrow h 49 w).1 46 = h.1 46 := qrow_ne (by omega)
    obtain ⟨w', hw', l83⟩ := wy83 hX hB hI ga ht hC hi p1 (nI (s1 + ix (N (96 + g i)))) w hs2
    refine ⟨(s1 + ix (N (96 + g i)), w'), ⟨by rw [hs1]; rfl, hw'⟩, fun m => ?_⟩
    show f2_lt42_L46 p1 kk (m + 1) (nI s1) (nI i) (qrow h 49 w) = f2_lt42_L46 p1 kk m (nI (s1 + ix (N (96 + g i)))) (nI (i + 1)) (qrow h 49 w')
    have ex5 : nI s1 + N (96 + g i) = nI (s1 + ix (N (96 + g i))) := by rw [eb, nI_add, ← eb]
    simp only [f2_lt42_L46, e43, e45, e46, ga.1, g1, if_false, q12 (show i < 12 by omega), ix_nI (show i < 2 ^ 31 by omega), qg_t, a2, a3, qlt_e, en, ex5, nI_1]
    exact l83 _) (fun m s _ => by
    obtain ⟨s1, w⟩ := s
    show f2_lt42_L46 p1 kk (m + 1) (nI s1) (nI C) (qrow h 49 w) = _
    rw [f2_lt42_L46, qrow_ne (by omega), ga.1, if_pos (nI_le (Nat.le_refl _) (by omega))])
  obtain ⟨s1, w⟩ := s
  have hs1 : s1 = sgm (fun k => ix (N (96 + g k))) C := hs1
  subst hs1
  refine ⟨w, hs2, ?_⟩
  have h1' : f2_lt42_L46 p1 kk qN 0 0 (qrow h 49 (h.1 49)) = kk (nI (sgm (fun k => ix (N (96 + g k))) C)) (nI C) (qrow h 49 w) := h1
  rw [qrow_self] at h1'
  exact h1'
/-- all sets -/
theorem wy136 {C : Nat} {m : Nat → Nat} {A : Nat → Bool} {c0 : Nat → Nat} {c1 : Nat → Nat → Nat} {LEN : Nat} {h0 : qH} (lx : LX C m c0 c1 LEN h0) (e : EN C m A) (x16 : Int32) (kk : Int32 → qH → Option (Int32 × qH)) : ∃ tb', TC C (tv c0 c1 C m) (2 ^ C) tb' ∧ f2_lt42_L136 (nI (2 ^ C)) x16 kk qN 1 h0 = kk (nI (2 ^ C)) (qrow h0 50 tb') := by
  have h4 := pw_le lx.2.1
  have h1 : 1 ≤ 2 ^ C := Nat.one_le_two_pow
  obtain ⟨tb', ⟨-, t1⟩, t2⟩ := lq1 (σ := Nat → Int32) (fun n tb x => f2_lt42_L136 (nI (2 ^ C)) x16 kk n x (qrow h0 50 tb)) (fun tb x => kk x (qrow h0 50 tb)) (fun S tb => 1 ≤ S ∧ TC C (tv c0 c1 C m) S tb) (2 ^ C) (fun S tb hS hI => by
    obtain ⟨tb', u1, u2⟩ := fillTable_eq lx e hS tb hI.2
    refine ⟨tb', ⟨by omega, u1⟩, fun n => ?_⟩
    show f2_lt42_L136 (nI (2 ^ C)) x16 kk (n + 1) (nI S) (qrow h0 50 tb) = f2_lt42_L136 (nI (2 ^ C)) x16 kk n (nI (S + 1)) (qrow h0 50 tb')
    rw [f2_lt42_L136, if_neg (nI_ge hS (by omega)), u2, bind_s, qlt_e, nI_1]) (fun n tb _ => by
    show f2_lt42_L136 (nI (2 ^ C)) x16 kk (n + 1) (nI (2 ^ C)) (qrow h0 50 tb) = _
    rw [f2_lt42_L136, if_pos (nI_le (Nat.le_refl _) (by omega))]) (2 ^ C - 1) 1 (h0.1 50) (by omega) ⟨Nat.le_refl _, fun S i hS hi hb => by
    have : S = 0 := by omega
    subst this
    rw [Nat.zero_testBit] at hb
    cases hb⟩
  refine ⟨tb', t1, ?_⟩
  have t3 := t2 qN (qN_lt (by omega))
  have t3' : f2_lt42_L136 (nI (2 ^ C)) x16 kk qN 1 (qrow h0 50 (h0.1 50)) = kk (nI (2 ^ C)) (qrow h0 50 tb') := t3
  rw [qrow_self] at t3'
  exact t3'
/-- the least of the last line -/
theorem wy158 {C LEN : Nat} {V : Nat → Nat} (h43 : h.1 43 1 = nI C) (hC : C ≤ 12) (hl : h.1 100 0 = nI LEN) (hl2 : 2 ^ C * C ≤ LEN) (hl3 : LEN < 2 ^ 31) (hV : ∀ k, k < C → h.1 50 ((2 ^ C - 1) * C + k) = nI (V k) ∧ V k < 100000) (x16 : Int32) (kk : Int32 → Int32 → Option (Int32 × qH)) : f2_lt42_L158 (nI (2 ^ C)) x16 h kk qN 1000000 0 = kk (sv 1000000 (mo C (fun _ => true) V)) (nI C) := by
  have h4 := pw_le hC
  have h1 : 1 ≤ 2 ^ C := Nat.one_le_two_pow
  have hp : nI (2 ^ C) - 1 = nI (2 ^ C - 1) := by
    obtain ⟨m, hm⟩ : ∃ m, 2 ^ C = m + 1 := ⟨2 ^ C - 1, by omega⟩
    rw [hm, nI_pred]
    rfl
  obtain ⟨s, hs, e⟩ := lq10 (σ := Int32) (fun n s x => f2_lt42_L158 (nI (2 ^ C)) x16 h kk n s x) (fun s x => kk s x) (fun k s => s = sv 1000000 (mo k (fun _ => true) V)) C (by omega) 1000000 rfl (fun k s hk hs => by
    subst hs
    obtain ⟨v1, v2⟩ := hV k hk
    have hb : (2 ^ C - 1) * C + k < LEN := by
      have : (2 ^ C - 1 + 1) * C = 2 ^ C * C := by rw [Nat.sub_add_cancel h1]
      rw [Nat.succ_mul] at this
      omega
    refine ⟨_, rfl, fun n => ?_⟩
    show f2_lt42_L158 (nI (2 ^ C)) x16 h kk (n + 1) _ (nI k) = f2_lt42_L158 (nI (2 ^ C)) x16 h kk n _ (nI (k + 1))
    rw [f2_lt42_L158, h43, if_neg (nI_ge hk (by omega)), hp, nI_mul, nI_add, hl, ix_nI (show LEN < 2 ^ 31 by omega), qin_nI hb hl3, qg_t, ix_nI (show (2 ^ C - 1) * C + k < 2 ^ 31 by omega), v1]
    simp only [qlt_e]
    rw [nI_1]
    congr 1
    show _ = sv 1000000 (if (fun _ => true) k = true then some (match mo k (fun _ => true) V with
      | none => V k
      | some m' => min m' (V k)) else mo k (fun _ => true) V)
    rw [if_pos rfl]
    cases a : mo k (fun _ => true) V with
    | none =>
      show (if nI (V k) < 1000000 then nI (V k) else 1000000) = nI (V k)
      rw [if_pos (show nI (V k) < (1000000 : Int32) from nI_lt (b := 1000000) (by omega) (by omega))]
    | some m' =>
      obtain ⟨⟨g, g1, g2, g3⟩, -⟩ := mo_s a
      have vg := (hV g (by omega)).2
      show (if nI (V k) < nI m' then nI (V k) else nI m') = nI (min m' (V k))
      by_cases l : V k < m'
      · rw [if_pos (nI_lt l (by omega)), Nat.min_eq_right (by omega)]
      · rw [if_neg (nI_nlt (by omega) (by omega)), Nat.min_eq_left (by omega)]) (fun n s _ => by
    show f2_lt42_L158 (nI (2 ^ C)) x16 h kk (n + 1) s (nI C) = _
    rw [f2_lt42_L158, h43, if_pos (nI_le (Nat.le_refl _) (by omega))])
  subst hs
  exact e
theorem lt42 (hX : HX T r h) (hB : HB T r) (hI : IN T r B F N) (hF : F ≤ 24) {t C p0 LEN : Nat} {g : Nat → Nat} (ga : GA N F t C g h) (ht : t < 2 ^ 31) (hC : C ≤ 12) (h0 : 0 < C) (hp0 : p0 < r 2 * r 3) (hh : h.1 43 2 = nI p0) (hl : h.1 100 0 = nI LEN) (hl2 : 2 ^ C * C ≤ LEN) (hl3 : LEN < 2 ^ 31) : ∃ w tb, f2_lt42 (nI (2 ^ C)) h = some (nI (lsV N r F t p0), qrow (qrow h 49 w) 50 tb) := by
  have h4 := pw_le hC
  have e := ga.en hF
  have b0 : 0 < r 2 := by
    rcases Nat.eq_zero_or_pos (r 2) with z | z
    · rw [z, Nat.zero_mul] at hp0; omega
    · exact z
  have sk18 : ∀ b c, skn r b c ≤ 18 := fun b c => skn_le b0 hB.2.2.2.2.2.2.2.2.1
  unfold f2_lt42
  obtain ⟨w, hw, l46⟩ := wy46 hX hB hI ga ht hC (nI (2 ^ C)) (fun (x16 : Int32) (x17 : Int32) (h18 : qH) =>
    f2_lt42_L136 (nI (2 ^ C)) x16 (fun (x24 : Int32) (h25 : qH) =>
      f2_lt42_L158 (nI (2 ^ C)) x16 h25 (fun (x31 : Int32) (x32 : Int32) =>
        some ((x31 + x16), h25)) qN (1000000 : Int32) (0 : Int32)) qN (1 : Int32) h18)
  rw [l46]
  have lx : LX C g (fun f => skn r p0 (stF N f)) (fun e f => skn r (enF N e) (stF N f)) LEN (qrow h 49 w) := by
    refine ⟨by rw [qrow_ne (by omega)]; exact ga.1, hC, fun tb i hi => ?_, fun f => by have := sk18 p0 (stF N f); show skn r p0 (stF N f) < 1000; omega, fun e f => by have := sk18 (enF N e) (stF N f); show skn r (enF N e) (stF N f) < 1000; omega, fun i j hi hj => by rw [qrow_at]; exact hw i j hi hj, by rw [qrow_ne (by omega)]; exact hl, hl2, hl3⟩
    obtain ⟨a1, a2, a3, a4, a5, a6⟩ := ga.2.1 i hi
    rw [qrow_ne (show (43 : Nat) ≠ 50 by omega), qrow_ne (show (43 : Nat) ≠ 49 by omega), qrow_ne (show (45 : Nat) ≠ 50 by omega), qrow_ne (show (45 : Nat) ≠ 49 by omega), hh, a2]
    exact seek2 ((hX.r48 (by omega)).r48 (by omega)) hB hI ht hp0 a5 a6
  obtain ⟨tb, t1, l136⟩ := wy136 lx e (nI (sgm (fun k => ix (N (96 + g k))) C)) (fun (x24 : Int32) (h25 : qH) =>
      f2_lt42_L158 (nI (2 ^ C)) (nI (sgm (fun k => ix (N (96 + g k))) C)) h25 (fun (x31 : Int32) (x32 : Int32) =>
        some ((x31 + (nI (sgm (fun k => ix (N (96 + g k))) C))), h25)) qN (1000000 : Int32) (0 : Int32))
  rw [l136]
  have l158 := wy158 (h := qrow (qrow h 49 w) 50 tb) (V := fun k => tv (fun f => skn r p0 (stF N f)) (fun e f => skn r (enF N e) (stF N f)) C g (2 ^ C - 1) k) (C := C) (LEN := LEN) (by rw [qrow_ne (by omega), qrow_ne (by omega)]; exact ga.1) hC (by rw [qrow_ne (by omega), qrow_ne (by omega)]; exact hl) hl2 hl3 (fun k hk => ⟨by
      rw [qrow_at]
      exact t1 (2 ^ C - 1) k (by have : 1 ≤ 2 ^ C := Nat.one_le_two_pow; omega) hk (by rw [Nat.testBit_two_pow_sub_one, decide_eq_true hk]), by
      have := VV_le (c0 := fun f => skn r p0 (stF N f)) (c1 := fun e f => skn r (enF N e) (stF N f)) (b := 18) (fun f => sk18 _ _) (fun g f => sk18 _ _) 24 (fs g (2 ^ C - 1) C) (g k)
      show VV _ _ 24 (fs g (2 ^ C - 1) C) (g k) < 100000
      omega⟩) (nI (sgm (fun k => ix (N (96 + g k))) C)) (fun (x31 : Int32) (x32 : Int32) => some ((x31 + (nI (sgm (fun k => ix (N (96 + g k))) C))), qrow (qrow h 49 w) 50 tb))
  rw [l158]
  refine ⟨w, tb, ?_⟩
  have es : sgm (fun k => ix (N (96 + g k))) C = smn (lsA N F t) (blF N F) 24 := by
    rw [e.sum]
    have : ∀ n, n ≤ C → sgm (fun k => ix (N (96 + g k))) n = sgm (fun k => blF N F (g k)) n := by
      intro n
      induction n with
      | zero => intro _; rfl
      | succ n ih =>
        intro hn
        show sgm _ n + ix (N (96 + g n)) = sgm _ n + blF N F (g n)
        rw [ih (by omega)]
        obtain ⟨-, -, -, -, a5, -⟩ := ga.2.1 n (by omega)
        unfold blF
        rw [if_pos a5]
    exact this C (Nat.le_refl _)
  have el := ga.least (p0 := p0) (r := r) hF
  rw [es, el]
  cases a : mo C (fun _ => true) (fun k => tv (fun f => skn r p0 (stF N f)) (fun e f => skn r (enF N e) (stF N f)) C g (2 ^ C - 1) k) with
  | none =>
    have := mo_z a 0 h0
    cases this
  | some m =>
    show some (nI m + nI _, _) = some (nI (m + _), _)
    rw [nI_add]
end PT1
