section PC1
variable {T B F LT k nx : Nat} {r : Nat → Nat} {hx hm : qH}
theorem begin_eq : ∃ h1, f8_beginTrial hx = some h1 ∧ SE 51 hx 63 h1 ∧ (∀ b, ¬ (63 ≤ b ∧ b ≤ 75) → h1.1 b = hx.1 b) ∧ h1.2 = hx.2 ∧ h1.1 63 6 = 0 := by
  obtain ⟨w, s1, s2, -⟩ := store_eq (a := 51) (c := 75) (p := 0) (np := 172) (h := hx) (by omega) (by omega) (by omega)
  obtain ⟨h2, l1, l2, l3, l4, l5⟩ := load_eq (a := 63) (c := 75) (p := 0) (np := 172) (h := qrow hx 75 w) (by omega) (by omega) (by omega)
  have s1' : f7_store 51 75 172 0 hx = some (qrow hx 75 w) := s1
  have l1' : f7_load 63 75 172 0 (qrow hx 75 w) = some h2 := l1
  rw [qrow_at] at l2
  refine ⟨qw h2 63 6 0, ?_, ?_, fun b hb => ?_, ?_, ?_⟩
  · unfold f8_beginTrial
    rw [s1', bind_s, l1', bind_s, qlt_e]
  · have x := s2.tr l2
    refine ⟨fun k h1 h2' => ?_, fun j i h1 h2' h3 => ?_, fun j i h1 h2' h3 => ?_⟩
    · rw [qrow_at, upd_ne (by omega)]; exact x.1 k h1 h2'
    · rw [qrow_ne (by omega)]; exact x.2.1 j i h1 h2' h3
    · rw [qrow_ne (by omega)]; exact x.2.2 j i h1 h2' h3
  · rw [qrow_ne (by omega), l3 b (by omega), qrow_ne (by omega)]
  · show h2.2 = hx.2
    rw [l4]
    rfl
  · rw [qrow_at, upd_at]
theorem QQ.begin (q : QQ T r B F hx 51 hm) {h1 m1 : qH} (se : SE 51 hx 63 h1) (hb : ∀ b, ¬ (63 ≤ b ∧ b ≤ 75) → h1.1 b = hx.1 b) (m0 : m1.1 0 12 = hm.1 0 12) (m5 : m1.1 5 = hm.1 5) (m9 : m1.1 9 = hm.1 9) : QQ T r B F h1 63 m1 := by
  obtain ⟨q1, q2, q3, q4, q5⟩ := q
  refine ⟨q1, ?_, ?_, ?_, by rw [m9]; exact q5⟩
  · unfold HX
    rw [hb 6 (by omega), hb 7 (by omega), hb 12 (by omega), hb 13 (by omega)]
    exact q2
  · unfold HM
    rw [m0, m5]
    exact q3
  · rw [m9]
    exact q4.se se q1.2.1 q5.1.2.1
/-- what a trial leaves as it is -/
def TF (hx hx' hm hm' : qH) : Prop := (∀ b, ¬ (43 ≤ b ∧ b ≤ 49) → ¬ (63 ≤ b ∧ b ≤ 76) → b ≠ 0 → hx'.1 b = hx.1 b) ∧ (∀ j, j ≠ 12 → hx'.1 0 j = hx.1 0 j) ∧ (∀ b, b ≠ 0 → b ≠ 11 → b ≠ 12 → b ≠ 14 → b ≠ 16 → b ≠ 17 → hm'.1 b = hm.1 b) ∧ ∀ j, j ≠ 18 → j ≠ 20 → ¬ (28 ≤ j ∧ j ≤ 31) → hm'.1 0 j = hm.1 0 j
theorem TF.rf : TF hx hx hm hm := ⟨fun _ _ _ _ => rfl, fun _ _ => rfl, fun _ _ _ _ _ _ _ => rfl, fun _ _ _ _ => rfl⟩
theorem TF.tr {hx1 hx2 hm1 hm2 : qH} (x : TF hx hx1 hm hm1) (y : TF hx1 hx2 hm1 hm2) : TF hx hx2 hm hm2 := ⟨fun b p1 p2 p3 => (y.1 b p1 p2 p3).trans (x.1 b p1 p2 p3), fun j p => (y.2.1 j p).trans (x.2.1 j p), fun b p1 p2 p3 p4 p5 p6 => (y.2.2.1 b p1 p2 p3 p4 p5 p6).trans (x.2.2.1 b p1 p2 p3 p4 p5 p6), fun j p1 p2 p3 => (y.2.2.2 j p1 p2 p3).trans (x.2.2.2 j p1 p2 p3)⟩
theorem HS.tf {hx' hm' : qH} (H : HS T r B F LT k nx hx hm) (t : TF hx hx' hm hm') : HS T r B F LT k nx hx' hm' := H.cg (fun b hb => t.1 b (by omega) (by omega) (by omega)) (t.2.2.2 12 (by omega) (by omega) (by omega)) (t.2.2.2 23 (by omega) (by omega) (by omega)) (t.2.2.1 5 (by omega) (by omega) (by omega) (by omega) (by omega) (by omega)) (t.2.2.1 9 (by omega) (by omega) (by omega) (by omega) (by omega) (by omega)) (t.2.2.1 13 (by omega) (by omega) (by omega) (by omega) (by omega) (by omega))
/-- between two servings of a trial -/
def TI (T : Nat) (r : Nat → Nat) (B F : Nat) (h1 m1 : qH) (p1 : Int32) (f u i : Nat) (τ : Nat → Nat) (x y : qH) : Prop :=
  QQ T r B F x 63 y ∧ (∀ b, ¬ (43 ≤ b ∧ b ≤ 49) → ¬ (63 ≤ b ∧ b ≤ 74) → b ≠ 76 → b ≠ 0 → x.1 b = h1.1 b) ∧ (∀ j, j ≠ 12 → x.1 0 j = h1.1 0 j) ∧ (∀ b, b ≠ 0 → b ≠ 9 → b ≠ 11 → b ≠ 12 → b ≠ 16 → y.1 b = m1.1 b) ∧ (∀ j, j ≠ 18 → j ≠ 20 → j ≠ 28 → j ≠ 31 → y.1 0 j = m1.1 0 j) ∧ (∀ k, 172 ≤ k → y.1 9 k = m1.1 9 k) ∧
  (x.1 0 12 = nI i ∧ y.1 0 28 = nI i ∧ x.1 63 6 = y.1 0 18) ∧ (∀ j, j < i → τ j < T ∧ x.1 76 j = nI (τ j) ∧ y.1 16 j = nI (τ j) ∧ ak (y.1 9) (nI (τ j)) F = 0) ∧ (∀ j j', j < j' → j' < i → τ j ≠ τ j') ∧
  (p1 = -1 ∨ (p1 = nI f ∧ f < F ∧ u < T ∧ y.1 9 (48 + f) = nI u ∧ ((y.1 0 31 = -1 ∧ (∀ j, j < i → τ j ≠ u) ∧ ¬ y.1 9 (144 + f) = 0) ∨ ∃ j, j < i ∧ τ j = u ∧ y.1 0 31 = nI (j + 1))))
theorem ak_cg0 {N N' : Nat → Int32} {t : Int32} : ∀ {n : Nat}, (∀ f, f < n → N' (48 + f) = N (48 + f)) → (∀ f, f < n → N (144 + f) = 0 → N' (144 + f) = 0) → ak N t n = 0 → ak N' t n = 0
  | 0, _, _, _ => rfl
  | n + 1, h1, h2, h => by
    have h : ak N t n + (if N (48 + n) = t then (if N (144 + n) = 0 then 0 else 1) else 0) = 0 := h
    show ak N' t n + (if N' (48 + n) = t then (if N' (144 + n) = 0 then 0 else 1) else 0) = 0
    rw [ak_cg0 (n := n) (fun f hf => h1 f (by omega)) (fun f hf => h2 f (by omega)) (by omega), h1 n (by omega)]
    by_cases e : N (48 + n) = t
    · rw [if_pos e] at h ⊢
      by_cases e2 : N (144 + n) = 0
      · rw [if_pos (h2 n (by omega) e2)]
      · rw [if_neg e2] at h; omega
    · rw [if_neg e]
theorem ak_zero {N : Nat → Int32} {t : Nat} : ∀ {n : Nat}, (∀ f, f < n → ¬ ia N t f = true) → ak N (nI t) n = 0
  | 0, _ => rfl
  | n + 1, h => by rw [ak_no (h n (by omega)), ak_zero (fun f hf => h f (by omega))]
theorem TI.step {h1 m1 x y : qH} {p1 : Int32} {f u i : Nat} {τ : Nat → Nat} (I : TI T r B F h1 m1 p1 f u i τ x y) (hn : ¬ nask (y.1 9) F = 0) : i < T ∧ ∃ (τ' : Nat → Nat) (x' y' : qH), TI T r B F h1 m1 p1 f u (i + 1) τ' x' y' ∧ (∀ kx m, f8_tryServing_L11 kx (m + 1) (nI i) x = f8_tryServing_L11 kx m (nI (i + 1)) x') ∧ ∀ km m, f9_layAll_L19 p1 km (m + 1) y = f9_layAll_L19 p1 km m y' := by
  have ka : kStage 63 := Or.inr rfl
  obtain ⟨q, fx, fx0, fm, fm0, f9, ⟨c1, c2, c3⟩, tl, td, sn⟩ := I
  have hT := q.t31
  obtain ⟨t, x2, y2, ht, hak, d1, d2, o1, r48, r144⟩ := q.serve ka hn
  obtain ⟨q2, gx, gm, gc⟩ := o1
  have tne : ∀ j, j < i → τ j ≠ t := fun j hj e => by
    have := (tl j hj).2.2.2
    rw [e] at this
    omega
  have hiT : i + 1 ≤ T := by
    refine pigeon T (i + 1) (fun j => if j = i then t else τ j) (fun j hj => ?_) (fun j j' hj hj' e => ?_)
    · show (if j = i then t else τ j) < T
      by_cases e : j = i
      · rw [if_pos e]; exact ht
      · rw [if_neg e]; exact (tl j (by omega)).1
    · have e : (if j = i then t else τ j) = (if j' = i then t else τ j') := e
      by_cases a1 : j = i <;> by_cases a2 : j' = i
      · omega
      · rw [if_pos a1, if_neg a2] at e
        exact absurd e.symm (tne j' (by omega))
      · rw [if_neg a1, if_pos a2] at e
        exact absurd e (tne j (by omega))
      · rw [if_neg a1, if_neg a2] at e
        rcases Nat.lt_trichotomy j j' with h9 | h9 | h9
        · exact absurd e (td j j' h9 (by omega))
        · exact h9
        · exact absurd e.symm (td j' j h9 (by omega))
  refine ⟨by omega, ?_⟩
  obtain ⟨o, n1, n2, n3, n4⟩ := q.next
  have hasked := q.askedAll.1
  have hnk := nask_le (y.1 9) F
  have asg : ¬ nI (nask (y.1 9) F) ≤ 0 := nI_nle (by omega) (by omega)
  have nxt : ∃ b, f9_nextTape y = some (nI b) ∧ b < T := by
    cases o with
    | none => exact absurd (n4.mp rfl) hn
    | some b => exact ⟨b, n2, (n3 b rfl).1⟩
  obtain ⟨b, nb, hbT⟩ := nxt
  have g8 : ¬ (8 : Int32) ≤ nI i := nI_ge (b := 8) (by omega) (by omega)
  have y28 : y2.1 0 28 = nI i := by rw [gm.2.1 28 (by omega) (by omega)]; exact c2
  have x12 : x2.1 0 12 = nI i := by rw [gx.1 0 (by omega) (by omega)]; exact c1
  have y31 : y2.1 0 31 = y.1 0 31 := gm.2.1 31 (by omega) (by omega)
  -- the class's and the reference's stores behind it
  have key : ∀ (v31 : Int32), (p1 = -1 ∨ (p1 = nI f ∧ f < F ∧ u < T ∧ y2.1 9 (48 + f) = nI u ∧ ((v31 = -1 ∧ (∀ j, j < i + 1 → (if j = i then t else τ j) ≠ u) ∧ ¬ y2.1 9 (144 + f) = 0) ∨ ∃ j, j < i + 1 ∧ (if j = i then t else τ j) = u ∧ v31 = nI (j + 1)))) → TI T r B F h1 m1 p1 f u (i + 1) (fun j => if j = i then t else τ j) (qrow (qrow x2 76 (upd (x2.1 76) i (nI t))) 0 (upd (x2.1 0) 12 (nI (i + 1)))) (qrow (qrow y2 16 (upd (y2.1 16) i (nI t))) 0 (upd (upd (y2.1 0) 31 v31) 28 (nI (i + 1)))) := by
    intro v31 hv
    have e9 : (qrow (qrow y2 16 (upd (y2.1 16) i (nI t))) 0 (upd (upd (y2.1 0) 31 v31) 28 (nI (i + 1)))).1 9 = y2.1 9 := by rw [qrow_ne (by omega), qrow_ne (by omega)]
    refine ⟨q2.cg (fun b hb => by rw [qrow_ne (by omega), qrow_ne (by omega)]) (by rw [qrow_at, upd_ne (by omega), upd_ne (by omega)]) (by rw [qrow_ne (by omega), qrow_ne (by omega)]) e9, fun b b1 b2 b3 b4 => ?_, fun j hj => ?_, fun b b1 b2 b3 b4 b5 => ?_, fun j j1 j2 j3 j4 => ?_, fun k hk => ?_, ⟨?_, ?_, ?_⟩, fun j hj => ?_, fun j j' hjj hj' => ?_, ?_⟩
    · rw [qrow_ne b4, qrow_ne b3, gx.1 b (by omega) b1, fx b b1 b2 b3 b4]
    · rw [qrow_at, upd_ne hj, gx.1 0 (by omega) (by omega), fx0 j hj]
    · rw [qrow_ne b1, qrow_ne b5, gm.1 b b1 b2 b3 b4, fm b b1 b2 b3 b4 b5]
    · rw [qrow_at, upd_ne j3, upd_ne j4, gm.2.1 j j1 j2, fm0 j j1 j2 j3 j4]
    · rw [e9, gm.2.2.2 k hk, f9 k hk]
    · rw [qrow_at, upd_at]
    · rw [qrow_at, upd_at]
    · rw [qrow_ne (by omega), qrow_ne (by omega), qrow_at, upd_ne (by omega), upd_ne (by omega)]
      rw [c3, Int32.sub_self] at gc
      have h9 := congrArg (fun z => z + y2.1 0 18) gc
      simpa using h9
    · show (if j = i then t else τ j) < T ∧ _ = nI (if j = i then t else τ j) ∧ _ = nI (if j = i then t else τ j) ∧ ak _ (nI (if j = i then t else τ j)) F = 0
      rw [qrow_ne (show (76 : Nat) ≠ 0 by omega), qrow_at, qrow_ne (show (16 : Nat) ≠ 0 by omega), qrow_at, e9]
      by_cases e : j = i
      · subst e
        rw [if_pos rfl, upd_at, upd_at]
        refine ⟨ht, rfl, rfl, ak_zero fun g hg h9 => ?_⟩
        rw [ia_iff, r48 g hg, r144 g hg] at h9
        by_cases h8 : ia (y.1 9) t g = true
        · rw [if_pos h8] at h9; exact h9.2 rfl
        · rw [if_neg h8] at h9; exact h8 (ia_iff.mpr h9)
      · rw [if_neg e, upd_ne e, upd_ne e, gx.1 76 (by omega) (by omega), gm.1 16 (by omega) (by omega) (by omega) (by omega)]
        obtain ⟨a1, a2, a3, a4⟩ := tl j (by omega)
        refine ⟨a1, a2, a3, ak_cg0 r48 (fun g hg h0 => ?_) a4⟩
        rw [r144 g hg]
        split
        · rfl
        · exact h0
    · show (if j = i then t else τ j) ≠ (if j' = i then t else τ j')
      rw [if_neg (show ¬ j = i by omega)]
      by_cases e : j' = i
      · rw [if_pos e]; exact tne j (by omega)
      · rw [if_neg e]; exact td j j' hjj (by omega)
    · rw [e9, qrow_at, upd_ne (show (31 : Nat) ≠ 28 by omega), upd_at]
      exact hv
  have cX : ∀ kx m, f8_tryServing_L11 kx (m + 1) (nI i) x = f8_tryServing_L11 kx m (nI (i + 1)) (qrow (qrow x2 76 (upd (x2.1 76) i (nI t))) 0 (upd (x2.1 0) 12 (nI (i + 1)))) := by
    intro kx m
    simp only [f8_tryServing_L11, g8, if_false, hasked, bind_s, asg, d1, qb2_s, q8 (show i < 8 by omega), ix_nI (show i < 2 ^ 31 by omega), qg_t, qlt_e, qw, qrow_ne (show (0 : Nat) ≠ 76 by omega), x12, nI_1]
  have q12i : qin (nI i) 12 = true := q12 (by omega)
  have nbm := nI_m1 (show b < 2 ^ 31 by omega)
  have e16 : (qrow y2 16 (upd (y2.1 16) i (nI t))).1 0 = y2.1 0 := qrow_ne (by omega)
  have e16' : (qrow y2 16 (upd (y2.1 16) i (nI t))).1 9 = y2.1 9 := qrow_ne (by omega)
  have noU : upd (y2.1 0) 31 (y2.1 0 31) = y2.1 0 := upd_self _ _
  rcases sn with sn | ⟨sp, sf, su, s48, sn⟩
  · refine ⟨_, _, _, key (y2.1 0 31) (Or.inl sn), cX, fun km m => ?_⟩
    rw [noU]
    by_cases h31 : y2.1 0 31 = -1
    · simp only [f9_layAll_L19, nb, bind_s, nbm, if_false, d2, qb2_s, c2, q12i, ix_nI (show i < 2 ^ 31 by omega), qg_t, qlt_e, qj_e, qw, e16, h31, sn, if_true, y28, nI_1]
    · simp only [f9_layAll_L19, nb, bind_s, nbm, if_false, d2, qb2_s, c2, q12i, ix_nI (show i < 2 ^ 31 by omega), qg_t, qlt_e, qj_e, qw, e16, h31, y28, nI_1]
  · have pm : ¬ p1 = -1 := by rw [sp]; exact nI_m1 (by omega)
    have s48' : y2.1 9 (48 + f) = nI u := by rw [r48 f sf]; exact s48
    rcases sn with ⟨s1, s2, s3⟩ | ⟨j, j1, j2, j3⟩
    · have h31 : y2.1 0 31 = -1 := y31.trans s1
      by_cases htu : t = u
      · have h0 : y2.1 9 (144 + f) = 0 := by
          rw [r144 f sf, if_pos]
          rw [ia_iff, htu]
          exact ⟨s48, s3⟩
        refine ⟨_, _, _, key (nI (i + 1)) (Or.inr ⟨sp, sf, su, s48', Or.inr ⟨i, by omega, by rw [if_pos rfl]; exact htu, rfl⟩⟩), cX, fun km m => ?_⟩
        simp only [f9_layAll_L19, nb, bind_s, nbm, if_false, d2, qb2_s, c2, q12i, ix_nI (show i < 2 ^ 31 by omega), qg_t, qlt_e, qj_e, qw, e16, h31, pm, if_true, sp, la_144, q353 (show 144 + f < 353 by omega), i353 (show 144 + f < 353 by omega), e16', h0, y28, nI_1, nI_m1 (show f < 2 ^ 31 by omega), qrow_at, qrow_qrow, upd_ne (show (28 : Nat) ≠ 31 by omega)]
      · have h0 : ¬ y2.1 9 (144 + f) = 0 := by
          rw [r144 f sf, if_neg]
          · exact s3
          · rw [ia_iff, s48]
            intro h9
            exact htu ((nI_eq (by omega) (by omega)).mp h9.1).symm
        refine ⟨_, _, _, key (y2.1 0 31) (Or.inr ⟨sp, sf, su, s48', Or.inl ⟨h31, fun j hj => ?_, h0⟩⟩), cX, fun km m => ?_⟩
        · by_cases e : j = i
          · rw [if_pos e]; exact htu
          · rw [if_neg e]; exact s2 j (by omega)
        · rw [noU]
          simp only [f9_layAll_L19, nb, bind_s, nbm, if_false, d2, qb2_s, c2, q12i, ix_nI (show i < 2 ^ 31 by omega), qg_t, qlt_e, qj_e, qw, e16, h31, pm, if_true, sp, la_144, q353 (show 144 + f < 353 by omega), i353 (show 144 + f < 353 by omega), e16', h0, y28, nI_1, nI_m1 (show f < 2 ^ 31 by omega)]
    · have h31 : ¬ y2.1 0 31 = -1 := by rw [y31, j3]; exact nI_m1 (by omega)
      refine ⟨_, _, _, key (y2.1 0 31) (Or.inr ⟨sp, sf, su, s48', Or.inr ⟨j, by omega, by rw [if_neg (by omega)]; exact j2, y31.trans j3⟩⟩), cX, fun km m => ?_⟩
      rw [noU]
      simp only [f9_layAll_L19, nb, bind_s, nbm, if_false, d2, qb2_s, c2, q12i, ix_nI (show i < 2 ^ 31 by omega), qg_t, qlt_e, qj_e, qw, e16, h31, y28, nI_1]
end PC1
