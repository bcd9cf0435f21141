/-! the tape served next; refusals -/
theorem nI_mul (a b : Nat) : nI a * nI b = nI (a * b) := (Int32.ofNat_mul a b).symm
theorem nx_el {D : Nat → Bool} {k : Nat → Nat} {C : Nat} (hk : ∀ t, k t ≤ C) : ∀ n, (nx D k n).elim 0 k ≤ C := by
  intro n
  cases nx D k n with
  | none => exact Nat.zero_le _
  | some b => exact hk b
theorem oI_some (b : Nat) : oI (some b) = nI b := rfl
theorem oI_none : oI none = -1 := rfl
def isW (w : Int32) : Prop := w = -1 ∨ w = 0 ∨ w = 1 ∨ w = 2 ∨ w = 3
theorem isW_m : isW (-1) := Or.inl rfl
theorem isW_0 : isW 0 := Or.inr (Or.inl rfl)
theorem isW_1 : isW 1 := Or.inr (Or.inr (Or.inl rfl))
theorem isW_2 : isW 2 := Or.inr (Or.inr (Or.inr (Or.inl rfl)))
theorem isW_3 : isW 3 := Or.inr (Or.inr (Or.inr (Or.inr rfl)))
theorem n0m : ¬ (0 : Int32) = -1 := by decide
theorem n1m : ¬ (1 : Int32) = -1 := by decide
theorem n2m : ¬ (2 : Int32) = -1 := by decide
theorem n3m : ¬ (3 : Int32) = -1 := by decide
theorem nm0 : ¬ (-1 : Int32) = 0 := by decide
section PP
variable {T B F a : Nat} {r : Nat → Nat} {hx hm : qH}
theorem QQ.nextX (q : QQ T r B F hx a hm) (D : Nat → Bool) (hD : ∀ t, t < T → (D t = true ↔ ¬ hx.1 (a + 1) t = -1)) : f7_nextServed a hx = some (if oI (nx D (fun t => ak (hm.1 9) (nI t) F) T) = -1 then oI (nx (fun _ => true) (fun t => ak (hm.1 9) (nI t) F) T) else oI (nx D (fun t => ak (hm.1 9) (nI t) F) T)) := by
  have hT := q.t31
  unfold f7_nextServed
  obtain ⟨h1, h2⟩ := up_loop0 (σ := Int32 × Int32 × Int32 × Int32) (fun m s x => f7_nextServed_L12 a hx (fun x20 _ x22 _ _ => qlt (if x20 = (-1 : Int32) then x22 else x20) fun x26 => some x26) m s.1 s.2.1 s.2.2.1 s.2.2.2 x) (fun s _ => some (if s.1 = -1 then s.2.2.1 else s.1)) (fun i _ => (oI (nx D (fun t => ak (hm.1 9) (nI t) F) (i + 1)), nI ((nx D (fun t => ak (hm.1 9) (nI t) F) (i + 1)).elim 0 (fun t => ak (hm.1 9) (nI t) F)), oI (nx (fun _ => true) (fun t => ak (hm.1 9) (nI t) F) (i + 1)), nI ((nx (fun _ => true) (fun t => ak (hm.1 9) (nI t) F) (i + 1)).elim 0 (fun t => ak (hm.1 9) (nI t) F)))) (fun i s => s = (oI (nx D (fun t => ak (hm.1 9) (nI t) F) i), nI ((nx D (fun t => ak (hm.1 9) (nI t) F) i).elim 0 (fun t => ak (hm.1 9) (nI t) F)), oI (nx (fun _ => true) (fun t => ak (hm.1 9) (nI t) F) i), nI ((nx (fun _ => true) (fun t => ak (hm.1 9) (nI t) F) i).elim 0 (fun t => ak (hm.1 9) (nI t) F)))) T (by omega) (fun m i s hi hv => ⟨by
    have g1 := nI_ge hi (show T < 2 ^ 31 by omega)
    have ki : ∀ t, ak (hm.1 9) (nI t) F ≤ F := fun t => ak_le (hm.1 9) (nI t) F
    have kA := nx_el (D := D) ki i
    have kC := nx_el (D := fun _ => true) ki i
    have kii := ki i
    have hdi := hD i hi
    subst hv
    show f7_nextServed_L12 a hx _ (m + 1) (oI (nx D (fun t => ak (hm.1 9) (nI t) F) i)) (nI ((nx D (fun t => ak (hm.1 9) (nI t) F) i).elim 0 (fun t => ak (hm.1 9) (nI t) F))) (oI (nx (fun _ => true) (fun t => ak (hm.1 9) (nI t) F) i)) (nI ((nx (fun _ => true) (fun t => ak (hm.1 9) (nI t) F) i).elim 0 (fun t => ak (hm.1 9) (nI t) F))) (nI i) = f7_nextServed_L12 a hx _ m (oI (nx D (fun t => ak (hm.1 9) (nI t) F) (i + 1))) (nI ((nx D (fun t => ak (hm.1 9) (nI t) F) (i + 1)).elim 0 (fun t => ak (hm.1 9) (nI t) F))) (oI (nx (fun _ => true) (fun t => ak (hm.1 9) (nI t) F) (i + 1))) (nI ((nx (fun _ => true) (fun t => ak (hm.1 9) (nI t) F) (i + 1)).elim 0 (fun t => ak (hm.1 9) (nI t) F))) (nI (i + 1))
    simp only [f7_nextServed_L12, q.Tx, g1, if_false, (q.askedOnC (nI i)).1, bind_s, q8 (show i < 8 by omega), ix_nI (show i < 2 ^ 31 by omega), qg_t, qj_e, qlt_e, nI_1, nx, true_and]
    generalize nx D (fun t => ak (hm.1 9) (nI t) F) i = oA at kA ⊢
    generalize nx (fun _ => true) (fun t => ak (hm.1 9) (nI t) F) i = oC at kC ⊢
    have zC : (nI (ak (hm.1 9) (nI i) F) ≤ nI (oC.elim 0 (fun t => ak (hm.1 9) (nI t) F)) ∧ ¬ oC.elim 0 (fun t => ak (hm.1 9) (nI t) F) < ak (hm.1 9) (nI i) F) ∨ (¬ nI (ak (hm.1 9) (nI i) F) ≤ nI (oC.elim 0 (fun t => ak (hm.1 9) (nI t) F)) ∧ oC.elim 0 (fun t => ak (hm.1 9) (nI t) F) < ak (hm.1 9) (nI i) F) := by
      by_cases h3 : ak (hm.1 9) (nI i) F ≤ oC.elim 0 (fun t => ak (hm.1 9) (nI t) F)
      · exact Or.inl ⟨nI_le h3 (by omega), by omega⟩
      · exact Or.inr ⟨nI_ge (by omega) (by omega), by omega⟩
    have zA : (nI (ak (hm.1 9) (nI i) F) ≤ nI (oA.elim 0 (fun t => ak (hm.1 9) (nI t) F)) ∧ ¬ oA.elim 0 (fun t => ak (hm.1 9) (nI t) F) < ak (hm.1 9) (nI i) F) ∨ (¬ nI (ak (hm.1 9) (nI i) F) ≤ nI (oA.elim 0 (fun t => ak (hm.1 9) (nI t) F)) ∧ oA.elim 0 (fun t => ak (hm.1 9) (nI t) F) < ak (hm.1 9) (nI i) F) := by
      by_cases h3 : ak (hm.1 9) (nI i) F ≤ oA.elim 0 (fun t => ak (hm.1 9) (nI t) F)
      · exact Or.inl ⟨nI_le h3 (by omega), by omega⟩
      · exact Or.inr ⟨nI_ge (by omega) (by omega), by omega⟩
    by_cases hdr : hx.1 (a + 1) i = -1
    · have hd : D i = false := by
        cases e : D i with
        | false => rfl
        | true => exact absurd hdr (hdi.1 e)
      rcases zC with ⟨c1, c2⟩ | ⟨c1, c2⟩ <;> simp only [hdr, hd, c1, c2, if_true, if_false, false_and, Bool.false_eq_true, Option.elim_some, oI_some]
    · have hd := hdi.2 hdr
      rcases zC with ⟨c1, c2⟩ | ⟨c1, c2⟩ <;> rcases zA with ⟨c3, c4⟩ | ⟨c3, c4⟩ <;> simp only [hdr, hd, c1, c2, c3, c4, if_true, if_false, true_and, and_false, and_true, Option.elim_some, oI_some], rfl⟩) (fun m s _ => by
    show f7_nextServed_L12 a hx _ (m + 1) s.1 s.2.1 s.2.2.1 s.2.2.2 (nI T) = _
    rw [f7_nextServed_L12, q.Tx, if_pos (nI_le (Nat.le_refl _) (by omega)), qlt_e]) (-1, 0, -1, 0) rfl
  rw [h2] at h1
  exact h1
theorem QQ.next (q : QQ T r B F hx a hm) : ∃ o : Option Nat, f7_nextServed a hx = some (oI o) ∧ f9_nextTape hm = some (oI o) ∧ (∀ b, o = some b → b < T ∧ 0 < ak (hm.1 9) (nI b) F) ∧ (o = none ↔ nask (hm.1 9) F = 0) := by
  have hT := q.t31
  let D : Nat → Bool := fun t => decide (¬ hx.1 (a + 1) t = -1)
  have hD : ∀ t, t < T → (D t = true ↔ ¬ hx.1 (a + 1) t = -1) := fun t _ => decide_eq_true_iff
  have e1 := q.nextX D hD
  have hsum := q.2.2.2.2.sum hT.1 F (Nat.le_refl _)
  have hpos : ∀ b, b < T → 0 < ak (hm.1 9) (nI b) F → ¬ nask (hm.1 9) F = 0 := fun b hb h0 => by
    have : ak (hm.1 9) (nI b) F ≤ sm (fun t => ak (hm.1 9) (nI t) F) T := sm_ge (f := fun t => ak (hm.1 9) (nI t) F) hb
    omega
  have key : ∀ m, f9_nextTape_L4 hm (fun x29 _ => some x29) (m + 3) (-1) 0 = some (if oI (nx D (fun t => ak (hm.1 9) (nI t) F) T) = -1 then oI (nx (fun _ => true) (fun t => ak (hm.1 9) (nI t) F) T) else oI (nx D (fun t => ak (hm.1 9) (nI t) F) T)) := by
    intro m
    rw [f9_nextTape_L4, if_neg (show ¬ (2 : Int32) ≤ 0 by decide), if_pos rfl, q.nextL 0 D (fun t ht => by rw [hD t ht]; exact ⟨Or.inr, fun h => h.elim (fun h => absurd h (by decide)) id⟩), qlt_e, f9_nextTape_L4, if_neg (show ¬ (2 : Int32) ≤ 0 + 1 by decide)]
    by_cases h1 : oI (nx D (fun t => ak (hm.1 9) (nI t) F) T) = -1
    · rw [if_pos h1, if_pos h1, h1, q.nextL (0 + 1) (fun _ => true) (fun t ht => ⟨fun _ => Or.inl (by decide), fun _ => rfl⟩), qlt_e, f9_nextTape_L4, if_pos (show (2 : Int32) ≤ 0 + 1 + 1 by decide)]
    · rw [if_neg h1, if_neg h1]
  have e2 : f9_nextTape hm = some (if oI (nx D (fun t => ak (hm.1 9) (nI t) F) T) = -1 then oI (nx (fun _ => true) (fun t => ak (hm.1 9) (nI t) F) T) else oI (nx D (fun t => ak (hm.1 9) (nI t) F) T)) := by
    unfold f9_nextTape
    obtain ⟨m, e⟩ : ∃ m, qN = m + 3 := ⟨qN - 3, by have := qN_ge; omega⟩
    rw [e]
    exact key m
  rw [e1, e2]
  cases hn : nx D (fun t => ak (hm.1 9) (nI t) F) T with
  | some b =>
    have hb := nx_some hn
    have h1 : ¬ oI (some b) = -1 := nI_m1 (show b < 2 ^ 31 by omega)
    rw [if_neg h1]
    exact ⟨some b, rfl, rfl, fun c hc => by cases hc; exact ⟨hb.1, hb.2.2⟩, by simp, fun h => absurd h (hpos b hb.1 hb.2.2)⟩
  | none =>
    rw [if_pos (show oI none = -1 from rfl)]
    cases hn2 : nx (fun _ => true) (fun t => ak (hm.1 9) (nI t) F) T with
    | some b =>
      have hb := nx_some hn2
      exact ⟨some b, rfl, rfl, fun c hc => by cases hc; exact ⟨hb.1, hb.2.2⟩, by simp, fun h => absurd h (hpos b hb.1 hb.2.2)⟩
    | none =>
      refine ⟨none, rfl, rfl, (fun c hc => by cases hc), fun _ => ?_, fun _ => rfl⟩
      rw [← hsum]
      exact sm_0 fun t ht => nx_none hn2 t ht rfl
theorem QQ.rAsk (q : QQ T r B F hx a hm) (x : Int32) : ∃ w, f7_askingRefusal a x hx = some w ∧ f9_whyAsk x hm = some w ∧ isW w ∧ (w = -1 → ∃ f, f < F ∧ x = nI f ∧ hm.1 9 (120 + f) = 1 ∧ hm.1 9 (144 + f) = 0 ∧ nask (hm.1 9) F < 12) := by
  have hT := q.t31
  have h12 := q.2.2.2.2.2.2.2.2.2.2
  unfold f7_askingRefusal f9_whyAsk
  rcases q.isThere x with ⟨f, hf, rfl, hne, e1, e2⟩ | ⟨e1, e2⟩
  · obtain ⟨e7, e8, e9, e10, e11⟩ := q.fl hf
    simp only [e1, e2, bind_s, q1f, if_false, qj_e, qlt_e, q24 (show f < 24 by omega), ix_nI (show f < 2 ^ 31 by omega), qg_t, la_120, la_144, q353 (show 120 + f < 353 by omega), i353 (show 120 + f < 353 by omega), q353 (show 144 + f < 353 by omega), i353 (show 144 + f < 353 by omega), e10, e11, q.ask hf, q.askedAll.1, q.askedAll.2]
    by_cases h1 : hm.1 9 (120 + f) = 0
    · simp only [h1, if_true]
      exact ⟨2, rfl, rfl, isW_2, fun h => absurd h n2m⟩
    · by_cases h2 : hm.1 9 (144 + f) = 0
      · simp only [h1, h2, if_true, if_false]
        by_cases h3 : nask (hm.1 9) F = 12
        · rw [h3, if_neg (show ¬ nI 12 < 12 by decide), if_pos (show nI 12 = 12 by decide)]
          exact ⟨3, rfl, rfl, isW_3, fun h => absurd h n3m⟩
        · rw [if_pos (show nI (nask (hm.1 9) F) < 12 from nI_lt (b := 12) (by omega) (by omega)), if_neg (show ¬ nI (nask (hm.1 9) F) = 12 from fun h => h3 (nI_inj (b := 12) (by omega) (by omega) h))]
          refine ⟨-1, rfl, rfl, isW_m, fun _ => ⟨f, hf, rfl, ?_, h2, by omega⟩⟩
          rcases q.kn hf with ⟨-, h9⟩ | ⟨-, h9 | h9⟩
          · exact absurd h9 h1
          · exact absurd h9 h1
          · exact h9
      · simp only [h1, h2, if_false]
        exact ⟨2, rfl, rfl, isW_2, fun h => absurd h n2m⟩
  · simp only [e1, e2, bind_s, if_true]
    exact ⟨0, rfl, rfl, isW_0, fun h => absurd h n0m⟩
theorem f9_in19 (y : Int32) (n : Nat) (hn : n < 2 ^ 31) : (∃ c, 1 ≤ c ∧ c ≤ n ∧ y = nI c ∧ ¬ y < 1 ∧ y ≤ nI n ∧ ¬ nI n < y) ∨ (y < 1 ∨ ¬ y < 1 ∧ nI n < y ∧ ¬ y ≤ nI n) := by
  by_cases h1 : y < 1
  · exact Or.inr (Or.inl h1)
  · have h0 : ¬ y < 0 := fun h => h1 (by
      rw [Int32.lt_iff_toInt_lt] at h ⊢
      have e0 : (0 : Int32).toInt = 0 := rfl
      have e1 : (1 : Int32).toInt = 1 := rfl
      rw [e0] at h
      rw [e1]
      omega)
    obtain ⟨k, hk, rfl⟩ := nI_of h0
    have h2 : 1 ≤ k := by
      by_cases hz : k = 0
      · subst hz
        exact absurd (show nI 0 < 1 by decide) h1
      · omega
    by_cases h3 : k ≤ n
    · exact Or.inl ⟨k, h2, h3, rfl, h1, nI_le h3 (by omega), nI_nlt h3 (by omega)⟩
    · exact Or.inr (Or.inr ⟨h1, nI_lt (by omega) hk, nI_ge (by omega) hk⟩)
theorem QQ.rWrite (q : QQ T r B F hx a hm) (x y : Int32) : ∃ w, f7_writingRefusal a x y hx = some w ∧ f9_whyWrite x y hm = some w ∧ isW w ∧ (w = -1 → ∃ t c, t < T ∧ x = nI t ∧ y = nI c ∧ F < 24 ∧ 1 ≤ c ∧ c ≤ 9 ∧ ix (hm.1 9 (16 + t)) + c ≤ r 2 * r 3) := by
  have hT := q.t31
  have hL := q.L96
  unfold f7_writingRefusal f9_whyWrite
  rcases q.isTape x with ⟨t, ht, rfl, e1, e2⟩ | ⟨e1, e2⟩
  · rcases f9_in19 y 9 (by omega) with ⟨c, c1, c9, rfl, n1, n2, n3⟩ | h
    · have n2 : nI c ≤ 9 := n2
      have n3 : ¬ (9 : Int32) < nI c := n3
      obtain ⟨-, e3, -⟩ := q.tp ht
      have een := (q.2.2.2.2.2.1 t ht).1
      have ele := (q.2.2.2.2.2.1 t ht).2.1
      have een : hm.1 9 (16 + t) = nI (ix (hm.1 9 (16 + t))) := een
      simp only [e1, e2, bind_s, q1f, if_false, n1, n2, n3, if_true, f9_in_eq, qj_e, qlt_e, q.Fx, q.Fm]
      by_cases hF : F = 24
      · rw [if_pos (show (24 : Int32) ≤ nI F by rw [hF]; decide), if_pos (show nI F = 24 by rw [hF]; decide)]
        exact ⟨3, rfl, rfl, isW_3, fun h => absurd h n3m⟩
      · rw [if_neg (show ¬ (24 : Int32) ≤ nI F from nI_ge (b := 24) (by omega) (by omega)), if_neg (show ¬ nI F = 24 from fun h => hF (nI_inj (b := 24) (by omega) (by omega) h))]
        have er : f7_hasRoom a (nI t) (nI c) hx = some (if ix (hm.1 9 (16 + t)) + c ≤ r 2 * r 3 then 1 else 0) := by
          unfold f7_hasRoom
          rw [q8 (show t < 8 by omega), qg_t, ix_nI (by omega), e3, q.2.1.2.2.1, een, nI_add, qlt_e, ix_nI (isN_lt _)]
          by_cases h5 : ix (hm.1 9 (16 + t)) + c ≤ r 2 * r 3
          · rw [if_neg (nI_nlt h5 (by omega)), if_pos h5]
            rfl
          · rw [if_pos (nI_lt (by omega) (by omega)), if_neg h5]
            rfl
        have eb : f9_blocksOfTape hm = some (nI (r 2 * r 3)) := by
          unfold f9_blocksOfTape
          rw [q.rm (by omega), q.rm (by omega), nI_mul]
        rw [er, eb, bind_s, la_16, q353 (show 16 + t < 353 by omega), i353 (show 16 + t < 353 by omega), qg_t, bind_s]
        have hle : hm.1 9 (16 + t) + nI c ≤ nI (r 2 * r 3) ↔ ix (hm.1 9 (16 + t)) + c ≤ r 2 * r 3 := by
          conv => lhs; lhs; rw [een, nI_add]
          exact nI_leI (by omega) (by omega)
        by_cases h5 : ix (hm.1 9 (16 + t)) + c ≤ r 2 * r 3
        · rw [if_pos h5, if_neg q1f, if_pos (hle.2 h5)]
          exact ⟨-1, rfl, rfl, isW_m, fun _ => ⟨t, c, ht, rfl, rfl, by omega, c1, c9, h5⟩⟩
        · rw [if_neg h5, if_pos rfl, if_neg (fun h => h5 (hle.1 h))]
          exact ⟨3, rfl, rfl, isW_3, fun h => absurd h n3m⟩
    · simp only [e1, e2, bind_s, q1f, if_false, f9_in_eq, qj_e, qlt_e]
      rcases h with h | ⟨h1, h2, h3⟩
      · simp only [h, if_true]
        exact ⟨1, rfl, rfl, isW_1, fun h => absurd h n1m⟩
      · have h2 : (9 : Int32) < y := h2
        have h3 : ¬ y ≤ 9 := h3
        simp only [h1, h2, h3, if_true, if_false]
        exact ⟨1, rfl, rfl, isW_1, fun h => absurd h n1m⟩
  · simp only [e1, e2, bind_s, if_true, qj_e]
    exact ⟨0, rfl, rfl, isW_0, fun h => absurd h n0m⟩
theorem QQ.rCopy (q : QQ T r B F hx a hm) (x y : Int32) : ∃ w, f7_copyingRefusal a x y hx = some w ∧ f9_whyCopy x y hm = some w ∧ isW w ∧ (w = -1 → ∃ t o, t < T ∧ o < T ∧ x = nI t ∧ y = nI o ∧ t ≠ o ∧ hm.1 9 (16 + o) = 0) := by
  have hT := q.t31
  unfold f7_copyingRefusal f9_whyCopy
  rcases q.isTape x with ⟨t, ht, rfl, e1, e2⟩ | ⟨e1, e2⟩
  · rcases q.isTape y with ⟨o, ho, rfl, e3, e4⟩ | ⟨e3, e4⟩
    · obtain ⟨-, e5, -⟩ := q.tp ho
      have een := (q.2.2.2.2.2.1 o ho).1
      have hlt := isN_le0 een
      have h0 : (0 < hm.1 9 (16 + o)) ↔ ¬ hm.1 9 (16 + o) = 0 := by
        rw [een]
        constructor
        · intro h h9
          rw [h9] at h
          exact absurd h (by decide)
        · intro h
          refine nI_lt (a := 0) ?_ (isN_lt _)
          refine Nat.pos_of_ne_zero fun h9 => h ?_
          rw [h9]; rfl
      simp only [e1, e2, e3, e4, bind_s, q1f, if_false, qj_e, q8 (show o < 8 by omega), ix_nI (show o < 2 ^ 31 by omega), qg_t, la_16, q353 (show 16 + o < 353 by omega), i353 (show 16 + o < 353 by omega), e5, (q.filesOnC (nI t)).1, (q.filesOnC (nI t)).2, h0]
      by_cases hto : nI t = nI o
      · simp only [hto, if_true]
        exact ⟨2, rfl, rfl, isW_2, fun h => absurd h n2m⟩
      · by_cases h1 : hm.1 9 (16 + o) = 0
        · simp only [hto, h1, not_true, if_true, if_false]
          by_cases h2 : nI (fon (hm.1 9) (nI t) F) = 0
          · simp only [h2, if_true]
            exact ⟨2, rfl, rfl, isW_2, fun h => absurd h n2m⟩
          · simp only [h2, if_false]
            exact ⟨-1, rfl, rfl, isW_m, fun _ => ⟨t, o, ht, ho, rfl, rfl, fun e => hto (by rw [e]), h1⟩⟩
        · simp only [hto, h1, not_false_eq_true, if_true, if_false]
          exact ⟨2, rfl, rfl, isW_2, fun h => absurd h n2m⟩
    · simp only [e1, e2, e3, e4, bind_s, q1f, if_false, if_true, qj_e]
      exact ⟨0, rfl, rfl, isW_0, fun h => absurd h n0m⟩
  · simp only [e1, e2, bind_s, if_true, qj_e]
    exact ⟨0, rfl, rfl, isW_0, fun h => absurd h n0m⟩
theorem QQ.rRescue (q : QQ T r B F hx a hm) : ∃ z w, f7_canRescue a hx = some z ∧ (if z = 0 then (2 : Int32) else -1) = w ∧ f9_whyRescue hm = some w ∧ isW w := by
  have hT := q.t31
  obtain ⟨v, hv, i1, i2⟩ := q.weakS
  unfold f7_canRescue f9_whyRescue
  rw [i1, i2, q.told.2, bind_s, bind_s, if_neg q1f, bind_s]
  have main : ∀ d i m1 m2, i + d = T → d < m1 → d < m2 → ∃ z w, f7_canRescue_L7 a v hx (fun _ => some 0) m1 (nI i) = some z ∧ (if z = 0 then (2 : Int32) else -1) = w ∧ f9_whyRescue_L16 v hm (fun _ => some 2) m2 (nI i) = some w ∧ isW w := by
    intro d
    induction d with
    | zero =>
      intro i m1 m2 hi h1 h2
      obtain ⟨k1, rfl⟩ : ∃ k, m1 = k + 1 := ⟨m1 - 1, by omega⟩
      obtain ⟨k2, rfl⟩ : ∃ k, m2 = k + 1 := ⟨m2 - 1, by omega⟩
      have e : i = T := by omega
      subst e
      rw [f7_canRescue_L7, f9_whyRescue_L16, q.Tx, q.Tm, if_pos (nI_le (Nat.le_refl _) (by omega)), if_pos (nI_le (Nat.le_refl _) (by omega))]
      exact ⟨0, 2, rfl, rfl, rfl, isW_2⟩
    | succ d ih =>
      intro i m1 m2 hi h1 h2
      obtain ⟨k1, rfl⟩ : ∃ k, m1 = k + 1 := ⟨m1 - 1, by omega⟩
      obtain ⟨k2, rfl⟩ : ∃ k, m2 = k + 1 := ⟨m2 - 1, by omega⟩
      have hi' : i < T := by omega
      have g1 := nI_ge hi' (show T < 2 ^ 31 by omega)
      have hbit := isSet_has hv hT.1 hi'
      have IH := ih (i + 1) k1 k2 (by omega) (by omega) (by omega)
      by_cases hp : ¬ hm.1 9 (24 + i) ≤ nI (r 6) ∧ ∃ c, 0 < c ∧ c ≤ F ∧ f9_filesOn (nI i) hm = some (nI c)
      · have hb := hbit.2 hp
        have hh : f9_has v (nI i) hm = some 1 := by
          unfold f9_has
          simp only [hb, if_true, qlt_e, qbo_1, qg_t]
        obtain ⟨-, c, hc0, hcF, ec⟩ := hp
        obtain ⟨c', s, hc', hs, j1, j2, j3, j4⟩ := q.target (nI i)
        have hcc : c' = c := by
          rw [ec] at j2
          exact (nI_inj (by omega) (by omega) (Option.some.inj j2)).symm
        subst hcc
        rw [if_neg (by omega)] at j4
        simp only [f7_canRescue_L7, f9_whyRescue_L16, q.Tx, q.Tm, g1, if_false, hb, if_true, hh, bind_s, j3, j4, q1f, qlt_e, nI_1]
        by_cases hs1 : s = -1
        · simp only [hs1, if_true]
          exact IH
        · simp only [hs1, if_false]
          exact ⟨1, -1, rfl, rfl, rfl, isW_m⟩
      · have hb : ¬ ((v >>> (nI i &&& 31)) &&& 1 = 1) := fun h => hp (hbit.1 h)
        have hh : f9_has v (nI i) hm = some 0 := by
          unfold f9_has
          simp only [hb, if_false, qlt_e, qbo_0, qg_t]
        simp only [f7_canRescue_L7, f9_whyRescue_L16, q.Tx, q.Tm, g1, if_false, hb, if_true, hh, bind_s, qlt_e, nI_1]
        exact IH
  exact main T 0 qN qN (by omega) (qN_lt (by omega)) (qN_lt (by omega))
end PP
