theorem akd_pos {N : Nat → Int32} {t g : Nat} {D : Nat → Bool} (h1 : ia N t g = true) (h2 : D g = false) : ∀ {n : Nat}, g < n → 0 < akd N t D n
  | 0, h => by omega
  | n + 1, h => by
    show 0 < akd N t D n + if (ia N t n && !D n) = true then 1 else 0
    by_cases e : g = n
    · subst e; rw [if_pos (by simp [h1, h2])]; omega
    · have := akd_pos (D := D) h1 h2 (n := n) (by omega)
      omega
theorem sq_all {N : Nat → Int32} {r : Nat → Nat} {F t o p0 f : Nat} (hf : f < F) (h : ia N t f = true) : ∃ j, j < ak N (nI t) F ∧ sb N r F t o (sq N r F t o p0 j) = f := by
  obtain ⟨h1, h2⟩ := sq_inv N r F t o p0 (ak N (nI t) F) (Nat.le_refl _)
  refine (h2 f).mp ?_
  cases e : (sq N r F t o p0 (ak N (nI t) F)).2.2 f with
  | true => rfl
  | false =>
    have := akd_pos h e hf
    omega
theorem sq_mem {N : Nat → Int32} {r : Nat → Nat} {F t o p0 j : Nat} (hj : j < ak N (nI t) F) : sb N r F t o (sq N r F t o p0 j) < F ∧ ia N t (sb N r F t o (sq N r F t o p0 j)) = true ∧ (sq N r F t o p0 j).2.2 (sb N r F t o (sq N r F t o p0 j)) = false := by
  obtain ⟨h1, h2⟩ := sq_inv N r F t o p0 j (by omega)
  obtain ⟨p1, p2, p3, -⟩ := pk_some (sq_pk h1 hj)
  exact ⟨p1, p2, p3⟩
theorem sq_ne {N : Nat → Int32} {r : Nat → Nat} {F t o p0 i j : Nat} (hij : i < j) (hj : j < ak N (nI t) F) : sb N r F t o (sq N r F t o p0 i) ≠ sb N r F t o (sq N r F t o p0 j) := by
  intro e
  have h1 := (sq_mem (r := r) (o := o) (p0 := p0) hj).2.2
  have h2 := ((sq_inv N r F t o p0 j (by omega)).2 _).mpr ⟨i, hij, e⟩
  rw [h1] at h2
  cases h2
section PY
variable {T B F a : Nat} {r : Nat → Nat} {hx hm : qH}
theorem QQ.serve (q : QQ T r B F hx a hm) (ka : kStage a) (hn : ¬ nask (hm.1 9) F = 0) : ∃ (t : Nat) (hx' hm' : qH), t < T ∧ 0 < ak (hm.1 9) (nI t) F ∧ f7_serveNext a hx = some (nI t, hx') ∧ f9_servesNow hm = some (nI t, hm') ∧ OP T r B F a hx hm hx' hm' ∧ (∀ f, f < F → hm'.1 9 (48 + f) = hm.1 9 (48 + f)) ∧ ∀ f, f < F → hm'.1 9 (144 + f) = if ia (hm.1 9) t f = true then 0 else hm.1 9 (144 + f) := by
  have hT := q.t31
  have hL96 := q.L96
  have b7 := q.1.2.2.2.2.2.2.1
  have hlo := ka.lo
  obtain ⟨o, n1, n2, n3, n4⟩ := q.next
  cases o with
  | none => exact absurd (n4.mp rfl) hn
  | some t =>
    obtain ⟨ht, hak⟩ := n3 t rfl
    rw [oI_some] at n1 n2
    obtain ⟨d, h1, m1, hd, b1, b2, o1, k1, d1⟩ := q.brings ka ht
    have q1 := o1.1
    obtain ⟨p0, hp0, e1, e2⟩ := q1.headOf ht
    obtain ⟨g, h2, g1, ga, g2, g3, g4⟩ := q1.gather ka ht
    have hX2 : HX T r h2 := by
      have := q1.2.1
      unfold HX at this ⊢
      rw [g3 6 (by omega), g3 7 (by omega), g3 12 (by omega), g3 13 (by omega)]
      exact this
    have h12 := q1.ak12 ht
    obtain ⟨w, a1, a2⟩ := arrange hX2 q1.1 q1.2.2.2.2 ga (show t < 2 ^ 31 by omega) h12 hp0 (g2.trans e2)
    obtain ⟨wb, xb, c1⟩ := q1.best ht hp0 e2
    have c2 : f9_headOf (nI t) (hL m1 wb xb) = some (nI p0) := by
      obtain ⟨p1, h1, h2, h3⟩ := (q1.hL9 wb xb).headOf ht
      rw [e2] at h3
      rw [h2, nI_inj (by omega) (by omega) h3]
    obtain ⟨w', c3, c4⟩ := (q1.hL9 wb xb).lays ht (bo_lt (So (m1.1 9) r F t p0)) hp0
    rw [hL_o (show (9 : Nat) ≠ 0 by omega) (show (9 : Nat) ≠ 11 by omega), hL_hL] at c3
    rw [hL_o (show (9 : Nat) ≠ 0 by omega) (show (9 : Nat) ≠ 11 by omega)] at c4
    have o2 : OP T r B F a h1 m1 (qrow h2 48 w) (hL m1 w' (nI (ak (m1.1 9) (nI t) F))) := by
      have o := q1.gx ka (hx' := qrow h2 48 w) (fun b hb => by rw [qrow_ne (by omega), g3 b (by omega)]) g4
      exact ⟨o.1.hL9 _ _, o.2.1, hL_fm, by rw [hL_0, upd_ne (by omega)]; exact o.2.2.2⟩
    have e9 : (hL m1 w' (nI (ak (m1.1 9) (nI t) F))).1 9 = m1.1 9 := hL_o (by omega) (by omega)
    obtain ⟨⟨h4, m4⟩, ⟨o3, r1, r2⟩, l1, l2⟩ := o2.1.serveL ka (t := t) (d := d) (C := ak (m1.1 9) (nI t) F) (m := fun j => sb (m1.1 9) r F t (bo (So (m1.1 9) r F t p0)) (sq (m1.1 9) r F t (bo (So (m1.1 9) r F t p0)) p0 j)) ht (by rw [qrow_ne (by omega), g3 _ (by omega)]; exact d1) (by omega) h12 (fun j hj => by rw [e9]; exact ⟨(sq_mem hj).1, (sq_mem hj).2.1⟩) (fun i j hij hj => sq_ne hij hj) (by rw [qrow_ne (by omega)]; exact ga.1) (fun j hj => by
      obtain ⟨k, k1, k2, k3⟩ := a2 j hj
      refine ⟨k, by omega, by rw [qrow_at]; exact k2, ?_⟩
      rw [qrow_ne (by omega), (ga.2.1 k k1).1, k3]) hL_20 (fun j hj => by rw [hL_11]; exact c4 j hj) (fun _ h15 => some (nI t, h15)) (fun _ h16 => some (nI t, h16))
    rw [e9] at r1 r2
    refine ⟨t, h4, m4, ht, hak, ?_, ?_, (o1.tr o2).tr o3, fun f hf => ?_, fun f hf => ?_⟩
    · unfold f7_serveNext
      rw [n1, bind_s, if_neg (nI_m1 (by omega)), b1, qb2_s, g1, bind_s, a1, bind_s]
      exact l1
    · unfold f9_servesNow
      rw [n2, bind_s, b2, bind_s, c1, qb2_s, c2, bind_s, c3, qb2_s]
      exact l2
    · have h9 : m4.1 9 (48 + f) = m1.1 9 (48 + f) := r1 f hf
      rw [h9, k1 _ (by omega)]
    · have hia : ia (m1.1 9) t f = ia (hm.1 9) t f := by
        unfold ia
        rw [k1 _ (by omega), k1 _ (by omega)]
      have r2' : ((∃ j, j < ak (m1.1 9) (nI t) F ∧ sb (m1.1 9) r F t (bo (So (m1.1 9) r F t p0)) (sq (m1.1 9) r F t (bo (So (m1.1 9) r F t p0)) p0 j) = f) → m4.1 9 (144 + f) = 0) ∧ ((∀ j, j < ak (m1.1 9) (nI t) F → sb (m1.1 9) r F t (bo (So (m1.1 9) r F t p0)) (sq (m1.1 9) r F t (bo (So (m1.1 9) r F t p0)) p0 j) ≠ f) → m4.1 9 (144 + f) = m1.1 9 (144 + f)) := r2 f hf
      by_cases hc : ia (hm.1 9) t f = true
      · rw [if_pos hc]
        rw [← hia] at hc
        exact r2'.1 (sq_all hf hc)
      · rw [if_neg hc]
        rw [← hia] at hc
        rw [r2'.2 (fun j hj e => hc (by rw [← e]; exact (sq_mem hj).2.1)), k1 _ (by omega)]
/-- when an act can be -/
def Can (T : Nat) (r : Nat → Nat) (F : Nat) (N : Nat → Int32) (s : Nat) (x y : Int32) : Prop :=
  (s = 0 → ∃ f, f < F ∧ x = nI f ∧ N (120 + f) = 1 ∧ N (144 + f) = 0 ∧ nask N F < 12) ∧ (s = 1 → ¬ nask N F = 0) ∧
  (s = 2 → ∃ t c, t < T ∧ x = nI t ∧ y = nI c ∧ F < 24 ∧ 1 ≤ c ∧ c ≤ 9 ∧ ix (N (16 + t)) + c ≤ r 2 * r 3) ∧
  (s = 3 → ∃ f, f < F ∧ x = nI f) ∧ (s = 4 → ∃ t, t < T ∧ x = nI t ∧ N t = nI t) ∧ (s = 5 → ∃ t, t < T ∧ x = nI t ∧ ¬ N t = nI t) ∧
  (s = 6 → ∃ t o, t < T ∧ o < T ∧ x = nI t ∧ y = nI o ∧ t ≠ o ∧ N (16 + o) = 0) ∧ (s = 8 → ∃ t, t < T ∧ x = nI t)
/-- what both are given -/
def Arg (s : Nat) (x y x' y' : Int32) : Prop := (s ≠ 1 → s ≠ 7 → s ≠ 10 → x = x') ∧ (s = 2 ∨ s = 6 → y = y')
theorem QQ.slot (q : QQ T r B F hx a hm) {t : Nat} (ht : t < T) : hx.1 (a + 1) t = -1 ↔ hm.1 9 t = nI t := by
  have hT := q.t31
  have b3 := q.1.2.2.1
  have b5 := q.1.2.2.2.2.1
  have b7 := q.1.2.2.2.2.2.2.1
  rcases (q.tp ht).1 with ⟨h1, -, h3, -⟩ | ⟨d, hd, h1, h2, -⟩
  · exact ⟨fun _ => h3, fun _ => h1⟩
  · constructor
    · intro h
      rw [h] at h1
      exact absurd h1.symm (nI_m1 (by omega))
    · intro h
      rw [h] at h2
      have := (nI_eq (by omega) (by omega)).mp h2
      omega
theorem QQ.refuse (q : QQ T r B F hx a hm) {s : Nat} {x y x' y' : Int32} (hs : s ≤ 10) (ha : Arg s x y x' y') : ∃ w, f7_refusal a (nI s) x y hx = some w ∧ f9_whyNot (nI s) x' y' hm = some w ∧ isW w ∧ (w = -1 → Can T r F (hm.1 9) s x y) := by
  have hT := q.t31
  have tld := q.told
  have dri : ∀ {t : Nat}, t < T → f9_isDriven (nI t) hm = some (if hx.1 (a + 1) t = -1 then 0 else 1) := fun ht => q.dr ht
  unfold f7_refusal f9_whyNot
  rcases (show s = 0 ∨ s = 1 ∨ s = 2 ∨ s = 3 ∨ s = 4 ∨ s = 5 ∨ s = 6 ∨ s = 7 ∨ s = 8 ∨ s = 9 ∨ s = 10 by omega) with rfl | rfl | rfl | rfl | rfl | rfl | rfl | rfl | rfl | rfl | rfl
  · have e := ha.1 (by omega) (by omega) (by omega)
    subst e
    obtain ⟨w, h1, h2, h3, h4⟩ := q.rAsk x
    rw [if_pos (by decide), if_pos (by decide), h1, h2]
    simp only [bind_s]
    exact ⟨w, rfl, rfl, h3, fun e => ⟨fun _ => h4 e, by omega, by omega, by omega, by omega, by omega, by omega, by omega⟩⟩
  · obtain ⟨o, n1, n2, n3, n4⟩ := q.next
    rw [if_neg (by decide), if_neg (by decide), if_neg (by decide), if_neg (by decide), if_neg (by decide), if_neg (by decide), if_neg (by decide), if_neg (by decide), if_pos (by decide), tld.1, tld.2, bind_s, bind_s, qj_e, qj_e, if_neg q1f, if_neg q1f]
    unfold f7_hallRefusal
    rw [if_pos (by decide), q.askedAll.1, n2, bind_s, bind_s, qlt_e, bind_s]
    cases o with
    | none =>
      have h9 := n4.mp rfl
      rw [h9]
      exact ⟨2, rfl, by rw [oI_none, if_pos rfl], isW_2, fun e => absurd e n2m⟩
    | some b =>
      have h9 : ¬ nask (hm.1 9) F = 0 := fun e => by cases n4.mpr e
      have h8 := nask_le (hm.1 9) F
      rw [if_neg (nI_ne0 (by omega) (by omega)), oI_some, if_neg (nI_m1 (by have := (n3 b rfl).1; omega))]
      exact ⟨-1, rfl, rfl, isW_m, fun _ => ⟨by omega, fun _ => h9, by omega, by omega, by omega, by omega, by omega, by omega⟩⟩
  · have e := ha.1 (by omega) (by omega) (by omega)
    have e' := ha.2 (Or.inl rfl)
    subst e
    subst e'
    obtain ⟨w, h1, h2, h3, h4⟩ := q.rWrite x y
    rw [if_neg (by decide), if_pos (by decide), if_neg (by decide), if_neg (by decide), if_pos (by decide), h1, h2]
    simp only [bind_s]
    exact ⟨w, rfl, rfl, h3, fun e => ⟨by omega, by omega, fun _ => h4 e, by omega, by omega, by omega, by omega, by omega⟩⟩
  · have e := ha.1 (by omega) (by omega) (by omega)
    subst e
    rw [if_neg (by decide), if_neg (by decide), if_pos (by decide), if_neg (by decide), if_neg (by decide), if_neg (by decide), if_pos (by decide)]
    rcases q.isThere x with ⟨k, hk, ek, -, h1, h2⟩ | ⟨h1, h2⟩
    · rw [h1, h2]
      simp only [bind_s, qlt_e]
      rw [if_neg q1f]
      exact ⟨-1, rfl, rfl, isW_m, fun _ => ⟨by omega, by omega, by omega, fun _ => ⟨k, hk, ek⟩, by omega, by omega, by omega, by omega⟩⟩
    · rw [h1, h2]
      simp only [bind_s, qlt_e]
      rw [if_pos trivial]
      exact ⟨0, rfl, rfl, isW_0, fun e => absurd e n0m⟩
  · have e := ha.1 (by omega) (by omega) (by omega)
    subst e
    rw [if_neg (by decide), if_neg (by decide), if_neg (by decide), if_pos (by decide), if_neg (by decide), if_neg (by decide), if_neg (by decide), if_neg (by decide), if_pos (by decide)]
    rcases q.isTape x with ⟨k, hk, rfl, h1, h2⟩ | ⟨h1, h2⟩
    · rw [h1, h2, bind_s, bind_s, qj_e, qj_e, if_neg q1f, if_neg q1f, q8 (show k < 8 by omega), qg_t, ix_nI (by omega), dri hk, bind_s]
      by_cases hd : hx.1 (a + 1) k = -1
      · rw [if_pos hd, if_pos hd, if_pos rfl]
        exact ⟨-1, rfl, rfl, isW_m, fun _ => ⟨by omega, by omega, by omega, by omega, fun _ => ⟨k, hk, rfl, (q.slot hk).mp hd⟩, by omega, by omega, by omega⟩⟩
      · rw [if_neg hd, if_neg hd, if_neg q1f]
        exact ⟨2, rfl, rfl, isW_2, fun e => absurd e n2m⟩
    · rw [h1, h2, bind_s, bind_s, qj_e, qj_e, if_pos rfl, if_pos rfl]
      exact ⟨0, rfl, rfl, isW_0, fun e => absurd e n0m⟩
  · have e := ha.1 (by omega) (by omega) (by omega)
    subst e
    rw [if_neg (by decide), if_neg (by decide), if_neg (by decide), if_neg (by decide), if_pos (by decide), if_neg (by decide), if_neg (by decide), if_neg (by decide), if_neg (by decide), if_neg (by decide), if_pos (by decide)]
    rcases q.isTape x with ⟨k, hk, rfl, h1, h2⟩ | ⟨h1, h2⟩
    · rw [h1, h2, bind_s, bind_s, qj_e, qj_e, if_neg q1f, if_neg q1f, q8 (show k < 8 by omega), qg_t, ix_nI (by omega), dri hk, bind_s]
      by_cases hd : hx.1 (a + 1) k = -1
      · rw [if_pos hd, if_pos hd, if_pos rfl]
        exact ⟨2, rfl, rfl, isW_2, fun e => absurd e n2m⟩
      · rw [if_neg hd, if_neg hd, if_neg q1f]
        exact ⟨-1, rfl, rfl, isW_m, fun _ => ⟨by omega, by omega, by omega, by omega, by omega, fun _ => ⟨k, hk, rfl, fun h9 => hd ((q.slot hk).mpr h9)⟩, by omega, by omega⟩⟩
    · rw [h1, h2, bind_s, bind_s, qj_e, qj_e, if_pos rfl, if_pos rfl]
      exact ⟨0, rfl, rfl, isW_0, fun e => absurd e n0m⟩
  · have e := ha.1 (by omega) (by omega) (by omega)
    have e' := ha.2 (Or.inr rfl)
    subst e
    subst e'
    obtain ⟨w, h1, h2, h3, h4⟩ := q.rCopy x y
    rw [if_neg (by decide), if_neg (by decide), if_neg (by decide), if_neg (by decide), if_neg (by decide), if_pos (by decide), if_neg (by decide), if_neg (by decide), if_neg (by decide), if_neg (by decide), if_neg (by decide), if_neg (by decide), if_pos (by decide), h1, h2]
    simp only [bind_s]
    exact ⟨w, rfl, rfl, h3, fun e => ⟨by omega, by omega, by omega, by omega, by omega, by omega, fun _ => h4 e, by omega⟩⟩
  · obtain ⟨c, hc, k1, k2⟩ := q.known
    rw [if_neg (by decide), if_neg (by decide), if_neg (by decide), if_neg (by decide), if_neg (by decide), if_neg (by decide), if_neg (by decide), if_neg (by decide), if_neg (by decide), if_neg (by decide), if_neg (by decide), if_neg (by decide), if_neg (by decide), if_neg (by decide), if_pos (by decide), tld.1, tld.2, bind_s, bind_s, qj_e, qj_e, if_neg q1f, if_neg q1f]
    unfold f7_hallRefusal
    rw [if_neg (by decide), if_pos (by decide), k1, k2, bind_s, bind_s, qlt_e, bind_s]
    by_cases h0 : nI c = 0
    · rw [if_pos h0, if_pos h0]
      exact ⟨2, rfl, rfl, isW_2, fun e => absurd e n2m⟩
    · rw [if_neg h0, if_neg h0]
      exact ⟨-1, rfl, rfl, isW_m, fun _ => ⟨by omega, by omega, by omega, by omega, by omega, by omega, by omega, by omega⟩⟩
  · have e := ha.1 (by omega) (by omega) (by omega)
    subst e
    rw [if_neg (by decide), if_neg (by decide), if_neg (by decide), if_neg (by decide), if_neg (by decide), if_neg (by decide), if_pos (by decide), if_neg (by decide), if_neg (by decide), if_neg (by decide), if_neg (by decide), if_neg (by decide), if_neg (by decide), if_neg (by decide), if_neg (by decide), if_pos (by decide)]
    rcases q.isTape x with ⟨k, hk, ek, h1, h2⟩ | ⟨h1, h2⟩
    · rw [h1, h2]
      simp only [bind_s, qlt_e]
      rw [if_neg q1f]
      exact ⟨-1, rfl, rfl, isW_m, fun _ => ⟨by omega, by omega, by omega, by omega, by omega, by omega, by omega, fun _ => ⟨k, hk, ek⟩⟩⟩
    · rw [h1, h2]
      simp only [bind_s, qlt_e]
      rw [if_pos trivial]
      exact ⟨0, rfl, rfl, isW_0, fun e => absurd e n0m⟩
  · have e := ha.1 (by omega) (by omega) (by omega)
    subst e
    rw [if_neg (by decide), if_neg (by decide), if_neg (by decide), if_neg (by decide), if_neg (by decide), if_neg (by decide), if_neg (by decide), if_neg (by decide), if_neg (by decide), if_neg (by decide), if_neg (by decide), if_neg (by decide), if_neg (by decide), if_neg (by decide), if_neg (by decide), if_neg (by decide), if_pos (by decide), tld.1, tld.2, bind_s, bind_s, qj_e, qj_e, if_neg q1f, if_neg q1f, f9_in_eq, bind_s]
    unfold f7_hallRefusal
    rw [if_neg (by decide), if_neg (by decide), if_pos (by decide), qlt_e, bind_s]
    rcases f9_in19 x 99 (by omega) with ⟨c, -, -, -, g1, g2, g3⟩ | g1 | ⟨g1, g2, g3⟩
    · have g2 : x ≤ 99 := g2
      have g3 : ¬ (99 : Int32) < x := g3
      rw [if_neg g1, if_neg g1, if_pos g2, if_neg g3, if_neg q1f]
      exact ⟨-1, rfl, rfl, isW_m, fun _ => ⟨by omega, by omega, by omega, by omega, by omega, by omega, by omega, by omega⟩⟩
    · rw [if_pos g1, if_pos g1, if_pos rfl]
      exact ⟨1, rfl, rfl, isW_1, fun e => absurd e n1m⟩
    · have g2 : (99 : Int32) < x := g2
      have g3 : ¬ x ≤ 99 := g3
      rw [if_neg g1, if_neg g1, if_neg g3, if_pos g2, if_pos rfl]
      exact ⟨1, rfl, rfl, isW_1, fun e => absurd e n1m⟩
  · obtain ⟨z, w, h1, h2, h3, h4⟩ := q.rRescue
    rw [if_neg (by decide), if_neg (by decide), if_neg (by decide), if_neg (by decide), if_neg (by decide), if_neg (by decide), if_neg (by decide), if_neg (by decide), if_neg (by decide), if_neg (by decide), if_neg (by decide), if_neg (by decide), if_neg (by decide), if_neg (by decide), if_neg (by decide), if_neg (by decide), if_neg (by decide), tld.1, bind_s, qj_e, if_neg q1f, h3, bind_s]
    unfold f7_hallRefusal
    rw [if_neg (by decide), if_neg (by decide), if_neg (by decide), h1, bind_s, qlt_e, h2, bind_s]
    exact ⟨w, rfl, rfl, h4, fun _ => ⟨by omega, by omega, by omega, by omega, by omega, by omega, by omega, by omega⟩⟩
theorem QQ.carry (q : QQ T r B F hx a hm) (ka : kStage a) (hB : B < 2 ^ 30) {s : Nat} {x y x' y' : Int32} (hs : s ≤ 10) (ha : Arg s x y x' y') (hc : Can T r F (hm.1 9) s x y) : ∃ (v : Int32) (F' : Nat) (hx' hm' : qH), ¬ v = -1 ∧ f7_carryOut a (nI s) x y hx = some (v, hx') ∧ f9_doNow (nI s) x' y' hm = some (v, hm') ∧ OP T r (B + 1) F' a hx hm hx' hm' := by
  have hT := q.t31
  have b5 := q.1.2.2.2.2.1
  have b7 := q.1.2.2.2.2.2.2.1
  have up : ∀ {F' : Nat} {h' m' : qH}, OP T r B F' a hx hm h' m' → OP T r (B + 1) F' a hx hm h' m' := fun {F' h' m'} o => by
    obtain ⟨⟨p1, p2, p3, p4, ⟨⟨i1, i2, i3, i4⟩, i5⟩⟩, p6⟩ := o
    exact ⟨⟨p1, p2, p3, p4, ⟨⟨i1, i2, i3, by omega⟩, i5⟩⟩, p6⟩
  obtain ⟨c0, c1, c2, c3, c4, c5, c6, c8⟩ := hc
  unfold f7_carryOut
  rcases (show s = 0 ∨ s = 1 ∨ s = 2 ∨ s = 3 ∨ s = 4 ∨ s = 5 ∨ s = 6 ∨ s = 7 ∨ s = 8 ∨ s = 9 ∨ s = 10 by omega) with rfl | rfl | rfl | rfl | rfl | rfl | rfl | rfl | rfl | rfl | rfl
  · have e := ha.1 (by omega) (by omega) (by omega)
    subst e
    obtain ⟨f, hf, rfl, k1, k2, k3⟩ := c0 rfl
    obtain ⟨v, hx', hm', e1, e2, o1⟩ := q.askFor ka hf k1 k2 k3 (w := y') hB
    rw [if_pos (by decide), e1, qb2_s]
    have hv : ¬ nI v = -1 := by
      have h9 := o1.1.2.2.2.2.1.2.2.2
      intro e
      unfold f7_askFor at e1
      simp only [qlt_e, qw, qrow_at, upd_at, q24 (show f < 24 by omega), qg_t] at e1
      have h8 := congrArg Prod.fst (Option.some.inj e1)
      have h7 : ∃ k : Nat, k < 2 ^ 31 ∧ nI v = nI k := by
        have hs3 := q.2.2.2.1.1.2.2.1
        have ht3 := q.turns
        have ht4 : hm.1 9 171 = nI (ix (hm.1 9 171)) := ht3.1
        refine ⟨ix (hm.1 9 171) + 1, by omega, ?_⟩
        refine (show nI v = _ from h8.symm).trans ?_
        simp only [qrow_ne (show a ≠ a + 11 by omega), qrow_at, upd_at, hs3]
        conv => lhs; rw [ht4]
        exact nI_1 _
      obtain ⟨k, hk, ek⟩ := h7
      rw [ek] at e
      exact nI_m1 hk e
    exact ⟨nI v, F, hx', hm', hv, rfl, e2, o1⟩
  · obtain ⟨t, hx', hm', ht, -, e1, e2, o1, -, -⟩ := q.serve ka (c1 rfl)
    unfold f9_doNow
    rw [if_neg (by decide), if_pos (by decide), if_neg (by decide), if_pos (by decide), e1, e2, qb2_s, qb2_s]
    exact ⟨nI t, F, hx', hm', nI_m1 (by omega), rfl, rfl, up o1⟩
  · have e := ha.1 (by omega) (by omega) (by omega)
    have e' := ha.2 (Or.inl rfl)
    subst e
    subst e'
    obtain ⟨t, c, ht, rfl, rfl, k1, k2, k3, k4⟩ := c2 rfl
    obtain ⟨hx', hm', e1, e2, o1⟩ := q.writeNew ka ht k1 k2 k3 k4
    unfold f9_doNow
    rw [if_neg (by decide), if_neg (by decide), if_pos (by decide), if_neg (by decide), if_neg (by decide), if_pos (by decide), e1, e2, qb2_s, qb2_s]
    exact ⟨nI F, F + 1, hx', hm', nI_m1 (by omega), rfl, rfl, up o1⟩
  · have e := ha.1 (by omega) (by omega) (by omega)
    subst e
    obtain ⟨f, hf, rfl⟩ := c3 rfl
    obtain ⟨v, hx', hm', hv, e1, e2, o1⟩ := q.dropFile ka hf
    unfold f9_doNow
    rw [if_neg (by decide), if_neg (by decide), if_neg (by decide), if_pos (by decide), if_neg (by decide), if_neg (by decide), if_neg (by decide), if_pos (by decide), e1, e2, qb2_s, qb2_s]
    exact ⟨v, F, hx', hm', hv, rfl, rfl, up o1⟩
  · have e := ha.1 (by omega) (by omega) (by omega)
    subst e
    obtain ⟨t, ht, rfl, h4⟩ := c4 rfl
    obtain ⟨d, hx', hm', hd, e1, e2, o1, -, d1⟩ := q.mounts ka ht ((q.slot ht).mpr h4)
    obtain ⟨-, k2, -⟩ := o1.1.place ht d1 (by omega)
    unfold f9_doNow
    rw [if_neg (by decide), if_neg (by decide), if_neg (by decide), if_neg (by decide), if_pos (by decide), if_neg (by decide), if_neg (by decide), if_neg (by decide), if_neg (by decide), if_pos (by decide), e1, e2, qb2_s, bind_s, la_0, q353 (show t < 353 by omega), qg_t, i353 (show t < 353 by omega), k2, o1.1.rm (show 0 < 8 by omega), pk_sub (by omega), show r 0 + d - r 0 = d by omega]
    exact ⟨nI d, F, hx', hm', nI_m1 (by omega), rfl, rfl, up o1⟩
  · have e := ha.1 (by omega) (by omega) (by omega)
    subst e
    obtain ⟨t, ht, rfl, h4⟩ := c5 rfl
    obtain ⟨d, hd, hd1⟩ := q.driven ht (fun h9 => h4 ((q.slot ht).mp h9))
    obtain ⟨-, k2, -⟩ := q.place ht hd1 (by omega)
    obtain ⟨hx', hm', e1, e2, o1, -⟩ := q.putAwayO ka ht hd1 (by omega)
    unfold f9_doNow
    rw [if_neg (by decide), if_neg (by decide), if_neg (by decide), if_neg (by decide), if_neg (by decide), if_pos (by decide), if_neg (by decide), if_neg (by decide), if_neg (by decide), if_neg (by decide), if_neg (by decide), if_pos (by decide), e1, e2, qb2_s, la_0, q353 (show t < 353 by omega), qg_t, i353 (show t < 353 by omega), qlt_e, bind_s, k2, q.rm (show 0 < 8 by omega), pk_sub (by omega), show r 0 + d - r 0 = d by omega]
    exact ⟨nI d, F, hx', hm', nI_m1 (by omega), rfl, rfl, up o1⟩
  · have e := ha.1 (by omega) (by omega) (by omega)
    have e' := ha.2 (Or.inr rfl)
    subst e
    subst e'
    obtain ⟨t, o, ht, ho, rfl, rfl, k1, k2⟩ := c6 rfl
    obtain ⟨n, hx', hm', hn, e1, e2, o1, -⟩ := q.copyTo ka ht ho k1 k2
    unfold f9_doNow
    rw [if_neg (by decide), if_neg (by decide), if_neg (by decide), if_neg (by decide), if_neg (by decide), if_neg (by decide), if_pos (by decide), if_neg (by decide), if_neg (by decide), if_neg (by decide), if_neg (by decide), if_neg (by decide), if_neg (by decide), if_pos (by decide), e1, e2, qb2_s, qb2_s]
    exact ⟨nI n, F, hx', hm', nI_m1 (by omega), rfl, rfl, up o1⟩
  · obtain ⟨c, hx', hm', e1, e2, o1⟩ := q.lose ka
    have hv : ¬ nI c = -1 := by
      obtain ⟨c', hc', k1, -⟩ := q.known
      have e1' := e1
      unfold f7_loseCatalog at e1'
      rw [k1, bind_s] at e1'
      intro h9
      have h8 : nI c = nI c' := by
        have key : ∀ (n : Nat) (x : Int32) (h : qH) (z : Int32 × qH), f7_loseCatalog_L7 a (nI c') (fun _ h9 => some (nI c', h9)) n x h = some z → z.1 = nI c' := by
          intro n
          induction n with
          | zero => intro x h z hz; cases hz
          | succ n ih =>
            intro x h z hz
            rw [f7_loseCatalog_L7] at hz
            split at hz
            · cases hz; rfl
            · simp only [qlt_e] at hz
              exact ih _ _ _ (qg_some (qg_some hz).2).2
        exact key _ _ _ _ e1'
      rw [h8] at h9
      exact nI_m1 (by omega) h9
    unfold f9_doNow
    rw [if_neg (by decide), if_neg (by decide), if_neg (by decide), if_neg (by decide), if_neg (by decide), if_neg (by decide), if_neg (by decide), if_pos (by decide), if_neg (by decide), if_neg (by decide), if_neg (by decide), if_neg (by decide), if_neg (by decide), if_neg (by decide), if_neg (by decide), if_pos (by decide), e1, e2, qb2_s, qb2_s]
    exact ⟨nI c, F, hx', hm', hv, rfl, rfl, up o1⟩
  · have e := ha.1 (by omega) (by omega) (by omega)
    subst e
    obtain ⟨t, ht, rfl⟩ := c8 rfl
    obtain ⟨v, hx', hm', hv, e1, e2, o1⟩ := q.scan ka ht
    unfold f9_doNow
    rw [if_neg (by decide), if_neg (by decide), if_neg (by decide), if_neg (by decide), if_neg (by decide), if_neg (by decide), if_neg (by decide), if_neg (by decide), if_pos (by decide), if_neg (by decide), if_neg (by decide), if_neg (by decide), if_neg (by decide), if_neg (by decide), if_neg (by decide), if_neg (by decide), if_neg (by decide), if_pos (by decide), e1, e2, qb2_s, qb2_s]
    exact ⟨v, F, hx', hm', hv, rfl, rfl, up o1⟩
  · have e := ha.1 (by omega) (by omega) (by omega)
    subst e
    obtain ⟨v, hx', hm', hv, e1, e2, o1⟩ := q.waitFor ka x
    unfold f9_doNow
    rw [if_neg (by decide), if_neg (by decide), if_neg (by decide), if_neg (by decide), if_neg (by decide), if_neg (by decide), if_neg (by decide), if_neg (by decide), if_neg (by decide), if_pos (by decide), if_neg (by decide), if_neg (by decide), if_neg (by decide), if_neg (by decide), if_neg (by decide), if_neg (by decide), if_neg (by decide), if_neg (by decide), if_neg (by decide), if_pos (by decide), e1, e2, qb2_s, qb2_s]
    exact ⟨v, F, hx', hm', hv, rfl, rfl, up o1⟩
  · obtain ⟨n, hx', hm', hn, e1, e2, o1⟩ := q.rescue ka
    unfold f9_doNow
    rw [if_neg (by decide), if_neg (by decide), if_neg (by decide), if_neg (by decide), if_neg (by decide), if_neg (by decide), if_neg (by decide), if_neg (by decide), if_neg (by decide), if_neg (by decide), if_neg (by decide), if_neg (by decide), if_neg (by decide), if_neg (by decide), if_neg (by decide), if_neg (by decide), if_neg (by decide), if_neg (by decide), if_neg (by decide), if_neg (by decide), e1, e2, qb2_s, qb2_s]
    exact ⟨nI n, F, hx', hm', nI_m1 (by omega), rfl, rfl, up o1⟩
end PY
