section PN2
variable {L : Nat} {hx hm : qH} {p1 p2 p3 p4 p5 : Int32}
def by20 (p1 p2 p3 p4 p5 : Int32) : List Nat := by4 p1 ++ by4 p2 ++ by4 p3 ++ by4 p4 ++ by4 p5
theorem sh20 : ∀ i, i < 20 → ((24 : Int32) - ((8 : Int32) * (nI i - nI i / (4 : Int32) * (4 : Int32)))) &&& 31 = nI (24 - 8 * (i % 4)) &&& 31 := by decide +kernel
theorem byteOf_eq {i : Nat} (hi : i < 20) : f9_byteOf p1 p2 p3 p4 p5 (nI i) hm = some (nI ((by20 p1 p2 p3 p4 p5).getD i 0)) := by
  unfold f9_byteOf
  rw [qlt_e, show decide (¬ (4 : Int32) = 0) = true from by decide, qg_t, sh20 i hi]
  rcases (show i = 0 ∨ i = 1 ∨ i = 2 ∨ i = 3 ∨ i = 4 ∨ i = 5 ∨ i = 6 ∨ i = 7 ∨ i = 8 ∨ i = 9 ∨ i = 10 ∨ i = 11 ∨ i = 12 ∨ i = 13 ∨ i = 14 ∨ i = 15 ∨ i = 16 ∨ i = 17 ∨ i = 18 ∨ i = 19 by omega) with rfl | rfl | rfl | rfl | rfl | rfl | rfl | rfl | rfl | rfl | rfl | rfl | rfl | rfl | rfl | rfl | rfl | rfl | rfl | rfl
  · rw [if_neg (show ¬ (4 : Int32) ≤ nI 0 by decide)]
    exact congrArg some (byM p1 (s := 24) (by omega))
  · rw [if_neg (show ¬ (4 : Int32) ≤ nI 1 by decide)]
    exact congrArg some (byM p1 (s := 16) (by omega))
  · rw [if_neg (show ¬ (4 : Int32) ≤ nI 2 by decide)]
    exact congrArg some (byM p1 (s := 8) (by omega))
  · rw [if_neg (show ¬ (4 : Int32) ≤ nI 3 by decide)]
    exact congrArg some (byM p1 (s := 0) (by omega))
  · rw [if_pos (show (4 : Int32) ≤ nI 4 by decide), if_neg (show ¬ (8 : Int32) ≤ nI 4 by decide)]
    exact congrArg some (byM p2 (s := 24) (by omega))
  · rw [if_pos (show (4 : Int32) ≤ nI 5 by decide), if_neg (show ¬ (8 : Int32) ≤ nI 5 by decide)]
    exact congrArg some (byM p2 (s := 16) (by omega))
  · rw [if_pos (show (4 : Int32) ≤ nI 6 by decide), if_neg (show ¬ (8 : Int32) ≤ nI 6 by decide)]
    exact congrArg some (byM p2 (s := 8) (by omega))
  · rw [if_pos (show (4 : Int32) ≤ nI 7 by decide), if_neg (show ¬ (8 : Int32) ≤ nI 7 by decide)]
    exact congrArg some (byM p2 (s := 0) (by omega))
  · rw [if_pos (show (4 : Int32) ≤ nI 8 by decide), if_pos (show (8 : Int32) ≤ nI 8 by decide), if_neg (show ¬ (12 : Int32) ≤ nI 8 by decide)]
    exact congrArg some (byM p3 (s := 24) (by omega))
  · rw [if_pos (show (4 : Int32) ≤ nI 9 by decide), if_pos (show (8 : Int32) ≤ nI 9 by decide), if_neg (show ¬ (12 : Int32) ≤ nI 9 by decide)]
    exact congrArg some (byM p3 (s := 16) (by omega))
  · rw [if_pos (show (4 : Int32) ≤ nI 10 by decide), if_pos (show (8 : Int32) ≤ nI 10 by decide), if_neg (show ¬ (12 : Int32) ≤ nI 10 by decide)]
    exact congrArg some (byM p3 (s := 8) (by omega))
  · rw [if_pos (show (4 : Int32) ≤ nI 11 by decide), if_pos (show (8 : Int32) ≤ nI 11 by decide), if_neg (show ¬ (12 : Int32) ≤ nI 11 by decide)]
    exact congrArg some (byM p3 (s := 0) (by omega))
  · rw [if_pos (show (4 : Int32) ≤ nI 12 by decide), if_pos (show (8 : Int32) ≤ nI 12 by decide), if_pos (show (12 : Int32) ≤ nI 12 by decide), if_neg (show ¬ (16 : Int32) ≤ nI 12 by decide)]
    exact congrArg some (byM p4 (s := 24) (by omega))
  · rw [if_pos (show (4 : Int32) ≤ nI 13 by decide), if_pos (show (8 : Int32) ≤ nI 13 by decide), if_pos (show (12 : Int32) ≤ nI 13 by decide), if_neg (show ¬ (16 : Int32) ≤ nI 13 by decide)]
    exact congrArg some (byM p4 (s := 16) (by omega))
  · rw [if_pos (show (4 : Int32) ≤ nI 14 by decide), if_pos (show (8 : Int32) ≤ nI 14 by decide), if_pos (show (12 : Int32) ≤ nI 14 by decide), if_neg (show ¬ (16 : Int32) ≤ nI 14 by decide)]
    exact congrArg some (byM p4 (s := 8) (by omega))
  · rw [if_pos (show (4 : Int32) ≤ nI 15 by decide), if_pos (show (8 : Int32) ≤ nI 15 by decide), if_pos (show (12 : Int32) ≤ nI 15 by decide), if_neg (show ¬ (16 : Int32) ≤ nI 15 by decide)]
    exact congrArg some (byM p4 (s := 0) (by omega))
  · rw [if_pos (show (4 : Int32) ≤ nI 16 by decide), if_pos (show (8 : Int32) ≤ nI 16 by decide), if_pos (show (12 : Int32) ≤ nI 16 by decide), if_pos (show (16 : Int32) ≤ nI 16 by decide)]
    exact congrArg some (byM p5 (s := 24) (by omega))
  · rw [if_pos (show (4 : Int32) ≤ nI 17 by decide), if_pos (show (8 : Int32) ≤ nI 17 by decide), if_pos (show (12 : Int32) ≤ nI 17 by decide), if_pos (show (16 : Int32) ≤ nI 17 by decide)]
    exact congrArg some (byM p5 (s := 16) (by omega))
  · rw [if_pos (show (4 : Int32) ≤ nI 18 by decide), if_pos (show (8 : Int32) ≤ nI 18 by decide), if_pos (show (12 : Int32) ≤ nI 18 by decide), if_pos (show (16 : Int32) ≤ nI 18 by decide)]
    exact congrArg some (byM p5 (s := 8) (by omega))
  · rw [if_pos (show (4 : Int32) ≤ nI 19 by decide), if_pos (show (8 : Int32) ≤ nI 19 by decide), if_pos (show (12 : Int32) ≤ nI 19 by decide), if_pos (show (16 : Int32) ≤ nI 19 by decide)]
    exact congrArg some (byM p5 (s := 0) (by omega))
theorem drop_getD : ∀ (l : List Nat) (i : Nat), i < l.length → l.drop i = l.getD i 0 :: l.drop (i + 1)
  | [], i, h => absurd h (Nat.not_lt_zero _)
  | c :: t, 0, _ => rfl
  | c :: t, i + 1, h => by
    have h : i + 1 < t.length + 1 := h
    show t.drop i = t.getD i 0 :: t.drop (i + 1)
    exact drop_getD t i (by omega)
theorem nzc_le : ∀ l : List Nat, nzc l ≤ l.length
  | [] => Nat.le_refl _
  | c :: t => by
    have := nzc_le t
    show (if c = 0 then 0 else 1) + nzc t ≤ t.length + 1
    split <;> omega
theorem by20_le : ∀ c, c ∈ by20 p1 p2 p3 p4 p5 → c ≤ 255 := by
  have b4 : ∀ (p : Int32) (c : Nat), c ∈ by4 p → c ≤ 255 := by
    intro p c hc
    unfold by4 at hc
    simp only [List.mem_cons, List.not_mem_nil, or_false] at hc
    rcases hc with rfl | rfl | rfl | rfl <;> exact bN_lt p _
  intro c hc
  unfold by20 at hc
  simp only [List.mem_append] at hc
  rcases hc with (((hc | hc) | hc) | hc) | hc
  · exact b4 p1 c hc
  · exact b4 p2 c hc
  · exact b4 p3 c hc
  · exact b4 p4 c hc
  · exact b4 p5 c hc
theorem feedL6 : ∀ (d i acc m : Nat) (k : Int32 → Int32 → Option (Int32 × qH)), i + d = 20 → d < m → f9_feed_L6 p1 p2 p3 p4 p5 hm k m (nI acc) (nI i) = k (nI (acc + nzc ((by20 p1 p2 p3 p4 p5).drop i))) (nI 20) := by
  intro d
  induction d with
  | zero =>
    intro i acc m k hi hm'
    obtain ⟨m, rfl⟩ : ∃ j, m = j + 1 := ⟨m - 1, by omega⟩
    have e : i = 20 := by omega
    subst e
    rw [f9_feed_L6, if_pos (by decide)]
    rfl
  | succ d ih =>
    intro i acc m k hi hm'
    obtain ⟨m, rfl⟩ : ∃ j, m = j + 1 := ⟨m - 1, by omega⟩
    rw [f9_feed_L6, if_neg (show ¬ (20 : Int32) ≤ nI i from nI_ge (b := 20) (by omega) (by omega)), byteOf_eq (by omega), bind_s, qlt_e, qlt_e, qlt_e, nI_1, drop_getD (by20 p1 p2 p3 p4 p5) i (show i < 20 by omega)]
    have le : (by20 p1 p2 p3 p4 p5).getD i 0 ≤ 255 := by
      apply by20_le (p1 := p1) (p2 := p2) (p3 := p3) (p4 := p4) (p5 := p5)
      have hl : i < (by20 p1 p2 p3 p4 p5).length := show i < 20 by omega
      have e := drop_getD (by20 p1 p2 p3 p4 p5) i hl
      exact List.mem_of_mem_drop (i := i) (by rw [e]; exact List.mem_cons_self ..)
    show _ = k (nI (acc + ((if (by20 p1 p2 p3 p4 p5).getD i 0 = 0 then 0 else 1) + nzc ((by20 p1 p2 p3 p4 p5).drop (i + 1))))) (nI 20)
    by_cases e : (by20 p1 p2 p3 p4 p5).getD i 0 = 0
    · rw [e, if_pos (show nI 0 = 0 from rfl), if_pos rfl, Int32.add_zero, Nat.zero_add]
      exact ih (i + 1) acc m k (by omega) (by omega)
    · rw [if_neg (show ¬ nI ((by20 p1 p2 p3 p4 p5).getD i 0) = 0 from fun z => e (nI_inj (b := 0) (by omega) (by omega) z)), if_neg e, nI_1, ← Nat.add_assoc]
      exact ih (i + 1) (acc + 1) m k (by omega) (by omega)
theorem feedL62 : ∀ (d i L m : Nat) (hm : qH) (k : Int32 → qH → Option (Int32 × qH)), i + d = 20 → d < m → hm.1 0 2 = nI L → L + nzc ((by20 p1 p2 p3 p4 p5).drop i) ≤ 240 → f9_feed_L62 p1 p2 p3 p4 p5 k m (nI i) hm = k (nI 20) (aM ((by20 p1 p2 p3 p4 p5).drop i) L hm) := by
  intro d
  induction d with
  | zero =>
    intro i L m hm k hi hm' h hl
    obtain ⟨m, rfl⟩ : ∃ j, m = j + 1 := ⟨m - 1, by omega⟩
    have e : i = 20 := by omega
    subst e
    rw [f9_feed_L62, if_pos (by decide)]
    rfl
  | succ d ih =>
    intro i L m hm k hi hm' h hl
    obtain ⟨m, rfl⟩ : ∃ j, m = j + 1 := ⟨m - 1, by omega⟩
    have dg := drop_getD (by20 p1 p2 p3 p4 p5) i (show i < 20 by omega)
    have le : (by20 p1 p2 p3 p4 p5).getD i 0 ≤ 255 := by
      apply by20_le (p1 := p1) (p2 := p2) (p3 := p3) (p4 := p4) (p5 := p5)
      exact List.mem_of_mem_drop (i := i) (by rw [dg]; exact List.mem_cons_self ..)
    rw [f9_feed_L62, if_neg (show ¬ (20 : Int32) ≤ nI i from nI_ge (b := 20) (by omega) (by omega)), byteOf_eq (by omega), bind_s, qj_e]
    rw [dg] at hl ⊢
    have hl : L + ((if (by20 p1 p2 p3 p4 p5).getD i 0 = 0 then 0 else 1) + nzc ((by20 p1 p2 p3 p4 p5).drop (i + 1))) ≤ 240 := hl
    show _ = k (nI 20) (if (by20 p1 p2 p3 p4 p5).getD i 0 = 0 then aM ((by20 p1 p2 p3 p4 p5).drop (i + 1)) L hm else aM ((by20 p1 p2 p3 p4 p5).drop (i + 1)) (L + 1) (qw (qw hm 1 L (nI ((by20 p1 p2 p3 p4 p5).getD i 0))) 0 2 (nI (L + 1))))
    by_cases e : (by20 p1 p2 p3 p4 p5).getD i 0 = 0
    · rw [if_pos e] at hl
      rw [e, if_pos (show nI 0 = 0 from rfl), if_pos rfl]
      show f9_feed_L62 p1 p2 p3 p4 p5 k m (nI i + 1) hm = _
      rw [nI_1]
      exact ih (i + 1) L m hm k (by omega) (by omega) h (by omega)
    · rw [if_neg e] at hl
      have e2 : (qw hm 1 L (nI ((by20 p1 p2 p3 p4 p5).getD i 0))).1 0 2 = nI L := by rw [qrow_ne (by omega)]; exact h
      rw [if_neg (show ¬ nI ((by20 p1 p2 p3 p4 p5).getD i 0) = 0 from fun z => e (nI_inj (b := 0) (by omega) (by omega) z)), if_neg e, h, qin_nI (show L < 240 by omega) (by omega), qg_t, qlt_e, ix_nI (by omega), qlt_e, e2, nI_1, nI_1]
      show f9_feed_L62 p1 p2 p3 p4 p5 k m (nI (i + 1)) _ = _
      exact ih (i + 1) (L + 1) m _ k (by omega) (by omega) (by rw [qrow_at, upd_at]) (by omega)
/-- feed, both sides -/
theorem feed_eq (h : BY L hx hm) : ∃ (v : Int32) (L' : Nat) (hx' hm' : qH), f8_feed p1 p2 p3 p4 p5 hx = some (v, hx') ∧ f9_feed p1 p2 p3 p4 p5 hm = some (v, hm') ∧ BY L' hx' hm' ∧ EX hx hx' ∧ EM hm hm' := by
  have hL := h.2.2.1
  have l20 : nzc (by20 p1 p2 p3 p4 p5) ≤ 20 := nzc_le _
  have ec : nzc (by4 p1) + nzc (by4 p2) + nzc (by4 p3) + nzc (by4 p4) + nzc (by4 p5) = nzc (by20 p1 p2 p3 p4 p5) := by
    unfold by20
    rw [nzc_app, nzc_app, nzc_app, nzc_app]
  have z6 := feedL6 (p1 := p1) (p2 := p2) (p3 := p3) (p4 := p4) (p5 := p5) (hm := hm) 20 0 0 qN (fun (x9 : Int32) (x10 : Int32) =>
    if ((hm.1 0 2) + x9) ≤ (240 : Int32) then (
      f9_feed_L62 p1 p2 p3 p4 p5 (fun (x23 : Int32) (h24 : qH) =>
        some ((h24.1 0 2), h24)) qN (0 : Int32) hm)
    else (
      some ((-1 : Int32), hm))) rfl (qN_lt (by omega))
  have z6 : f9_feed p1 p2 p3 p4 p5 hm = if hm.1 0 2 + nI (0 + nzc (by20 p1 p2 p3 p4 p5)) ≤ (240 : Int32) then (f9_feed_L62 p1 p2 p3 p4 p5 (fun (x23 : Int32) (h24 : qH) => some ((h24.1 0 2), h24)) qN (nI 0) hm) else some (-1, hm) := z6
  rw [z6, h.2.1, nI_add]
  unfold f8_feed
  rw [signs_eq, signs_eq, signs_eq, signs_eq, signs_eq, bind_s, bind_s, bind_s, bind_s, bind_s, qlt_e, nI_add, nI_add, nI_add, nI_add, ec, h.1, nI_add, Nat.zero_add]
  by_cases c : L + nzc (by20 p1 p2 p3 p4 p5) ≤ 240
  · have c' : nI (L + nzc (by20 p1 p2 p3 p4 p5)) ≤ (240 : Int32) := nI_le (b := 240) c (by omega)
    rw [if_pos c', if_pos c']
    have b1 := aX_b (by4 p1) L hx h.1
    have b2 := aX_b (by4 p2) _ _ b1.1
    have b3 := aX_b (by4 p3) _ _ b2.1
    have b4 := aX_b (by4 p4) _ _ b3.1
    have b5 := aX_b (by4 p5) _ _ b4.1
    rw [add_eq4 h.1 (by omega), bind_s, add_eq4 b1.1 (by omega), bind_s, add_eq4 b2.1 (by omega), bind_s, add_eq4 b3.1 (by omega), bind_s, add_eq4 b4.1 (by omega), bind_s, b5.1]
    have fin : aX (by4 p5) (L + nzc (by4 p1) + nzc (by4 p2) + nzc (by4 p3) + nzc (by4 p4)) (aX (by4 p4) (L + nzc (by4 p1) + nzc (by4 p2) + nzc (by4 p3)) (aX (by4 p3) (L + nzc (by4 p1) + nzc (by4 p2)) (aX (by4 p2) (L + nzc (by4 p1)) (aX (by4 p1) L hx)))) = aX (by20 p1 p2 p3 p4 p5) L hx := by
      unfold by20
      rw [aX_app, aX_app, aX_app, aX_app, nzc_app, nzc_app, nzc_app, ← Nat.add_assoc, ← Nat.add_assoc, ← Nat.add_assoc]
    have ez := feedL62 (p1 := p1) (p2 := p2) (p3 := p3) (p4 := p4) (p5 := p5) 20 0 L qN hm (fun (x23 : Int32) (h24 : qH) => some ((h24.1 0 2), h24)) rfl (qN_lt (by omega)) h.2.1 c
    have ez : f9_feed_L62 p1 p2 p3 p4 p5 (fun (x23 : Int32) (h24 : qH) => some ((h24.1 0 2), h24)) qN (nI 0) hm = some ((aM (by20 p1 p2 p3 p4 p5) L hm).1 0 2, aM (by20 p1 p2 p3 p4 p5) L hm) := ez
    have am := aXM (by20 p1 p2 p3 p4 p5) L hx hm h by20_le c
    have ax := aX_b (by20 p1 p2 p3 p4 p5) L hx h.1
    rw [ez, fin, am.1.2.1, show L + nzc (by4 p1) + nzc (by4 p2) + nzc (by4 p3) + nzc (by4 p4) + nzc (by4 p5) = L + nzc (by20 p1 p2 p3 p4 p5) by omega]
    exact ⟨_, _, _, _, rfl, rfl, am.1, ax.2, am.2⟩
  · have c' : ¬ nI (L + nzc (by20 p1 p2 p3 p4 p5)) ≤ (240 : Int32) := nI_ge (a := 240) (by omega) (by omega)
    rw [if_neg c', if_neg c']
    exact ⟨-1, L, hx, hm, rfl, rfl, h, ⟨fun _ _ _ => rfl, fun _ _ => rfl⟩, fun _ _ _ => rfl, fun _ _ => rfl⟩
end PN2
