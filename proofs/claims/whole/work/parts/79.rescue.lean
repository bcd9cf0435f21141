section PS
variable {T B F a : Nat} {r : Nat → Nat} {hx hm : qH}
theorem QQ.writeAll (q : QQ T r B F hx a hm) (ka : kStage a) {t o d n : Nat} {m : Nat → Nat} (ht : t < T) (ho : o < T) (hto : t ≠ o) (hd : hx.1 (a + 1) o = nI d) (hd2 : d < 2 ^ 31) (hM : ML (hm.1 9) F t (fun _ => True) n m) (hw : ∀ i, i < n → hm.1 12 i = nI (m i)) (h0 : hm.1 9 (16 + o) = 0) (kx : Int32 → Int32 → qH → Option (Int32 × qH)) (km : Int32 → qH → Option (Int32 × qH)) : ∃ s : qH × qH, (OP T r B F a hx hm s.1 s.2 ∧ (∀ f, f < F → ¬ s.2.1 9 (48 + f) = nI t) ∧ ∀ f, f < F → ¬ hm.1 9 (48 + f) = nI t → s.2.1 9 (48 + f) = hm.1 9 (48 + f)) ∧ f7_copyTo_L90 a (nI t) (nI o) kx qN 0 0 hx = kx (nI n) (nI n) s.1 ∧ f9_copiesNow_L69 (nI t) (nI o) (nI n) km qN 0 hm = km (nI n) s.2 := by
  have hT := q.t31
  have hL := q.L96
  have hn := hM.le
  have htoI : ¬ nI o = nI t := fun e => hto ((nI_eq (by omega) (by omega)).mp e).symm
  have htoI' : ¬ nI t = nI o := fun e => htoI e.symm
  obtain ⟨s, ⟨hI, -, -, -, -, R3, -, R5⟩, h1⟩ := lq10 (σ := qH × qH) (fun m s x => (f7_copyTo_L90 a (nI t) (nI o) kx m x x s.1, f9_copiesNow_L69 (nI t) (nI o) (nI n) km m x s.2)) (fun s x => (kx x x s.1, km x s.2)) (fun i s => OP T r B F a hx hm s.1 s.2 ∧ s.1.1 (a + 1) = hx.1 (a + 1) ∧ s.2.1 12 = hm.1 12 ∧ (∀ j, i ≤ j → j < n → s.2.1 9 (48 + m j) = nI t ∧ s.2.1 9 (72 + m j) = hm.1 9 (72 + m j)) ∧ (∀ f, f < 24 → s.2.1 9 (96 + f) = hm.1 9 (96 + f)) ∧ (∀ f, f < F → s.2.1 9 (48 + f) = nI t → ∃ j, i ≤ j ∧ j < n ∧ m j = f) ∧ (∀ j, i ≤ j → j < n → ix (s.2.1 9 (16 + o)) ≤ ix (hm.1 9 (72 + m j))) ∧ ∀ f, f < F → ¬ hm.1 9 (48 + f) = nI t → s.2.1 9 (48 + f) = hm.1 9 (48 + f)) n (by omega) (hx, hm) ⟨OP.rf q, rfl, rfl, fun j _ hj => ⟨(hM.1 j hj).2.1, rfl⟩, fun _ _ => rfl, fun f hf hon => by
      obtain ⟨j, hj, e⟩ := hM.2.2 f hf hon trivial
      exact ⟨j, Nat.zero_le _, hj, e⟩, fun j _ _ => by show ix (hm.1 9 (16 + o)) ≤ _; rw [h0]; exact Nat.zero_le _, fun _ _ _ => rfl⟩ (fun i s hi hv => by
    obtain ⟨x, y⟩ := s
    have hv : OP T r B F a hx hm x y ∧ x.1 (a + 1) = hx.1 (a + 1) ∧ y.1 12 = hm.1 12 ∧ (∀ j, i ≤ j → j < n → y.1 9 (48 + m j) = nI t ∧ y.1 9 (72 + m j) = hm.1 9 (72 + m j)) ∧ (∀ f, f < 24 → y.1 9 (96 + f) = hm.1 9 (96 + f)) ∧ (∀ f, f < F → y.1 9 (48 + f) = nI t → ∃ j, i ≤ j ∧ j < n ∧ m j = f) ∧ (∀ j, i ≤ j → j < n → ix (y.1 9 (16 + o)) ≤ ix (hm.1 9 (72 + m j))) ∧ ∀ f, f < F → ¬ hm.1 9 (48 + f) = nI t → y.1 9 (48 + f) = hm.1 9 (48 + f) := hv
    obtain ⟨o1, d1, w1, R1, R2, R3, R4, R5⟩ := hv
    have q1 := o1.1
    obtain ⟨m1, m2, -⟩ := hM.1 i hi
    obtain ⟨c48, c72⟩ := R1 i (Nat.le_refl _) hi
    have c96 := R2 (m i) (by omega)
    have r4 := R4 i (Nat.le_refl _) hi
    obtain ⟨z1, z2, z3, z4⟩ := q1.fN m1
    obtain ⟨-, z5, z6⟩ := q1.2.2.2.2.fit hT.1 m1 (show t < 2 ^ 31 by omega) c48
    have zo := (q1.2.2.2.2.2.1 o ho).1
    obtain ⟨s, hs, f1⟩ := q1.first (t := t) (b := 0) (by omega)
    have hs' : s = nI (m i) := by
      rcases hs with ⟨-, hs⟩ | ⟨f, hf, e, g1, -, g3⟩
      · exact absurd (Nat.zero_le _) (hs (m i) m1 c48)
      · obtain ⟨j, hij, hj, ej⟩ := R3 f hf g1
        have g4 := g3 (m i) m1 c48 (Nat.zero_le _)
        have : j = i := by
          rcases Nat.lt_trichotomy j i with h9 | h9 | h9
          · omega
          · exact h9
          · have h8 := hM.2.1 i j h9 hj
            have h7 := (R1 j hij hj).2
            rw [ej] at h7 h8
            rw [h7, c72] at g4
            omega
        rw [e, ← ej, this]
    subst hs'
    have f1' : f7_firstFile a (nI t) 0 x = some (nI (m i)) := f1
    obtain ⟨x2, y2, r1, r2, o2, k2, d2, -, w2⟩ := q1.runs (b := ix (y.1 9 (16 + o))) (c := ix (y.1 9 (96 + m i))) ka ho (by rw [d1]; exact hd) hd2 z3 (by rw [c72] at z5; omega)
    have zo' : y.1 9 (16 + o) = nI (ix (y.1 9 (16 + o))) := zo
    have z2' : y.1 9 (96 + m i) = nI (ix (y.1 9 (96 + m i))) := z2
    rw [← zo', ← z2'] at r1 r2
    have y48 : y2.1 9 (48 + m i) = nI t := by rw [k2 _ (by omega)]; exact c48
    have y16 : y2.1 9 (16 + o) = y.1 9 (16 + o) := k2 _ (by omega)
    have y96 : y2.1 9 (96 + m i) = y.1 9 (96 + m i) := k2 _ (by omega)
    obtain ⟨p1, p2⟩ := o2.1.moveF ka (f := m i) (o := o) m1 ho (by rw [y48]; exact htoI') (by rw [y16, y96]; rw [c72] at z5; omega)
    have g1 := nI_ge (show i < F by omega) (show F < 2 ^ 31 by omega)
    have g2 := nI_ge hi (show n < 2 ^ 31 by omega)
    have e3 := (q1.tp ho).2.1
    have e9 := (q1.fl m1).2.2.1
    have nm := nI_m1 (show m i < 2 ^ 31 by omega)
    have ew : y.1 12 i = nI (m i) := by rw [w1]; exact hw i hi
    have mne : ∀ j, i < j → j < n → m j ≠ m i := fun j hij hj e => by
      have := hM.2.1 i j hij hj
      rw [e] at this
      omega
    have e9r : (qrow y2 9 (rowB (y2.1 9) (m i) o)).1 9 = rowB (y2.1 9) (m i) o := qrow_at _ _ _
    refine ⟨(hxB a x2 (m i) o, qrow y2 9 (rowB (y2.1 9) (m i) o)), ⟨(o1.tr o2).tr p2, ?_, ?_, ?_, ?_, ?_, ?_, ?_⟩, fun m' => ?_⟩
    · show (hxB a x2 (m i) o).1 (a + 1) = _
      rw [hxB_ne (by omega) (by omega) (by omega) (by omega), d2, d1]
    · show (qrow y2 9 (rowB (y2.1 9) (m i) o)).1 12 = _
      rw [qrow_ne (by omega), w2 12 (by omega), w1]
    · intro j hij hj
      show (qrow y2 9 (rowB (y2.1 9) (m i) o)).1 9 (48 + m j) = nI t ∧ (qrow y2 9 (rowB (y2.1 9) (m i) o)).1 9 (72 + m j) = _
      have h9 := mne j (by omega) hj
      have h8 := (hM.1 j hj).1
      rw [e9r, rowB_ne (by omega) (by omega) (by omega) (by omega), rowB_ne (by omega) (by omega) (by omega) (by omega), k2 _ (by omega), k2 _ (by omega)]
      exact R1 j (by omega) hj
    · intro f hf
      show (qrow y2 9 (rowB (y2.1 9) (m i) o)).1 9 (96 + f) = _
      rw [e9r, rowB_ne (by omega) (by omega) (by omega) (by omega), k2 _ (by omega)]
      exact R2 f hf
    · intro f hf hon
      have hon : (qrow y2 9 (rowB (y2.1 9) (m i) o)).1 9 (48 + f) = nI t := hon
      rw [e9r] at hon
      by_cases e : f = m i
      · exfalso
        subst e
        have n48 : rowB (y2.1 9) (m i) o (48 + m i) = nI o := by
          unfold rowB
          rw [upd_ne (by omega), upd_ne (by omega), upd_ne (by omega), upd_at]
        rw [n48] at hon
        exact htoI hon
      · rw [rowB_ne (by omega) (by omega) (by omega) (by omega), k2 _ (by omega)] at hon
        obtain ⟨j, hij, hj, ej⟩ := R3 f hf hon
        have : j ≠ i := fun e2 => e (by rw [← ej, e2])
        exact ⟨j, by omega, hj, ej⟩
    · intro j hij hj
      show ix ((qrow y2 9 (rowB (y2.1 9) (m i) o)).1 9 (16 + o)) ≤ _
      have n16 : rowB (y2.1 9) (m i) o (16 + o) = nI (ix (y.1 9 (16 + o)) + ix (y.1 9 (96 + m i))) := by
        unfold rowB
        rw [upd_at, y16, y96, ← nI_add, ← zo', ← z2']
      rw [e9r, n16, ix_nI (by rw [c72] at z5; omega)]
      have h9 := hM.2.1 i j (by omega) hj
      obtain ⟨j1, j2, -⟩ := hM.1 j hj
      have p1 := (q.fN j1).2.2.1
      rw [c96]
      rcases q.2.2.2.2.dis m1 j1 (show t < 2 ^ 31 by omega) m2 j2 with h8 | h8 | h8
      · rw [h8] at h9; omega
      · omega
      · omega
    · intro f hf hne
      show (qrow y2 9 (rowB (y2.1 9) (m i) o)).1 9 (48 + f) = _
      have : f ≠ m i := fun e => hne (by rw [e]; exact m2)
      rw [e9r, rowB_ne (by omega) (by omega) (by omega) (by omega), k2 _ (by omega)]
      exact R5 f hf hne
    · show (f7_copyTo_L90 a (nI t) (nI o) kx (m' + 1) (nI i) (nI i) x, f9_copiesNow_L69 (nI t) (nI o) (nI n) km (m' + 1) (nI i) y) = (f7_copyTo_L90 a (nI t) (nI o) kx m' (nI (i + 1)) (nI (i + 1)) (hxB a x2 (m i) o), f9_copiesNow_L69 (nI t) (nI o) (nI n) km m' (nI (i + 1)) (qrow y2 9 (rowB (y2.1 9) (m i) o)))
      congr 1
      · simp only [f7_copyTo_L90, q1.Fx, g1, if_false, f1', bind_s, nm, q8 (show o < 8 by omega), ix_nI (show o < 2 ^ 31 by omega), q24 (show m i < 24 by omega), ix_nI (show m i < 2 ^ 31 by omega), qg_t, e3, e9, r1, p1, qlt_e, nI_1]
      · simp only [f9_copiesNow_L69, g2, if_false, q24 (show i < 24 by omega), ix_nI (show i < 2 ^ 31 by omega), ew, la_16, la_48, la_72, la_96, la_120, q353 (show 16 + o < 353 by omega), i353 (show 16 + o < 353 by omega), q353 (show 48 + m i < 353 by omega), i353 (show 48 + m i < 353 by omega), q353 (show 72 + m i < 353 by omega), i353 (show 72 + m i < 353 by omega), q353 (show 96 + m i < 353 by omega), i353 (show 96 + m i < 353 by omega), q353 (show 120 + m i < 353 by omega), i353 (show 120 + m i < 353 by omega), qg_t, r2, bind_s, qlt_e, qw, qrow_at, qrow_qrow, upd_ne (show 16 + o ≠ 48 + m i by omega), upd_ne (show 16 + o ≠ 72 + m i by omega), upd_ne (show 16 + o ≠ 120 + m i by omega), upd_ne (show 96 + m i ≠ 48 + m i by omega), upd_ne (show 96 + m i ≠ 72 + m i by omega), upd_ne (show 96 + m i ≠ 120 + m i by omega), rowB, nI_1]) (fun m' s hv => by
    obtain ⟨x, y⟩ := s
    have hv : OP T r B F a hx hm x y ∧ x.1 (a + 1) = hx.1 (a + 1) ∧ y.1 12 = hm.1 12 ∧ (∀ j, n ≤ j → j < n → y.1 9 (48 + m j) = nI t ∧ y.1 9 (72 + m j) = hm.1 9 (72 + m j)) ∧ (∀ f, f < 24 → y.1 9 (96 + f) = hm.1 9 (96 + f)) ∧ (∀ f, f < F → y.1 9 (48 + f) = nI t → ∃ j, n ≤ j ∧ j < n ∧ m j = f) ∧ (∀ j, n ≤ j → j < n → ix (y.1 9 (16 + o)) ≤ ix (hm.1 9 (72 + m j))) ∧ ∀ f, f < F → ¬ hm.1 9 (48 + f) = nI t → y.1 9 (48 + f) = hm.1 9 (48 + f) := hv
    obtain ⟨o1, -, -, -, -, R3, -, -⟩ := hv
    have q1 := o1.1
    show (f7_copyTo_L90 a (nI t) (nI o) kx (m' + 1) (nI n) (nI n) x, f9_copiesNow_L69 (nI t) (nI o) (nI n) km (m' + 1) (nI n) y) = (kx (nI n) (nI n) x, km (nI n) y)
    congr 1
    · rw [f7_copyTo_L90, q1.Fx]
      by_cases e : F ≤ n
      · rw [if_pos (nI_le e (by omega))]
      · obtain ⟨s, hs, f1⟩ := q1.first (t := t) (b := 0) (by omega)
        have f1' : f7_firstFile a (nI t) 0 x = some s := f1
        have hs' : s = -1 := by
          rcases hs with ⟨e, -⟩ | ⟨f, hf, -, g1, -, -⟩
          · exact e
          · obtain ⟨j, h1, h2, -⟩ := R3 f hf g1
            omega
        rw [if_neg (nI_ge (by omega) (by omega)), f1', bind_s, if_pos hs']
    · rw [f9_copiesNow_L69, if_pos (nI_le (Nat.le_refl _) (by omega))])
  refine ⟨s, ⟨hI, fun f hf e => ?_, R5⟩, congrArg Prod.fst h1, congrArg Prod.snd h1⟩
  obtain ⟨j, h2, h3, -⟩ := R3 f hf e
  omega
theorem QQ.copyTo (q : QQ T r B F hx a hm) (ka : kStage a) {t o : Nat} (ht : t < T) (ho : o < T) (hto : t ≠ o) (he : hm.1 9 (16 + o) = 0) : ∃ (n : Nat) (hx' hm' : qH), n ≤ 24 ∧ f7_copyTo a (nI t) (nI o) hx = some (nI n, hx') ∧ f9_copiesNow (nI t) (nI o) hm = some (nI n, hm') ∧ OP T r B F a hx hm hx' hm' ∧ ∀ f, f < F → ¬ hm.1 9 (48 + f) = nI t → hm'.1 9 (48 + f) = hm.1 9 (48 + f) := by
  have hT := q.t31
  have b7 := q.1.2.2.2.2.2.2.1
  obtain ⟨n, m, w, hM, hw, lm⟩ := q.layMoved ht
  have hn := hM.le
  have fm0 : FM hm (qrow hm 12 w) := ⟨fun b _ _ _ h4 => qrow_ne h4, fun k _ _ => by rw [qrow_ne (by omega)], rfl, fun k _ => by rw [qrow_ne (by omega)]⟩
  have e9 : (qrow hm 12 w).1 9 = hm.1 9 := qrow_ne (by omega)
  have o0 : OP T r B F a hx hm hx (qrow hm 12 w) := ⟨q.mk ka FX.rf fm0 (by rw [e9]; exact q.2.2.2.1) (by rw [e9]; exact q.2.2.2.2), FX.rf, fm0, by rw [qrow_ne (by omega)]⟩
  have e12 : (qrow hm 12 w).1 12 = w := qrow_at _ _ _
  generalize qrow hm 12 w = m0 at o0 e9 e12 lm
  obtain ⟨d, h1, m1, hd, b1, b2, o1, k1, d1⟩ := o0.1.brings ka ht
  have w1 : m1.1 12 = w := (FC.brg (c := 12) (by omega) (by omega) m1 b2).trans e12
  have kp1 : KP (hm.1 9) (m1.1 9) := by rw [← e9]; exact k1
  have toM : ∀ {y : qH}, KP (hm.1 9) (y.1 9) → ML (y.1 9) F t (fun _ => True) n m := fun {y} kp => ⟨fun i hi => ⟨(hM.1 i hi).1, by rw [kp _ (by have := (hM.1 i hi).1; omega)]; exact (hM.1 i hi).2.1, trivial⟩, fun i j hij hj => by
    have g1 := (hM.1 i (by omega)).1
    have g2 := (hM.1 j hj).1
    rw [kp _ (by omega), kp _ (by omega)]
    exact hM.2.1 i j hij hj, fun f hf e _ => hM.2.2 f hf (by rw [kp _ (by omega)] at e; exact e) trivial⟩
  unfold f7_copyTo f9_copiesNow
  rw [lm, qb2_s, b1, qb2_s, b2, bind_s]
  obtain ⟨⟨c, h2, m2⟩, ⟨o2, k2, w2⟩, l1, l2⟩ := o1.1.readAll ka (o := nI o) ht d1 (by omega) (toM kp1) (fun i hi => by rw [w1]; exact hw i hi) (fun x12 x13 h14 => qb2 (f7_bringIn a (nI o) h14) fun z15 h16 => f7_copyTo_L90 a (nI t) (nI o) (fun x27 x28 h29 => qg (qin (nI t) 8) <| qlt (qw h29 (a + 3) (ix (nI t)) (0 : Int32)) fun h30 => qg (qin (nI t) 8) <| qlt (qw h30 (a + 5) (ix (nI t)) (0 : Int32)) fun h31 => some (x27, h31)) qN (0 : Int32) (0 : Int32) h16) (fun x9 h10 => (f9_brings (nI o) h10).bind fun h11 => f9_copiesNow_L69 (nI t) (nI o) (nI n) (fun x22 h23 => qg (qin ((16 : Int32) + nI t) 353) <| qlt (qw h23 9 (ix ((16 : Int32) + nI t)) (0 : Int32)) fun h24 => qg (qin ((32 : Int32) + nI t) 353) <| qlt (qw h24 9 (ix ((32 : Int32) + nI t)) (0 : Int32)) fun h25 => some (nI n, h25)) qN (0 : Int32) h11)
  rw [l1, l2]
  have o2 : OP T r B F a h1 m1 h2 m2 := o2
  have k2 : KP (m1.1 9) (m2.1 9) := k2
  have w2 : m2.1 12 = m1.1 12 := w2
  obtain ⟨d', h3, m3, hd', b3, b4, o3, k3, d3⟩ := o2.1.brings ka ho
  have w3 : m3.1 12 = w := ((FC.brg (c := 12) (by omega) (by omega) m3 b4).trans w2).trans w1
  have kp3 : KP (hm.1 9) (m3.1 9) := (kp1.tr k2).tr k3
  show ∃ (n' : Nat) (hx' hm' : qH), n' ≤ 24 ∧ qb2 (f7_bringIn a (nI o) h2) _ = some (nI n', hx') ∧ (f9_brings (nI o) m2).bind _ = some (nI n', hm') ∧ OP T r B F a hx hm hx' hm' ∧ ∀ f, f < F → ¬ hm.1 9 (48 + f) = nI t → hm'.1 9 (48 + f) = hm.1 9 (48 + f)
  rw [b3, qb2_s, b4, bind_s]
  obtain ⟨⟨h4, m4⟩, ⟨o4, no4, R5⟩, l3, l4⟩ := o3.1.writeAll ka ht ho hto d3 (by omega) (toM kp3) (fun i hi => by rw [w3]; exact hw i hi) (by rw [kp3 _ (by omega)]; exact he) (fun x27 x28 h29 => qg (qin (nI t) 8) <| qlt (qw h29 (a + 3) (ix (nI t)) (0 : Int32)) fun h30 => qg (qin (nI t) 8) <| qlt (qw h30 (a + 5) (ix (nI t)) (0 : Int32)) fun h31 => some (x27, h31)) (fun x22 h23 => qg (qin ((16 : Int32) + nI t) 353) <| qlt (qw h23 9 (ix ((16 : Int32) + nI t)) (0 : Int32)) fun h24 => qg (qin ((32 : Int32) + nI t) 353) <| qlt (qw h24 9 (ix ((32 : Int32) + nI t)) (0 : Int32)) fun h25 => some (nI n, h25))
  rw [l3, l4]
  have o4 : OP T r B F a h3 m3 h4 m4 := o4
  have no4 : ∀ f, f < F → ¬ m4.1 9 (48 + f) = nI t := no4
  have R5 : ∀ f, f < F → ¬ m3.1 9 (48 + f) = nI t → m4.1 9 (48 + f) = m3.1 9 (48 + f) := R5
  have o5 := o4.1.wipe ka ht no4
  refine ⟨n, hxW a h4 t, qrow m4 9 (rowW (m4.1 9) t), by omega, ?_, ?_, ((((o0.tr o1).tr o2).tr o3).tr o4).tr o5, fun f hf hne => ?_⟩
  · simp only [q8 (show t < 8 by omega), ix_nI (show t < 2 ^ 31 by omega), qg_t, qlt_e, qw, qrow_ne (show a + 5 ≠ a + 3 by omega), hxW]
  · simp only [la_16, la_32, q353 (show 16 + t < 353 by omega), i353 (show 16 + t < 353 by omega), q353 (show 32 + t < 353 by omega), i353 (show 32 + t < 353 by omega), qg_t, qlt_e, qw, qrow_at, qrow_qrow, rowW]
  · rw [qrow_at, rowW_ne (by omega) (by omega), R5 f hf (by rw [kp3 _ (by omega)]; exact hne), kp3 _ (by omega)]
theorem fon_pos {N : Nat → Int32} {t : Int32} : ∀ {n f : Nat}, f < n → N (48 + f) = t → 0 < fon N t n
  | 0, f, h, _ => by omega
  | n + 1, f, h, e => by
    show 0 < fon N t n + (if N (48 + n) = t then 1 else 0)
    by_cases h9 : f = n
    · subst h9; rw [if_pos e]; omega
    · have := fon_pos (n := n) (by omega) e
      omega
theorem fon_ex {N : Nat → Int32} {t : Int32} : ∀ {n : Nat}, 0 < fon N t n → ∃ f, f < n ∧ N (48 + f) = t
  | 0, h => absurd h (by show ¬ 0 < 0; omega)
  | n + 1, h => by
    have h : 0 < fon N t n + (if N (48 + n) = t then 1 else 0) := h
    by_cases e : N (48 + n) = t
    · exact ⟨n, by omega, e⟩
    · rw [if_neg e] at h
      obtain ⟨f, h1, h2⟩ := fon_ex (n := n) (by omega)
      exact ⟨f, by omega, h2⟩
theorem QQ.rescue (q : QQ T r B F hx a hm) (ka : kStage a) : ∃ (n : Nat) (hx' hm' : qH), n ≤ 8 ∧ f7_rescueWeak a hx = some (nI n, hx') ∧ f9_rescuesNow hm = some (nI n, hm') ∧ OP T r B F a hx hm hx' hm' := by
  have hT := q.t31
  obtain ⟨v, hv, w1, w2⟩ := q.weakS
  unfold f7_rescueWeak f9_rescuesNow
  rw [w1, w2, bind_s, bind_s]
  obtain ⟨s, ⟨hI, hn, -⟩, h1⟩ := lq10 (σ := Nat × qH × qH) (fun m s x => (f7_rescueWeak_L9 a v (fun x20 _ h22 => some (x20, h22)) m (nI s.1) x s.2.1, f9_rescuesNow_L9 v (fun x19 _ h21 => some (x19, h21)) m (nI s.1) x s.2.2)) (fun s _ => (some (nI s.1, s.2.1), some (nI s.1, s.2.2))) (fun i s => OP T r B F a hx hm s.2.1 s.2.2 ∧ s.1 ≤ i ∧ ∀ u, i ≤ u → u < T → (∃ f, f < F ∧ hm.1 9 (48 + f) = nI u) → ∃ f, f < F ∧ s.2.2.1 9 (48 + f) = nI u) T (by omega) (0, hx, hm) ⟨OP.rf q, Nat.le_refl _, fun _ _ _ h => h⟩ (fun i s hi hs => by
    obtain ⟨c, x, y⟩ := s
    have hs : OP T r B F a hx hm x y ∧ c ≤ i ∧ ∀ u, i ≤ u → u < T → (∃ f, f < F ∧ hm.1 9 (48 + f) = nI u) → ∃ f, f < F ∧ y.1 9 (48 + f) = nI u := hs
    obtain ⟨o1, hc, hk⟩ := hs
    have q1 := o1.1
    have g1 := nI_ge hi (show T < 2 ^ 31 by omega)
    have hbit := isSet_has hv hT.1 hi
    have hTx := q1.Tx
    have hTm := q1.Tm
    by_cases hb : (¬ hm.1 9 (24 + i) ≤ nI (r 6) ∧ ∃ c, 0 < c ∧ c ≤ F ∧ f9_filesOn (nI i) hm = some (nI c))
    · have hbx := hbit.mpr hb
      have hbm : f9_has v (nI i) y = some 1 := by
        have hdec : Decidable (¬ hm.1 9 (24 + i) ≤ nI (r 6) ∧ ∃ c, 0 < c ∧ c ≤ F ∧ f9_filesOn (nI i) hm = some (nI c)) := Classical.propDecidable _
        have := f9_has_eq (hm := y) hv hT.1 hi
        rw [this, if_pos hb]
      have hon : ∃ f, f < F ∧ y.1 9 (48 + f) = nI i := by
        refine hk i (Nat.le_refl _) hi ?_
        obtain ⟨-, c', hc0, hcF, ec⟩ := hb
        have h9 := (q.filesOnC (nI i)).2
        rw [h9] at ec
        have h8 : fon (hm.1 9) (nI i) F = c' := nI_inj (by have := fon_le (hm.1 9) (nI i) F; omega) (by omega) (Option.some.inj ec)
        exact fon_ex (by omega)
      obtain ⟨f0, hf0, ef0⟩ := hon
      obtain ⟨c2, s, hc2, hs, t1, t2, t3, t4⟩ := q1.target (nI i)
      have hc2p : ¬ c2 = 0 := by
        have h9 := (q1.filesOnC (nI i)).2
        rw [h9] at t2
        have h8 : fon (y.1 9) (nI i) F = c2 := nI_inj (by have := fon_le (y.1 9) (nI i) F; omega) (by omega) (Option.some.inj t2)
        have h7 := fon_pos hf0 ef0
        omega
      rw [if_neg hc2p] at t4
      rcases hs with hs | ⟨o, ho, eo, hne, he⟩
      · refine ⟨(c, x, y), ⟨o1, by show c ≤ i + 1; omega, fun u h1 h2 h3 => hk u (by omega) h2 h3⟩, fun m => ?_⟩
        show (f7_rescueWeak_L9 a v _ (m + 1) (nI c) (nI i) x, f9_rescuesNow_L9 v _ (m + 1) (nI c) (nI i) y) = (f7_rescueWeak_L9 a v _ m (nI c) (nI (i + 1)) x, f9_rescuesNow_L9 v _ m (nI c) (nI (i + 1)) y)
        congr 1
        · simp only [f7_rescueWeak_L9, hTx, g1, if_false, hbx, if_true, t4, bind_s, hs, qj_e, qlt_e, nI_1]
        · simp only [f9_rescuesNow_L9, hTm, g1, if_false, hbm, bind_s, q1f, t3, hs, if_true, qj_e, qlt_e, nI_1]
      · subst eo
        have hio : i ≠ o := fun e => hne (by rw [e])
        obtain ⟨n, x2, y2, hn, c1, c2', o2, hst⟩ := q1.copyTo ka hi ho hio he
        have nm := nI_m1 (show o < 2 ^ 31 by omega)
        refine ⟨(c + 1, x2, y2), ⟨o1.tr o2, by show c + 1 ≤ i + 1; omega, fun u h1 h2 h3 => ?_⟩, fun m => ?_⟩
        · obtain ⟨f, hf, ef⟩ := hk u (by omega) h2 h3
          refine ⟨f, hf, ?_⟩
          show y2.1 9 (48 + f) = nI u
          rw [hst f hf (by rw [ef]; intro e; have := (nI_eq (by omega) (by omega)).mp e; omega)]
          exact ef
        · show (f7_rescueWeak_L9 a v _ (m + 1) (nI c) (nI i) x, f9_rescuesNow_L9 v _ (m + 1) (nI c) (nI i) y) = (f7_rescueWeak_L9 a v _ m (nI (c + 1)) (nI (i + 1)) x2, f9_rescuesNow_L9 v _ m (nI (c + 1)) (nI (i + 1)) y2)
          congr 1
          · simp only [f7_rescueWeak_L9, hTx, g1, if_false, hbx, if_true, t4, bind_s, nm, c1, qb2_s, qj_e, qlt_e, nI_1]
          · simp only [f9_rescuesNow_L9, hTm, g1, if_false, hbm, bind_s, q1f, t3, nm, c2', qb2_s, qj_e, qlt_e, nI_1]
    · have hbx : ¬ (v >>> (nI i &&& 31)) &&& 1 = 1 := fun h9 => hb (hbit.mp h9)
      have hbm : f9_has v (nI i) y = some 0 := by
        have hdec : Decidable (¬ hm.1 9 (24 + i) ≤ nI (r 6) ∧ ∃ c, 0 < c ∧ c ≤ F ∧ f9_filesOn (nI i) hm = some (nI c)) := Classical.propDecidable _
        have := f9_has_eq (hm := y) hv hT.1 hi
        rw [this, if_neg hb]
      refine ⟨(c, x, y), ⟨o1, by show c ≤ i + 1; omega, fun u h1 h2 h3 => hk u (by omega) h2 h3⟩, fun m => ?_⟩
      show (f7_rescueWeak_L9 a v _ (m + 1) (nI c) (nI i) x, f9_rescuesNow_L9 v _ (m + 1) (nI c) (nI i) y) = (f7_rescueWeak_L9 a v _ m (nI c) (nI (i + 1)) x, f9_rescuesNow_L9 v _ m (nI c) (nI (i + 1)) y)
      congr 1
      · simp only [f7_rescueWeak_L9, hTx, g1, if_false, hbx, if_true, qj_e, qlt_e, nI_1]
      · simp only [f9_rescuesNow_L9, hTm, g1, if_false, hbm, bind_s, if_true, qj_e, qlt_e, nI_1]) (fun m s hs => by
    obtain ⟨c, x, y⟩ := s
    have hs : OP T r B F a hx hm x y ∧ _ := hs
    show (f7_rescueWeak_L9 a v _ (m + 1) (nI c) (nI T) x, f9_rescuesNow_L9 v _ (m + 1) (nI c) (nI T) y) = _
    congr 1
    · rw [f7_rescueWeak_L9, hs.1.1.Tx, if_pos (nI_le (Nat.le_refl _) (by omega))]
    · rw [f9_rescuesNow_L9, hs.1.1.Tm, if_pos (nI_le (Nat.le_refl _) (by omega))])
  exact ⟨s.1, s.2.1, s.2.2, by omega, congrArg Prod.fst h1, congrArg Prod.snd h1, hI⟩
end PS
