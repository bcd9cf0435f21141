section PR
variable {T B F a : Nat} {r : Nat → Nat} {hx hm : qH}
/-- a file goes behind all on another tape: the row -/
def rowB (N : Nat → Int32) (f o : Nat) : Nat → Int32 := upd (upd (upd (upd N (48 + f) (nI o)) (72 + f) (N (16 + o))) (120 + f) 1) (16 + o) (N (16 + o) + N (96 + f))
theorem rowB_ne {N : Nat → Int32} {f o k : Nat} (h1 : k ≠ 48 + f) (h2 : k ≠ 72 + f) (h3 : k ≠ 120 + f) (h4 : k ≠ 16 + o) : rowB N f o k = N k := by
  unfold rowB
  rw [upd_ne h4, upd_ne h3, upd_ne h2, upd_ne h1]
theorem QQ.moveF (q : QQ T r B F hx a hm) (ka : kStage a) {f o : Nat} (hf : f < F) (ho : o < T) (hon : ¬ hm.1 9 (48 + f) = nI o) (he : ix (hm.1 9 (16 + o)) + ix (hm.1 9 (96 + f)) ≤ r 2 * r 3) : f7_putBehind a (nI f) (nI o) hx = some (hxB a hx f o) ∧ OP T r B F a hx hm (hxB a hx f o) (qrow hm 9 (rowB (hm.1 9) f o)) := by
  have hT := q.t31
  have hL := q.L96
  have hlo := ka.lo
  obtain ⟨⟨s1, s2, s3, s4⟩, s5, s6⟩ := q.2.2.2.1
  have hI := q.2.2.2.2
  have een := (hI.2.1 o ho).1
  have ebn := (q.fN hf).2.1
  have n16 : rowB (hm.1 9) f o (16 + o) = nI (ix (hm.1 9 (16 + o)) + ix (hm.1 9 (96 + f))) := by
    unfold rowB
    rw [upd_at, ← nI_add]
    have e1 : hm.1 9 (16 + o) = nI (ix (hm.1 9 (16 + o))) := een
    have e2 : hm.1 9 (96 + f) = nI (ix (hm.1 9 (96 + f))) := ebn
    rw [← e1, ← e2]
  have n48 : rowB (hm.1 9) f o (48 + f) = nI o := by
    unfold rowB
    rw [upd_ne (by omega), upd_ne (by omega), upd_ne (by omega), upd_at]
  have n72 : rowB (hm.1 9) f o (72 + f) = hm.1 9 (16 + o) := by
    unfold rowB
    rw [upd_ne (by omega), upd_ne (by omega), upd_at]
  have n120 : rowB (hm.1 9) f o (120 + f) = 1 := by
    unfold rowB
    rw [upd_ne (by omega), upd_at]
  have fx : FX a hx (hxB a hx f o) := ⟨fun b h1 _ => hxB_ne (by omega) (by omega) (by omega) (by omega), rfl⟩
  refine ⟨f7_putBehind_eq (by omega) (by omega), q.mk ka fx (FM.now fun k hk => rowB_ne (by omega) (by omega) (by omega) (by omega)) ?_ ?_, fx, (FM.now fun k hk => rowB_ne (by omega) (by omega) (by omega) (by omega)), ?_⟩
  · rw [qrow_at]
    refine ⟨⟨?_, ?_, ?_, ?_⟩, fun u hu => ?_, fun g hg => ?_⟩
    · rw [hxB_ne (by omega) (by omega) (by omega) (by omega), s1, rowB_ne (by omega) (by omega) (by omega) (by omega)]
    · rw [hxB_ne (by omega) (by omega) (by omega) (by omega), s2, rowB_ne (by omega) (by omega) (by omega) (by omega)]
    · rw [hxB_ne (by omega) (by omega) (by omega) (by omega), s3, rowB_ne (by omega) (by omega) (by omega) (by omega)]
    · rw [hxB_ne (by omega) (by omega) (by omega) (by omega), s4, rowB_ne (by omega) (by omega) (by omega) (by omega)]
    · obtain ⟨p1, p3, p4, p5, p6⟩ := s5 u hu
      unfold RP
      rw [hxB_ne (b := a + 1) (by omega) (by omega) (by omega) (by omega), hxB_ne (b := a + 2) (by omega) (by omega) (by omega) (by omega), hxB_ne (b := a + 4) (by omega) (by omega) (by omega) (by omega), hxB_ne (b := a + 5) (by omega) (by omega) (by omega) (by omega), hxB_ne (b := a + 6) (by omega) (by omega) (by omega) (by omega)]
      rw [rowB_ne (k := u) (by omega) (by omega) (by omega) (by omega), rowB_ne (k := 8 + u) (by omega) (by omega) (by omega) (by omega), rowB_ne (k := 24 + u) (by omega) (by omega) (by omega) (by omega), rowB_ne (k := 32 + u) (by omega) (by omega) (by omega) (by omega), rowB_ne (k := 40 + u) (by omega) (by omega) (by omega) (by omega)]
      refine ⟨p1, ?_, p4, p5, p6⟩
      rw [hxB_3]
      by_cases e : u = o
      · subst e
        rw [upd_at, p3, (s6 f hf).2.2.1]
        unfold rowB
        rw [upd_at]
      · rw [upd_ne e, p3, rowB_ne (by omega) (by omega) (by omega) (by omega)]
    · obtain ⟨e7, e8, e9, e10, e11⟩ := s6 g hg
      rw [hxB_7, hxB_8, hxB_10, hxB_ne (b := a + 9) (by omega) (by omega) (by omega) (by omega), hxB_ne (b := a + 11) (by omega) (by omega) (by omega) (by omega), rowB_ne (k := 96 + g) (by omega) (by omega) (by omega) (by omega), rowB_ne (k := 144 + g) (by omega) (by omega) (by omega) (by omega)]
      by_cases e : g = f
      · subst e
        rw [upd_at, upd_at, upd_at, n48, n72, n120, (s5 o ho).2.1]
        exact ⟨rfl, rfl, e9, rfl, e11⟩
      · rw [upd_ne e, upd_ne e, upd_ne e, rowB_ne (k := 48 + g) (by omega) (by omega) (by omega) (by omega), rowB_ne (k := 72 + g) (by omega) (by omega) (by omega) (by omega), rowB_ne (k := 120 + g) (by omega) (by omega) (by omega) (by omega)]
        exact ⟨e7, e8, e9, e10, e11⟩
  · rw [qrow_at]
    exact hI.move hT.1 hL.1 hT.2 ho hf hon he n48 n72 n120 n16 (fun k h1 h2 h3 h4 => rowB_ne h1 h2 h3 h4)
  · rw [hxB_ne (by omega) (by omega) (by omega) (by omega), qrow_ne (by omega)]
/-- a tape that no file is on is empty anew -/
def rowW (N : Nat → Int32) (t : Nat) : Nat → Int32 := upd (upd N (16 + t) 0) (32 + t) 0
theorem rowW_ne {N : Nat → Int32} {t k : Nat} (h1 : k ≠ 16 + t) (h2 : k ≠ 32 + t) : rowW N t k = N k := by
  unfold rowW
  rw [upd_ne h2, upd_ne h1]
theorem IN.wipe {N : Nat → Int32} {t : Nat} (h : IN T r B F N) (hT : T ≤ 8) (hF : F ≤ 24) (ht : t < T) (hno : ∀ f, f < F → ¬ N (48 + f) = nI t) : IN T r B F (rowW N t) := by
  obtain ⟨⟨i1, i2, i3, i4⟩, i5, i6, i7, i8, i9, i10⟩ := h
  have f1 : ∀ f, f < F → rowW N t (48 + f) = N (48 + f) ∧ rowW N t (72 + f) = N (72 + f) ∧ rowW N t (96 + f) = N (96 + f) ∧ rowW N t (120 + f) = N (120 + f) ∧ rowW N t (144 + f) = N (144 + f) := fun f hf => ⟨rowW_ne (by omega) (by omega), rowW_ne (by omega) (by omega), rowW_ne (by omega) (by omega), rowW_ne (by omega) (by omega), rowW_ne (by omega) (by omega)⟩
  have f4 : rowW N t 171 = N 171 := rowW_ne (by omega) (by omega)
  have f3 : rowW N t 168 = N 168 := rowW_ne (by omega) (by omega)
  have n16 : rowW N t (16 + t) = 0 := by
    unfold rowW
    rw [upd_ne (by omega), upd_at]
  refine ⟨⟨by rw [f3]; exact i1, i2, by rw [f4]; exact i3, by rw [f4]; exact i4⟩, fun u hu => ?_, fun u v hu hv => ?_, fun f hf => ?_, fun f g hf hg hne => ?_, fun f g hf hg => ?_, ?_⟩
  · rw [rowW_ne (k := u) (by omega) (by omega), rowW_ne (k := 8 + u) (by omega) (by omega)]
    refine ⟨?_, ?_, (i5 u hu).2.2⟩
    · by_cases e : u = t
      · subst e; rw [n16]; rfl
      · rw [rowW_ne (by omega) (by omega)]; exact (i5 u hu).1
    · by_cases e : u = t
      · subst e; rw [n16]; exact Nat.zero_le _
      · rw [rowW_ne (by omega) (by omega)]; exact (i5 u hu).2.1
  · rw [rowW_ne (k := u) (by omega) (by omega), rowW_ne (k := v) (by omega) (by omega)]
    exact i6 u v hu hv
  · obtain ⟨g1, g2, g3, g4, g5⟩ := f1 f hf
    rw [g1, g2, g3, g4, g5, f4]
    obtain ⟨j1, j2, j3⟩ := i7 f hf
    refine ⟨j1, ?_, j3⟩
    rcases j2 with j2 | ⟨⟨u, hu, k1, k2⟩, j2⟩
    · exact Or.inl j2
    · refine Or.inr ⟨⟨u, hu, k1, ?_⟩, j2⟩
      have : u ≠ t := fun e => hno f hf (e ▸ k1)
      rw [rowW_ne (by omega) (by omega)]
      exact k2
  · obtain ⟨g1, g2, g3, -⟩ := f1 f hf
    obtain ⟨k1, k2, k3, -⟩ := f1 g hg
    rw [g1, g2, g3, k1, k2, k3]
    exact i8 f g hf hg hne
  · rw [(f1 f hf).2.2.2.2, (f1 g hg).2.2.2.2]
    exact i9 f g hf hg
  · rw [nask_congr F (fun f hf => (f1 f hf).2.2.2.2)]
    exact i10
def hxW (a : Nat) (h : qH) (t : Nat) : qH := qrow (qrow h (a + 3) (upd (h.1 (a + 3)) t 0)) (a + 5) (upd (h.1 (a + 5)) t 0)
theorem hxW_3 {h : qH} {t : Nat} : (hxW a h t).1 (a + 3) = upd (h.1 (a + 3)) t 0 := by
  unfold hxW
  rw [qrow_ne (by omega), qrow_at]
theorem hxW_5 {h : qH} {t : Nat} : (hxW a h t).1 (a + 5) = upd (h.1 (a + 5)) t 0 := by
  unfold hxW
  rw [qrow_at]
theorem hxW_ne {h : qH} {t b : Nat} (h3 : b ≠ a + 3) (h5 : b ≠ a + 5) : (hxW a h t).1 b = h.1 b := by
  unfold hxW
  rw [qrow_ne h5, qrow_ne h3]
theorem QQ.wipe (q : QQ T r B F hx a hm) (ka : kStage a) {t : Nat} (ht : t < T) (hno : ∀ f, f < F → ¬ hm.1 9 (48 + f) = nI t) : OP T r B F a hx hm (hxW a hx t) (qrow hm 9 (rowW (hm.1 9) t)) := by
  have hT := q.t31
  have hlo := ka.lo
  obtain ⟨⟨s1, s2, s3, s4⟩, s5, s6⟩ := q.2.2.2.1
  have hI := q.2.2.2.2
  have fx : FX a hx (hxW a hx t) := ⟨fun b h1 _ => hxW_ne (by omega) (by omega), rfl⟩
  refine ⟨q.mk ka fx (FM.now fun k hk => rowW_ne (by omega) (by omega)) ?_ ?_, fx, (FM.now fun k hk => rowW_ne (by omega) (by omega)), ?_⟩
  · rw [qrow_at]
    refine ⟨⟨?_, ?_, ?_, ?_⟩, fun u hu => ?_, fun g hg => ?_⟩
    · rw [hxW_ne (by omega) (by omega), s1, rowW_ne (by omega) (by omega)]
    · rw [hxW_ne (by omega) (by omega), s2, rowW_ne (by omega) (by omega)]
    · rw [hxW_ne (by omega) (by omega), s3, rowW_ne (by omega) (by omega)]
    · rw [hxW_ne (by omega) (by omega), s4, rowW_ne (by omega) (by omega)]
    · obtain ⟨p1, p3, p4, p5, p6⟩ := s5 u hu
      unfold RP
      rw [hxW_ne (b := a + 1) (by omega) (by omega), hxW_ne (b := a + 2) (by omega) (by omega), hxW_ne (b := a + 4) (by omega) (by omega), hxW_ne (b := a + 6) (by omega) (by omega), rowW_ne (k := u) (by omega) (by omega), rowW_ne (k := 8 + u) (by omega) (by omega), rowW_ne (k := 24 + u) (by omega) (by omega), rowW_ne (k := 40 + u) (by omega) (by omega), hxW_3, hxW_5]
      by_cases e : u = t
      · subst e
        rw [upd_at, upd_at]
        unfold rowW
        rw [upd_at, upd_ne (by omega), upd_at]
        exact ⟨p1, rfl, p4, rfl, p6⟩
      · rw [upd_ne e, upd_ne e, rowW_ne (by omega) (by omega), rowW_ne (by omega) (by omega)]
        exact ⟨p1, p3, p4, p5, p6⟩
    · rw [hxW_ne (b := a + 7) (by omega) (by omega), hxW_ne (b := a + 8) (by omega) (by omega), hxW_ne (b := a + 9) (by omega) (by omega), hxW_ne (b := a + 10) (by omega) (by omega), hxW_ne (b := a + 11) (by omega) (by omega), rowW_ne (k := 48 + g) (by omega) (by omega), rowW_ne (k := 72 + g) (by omega) (by omega), rowW_ne (k := 96 + g) (by omega) (by omega), rowW_ne (k := 120 + g) (by omega) (by omega), rowW_ne (k := 144 + g) (by omega) (by omega)]
      exact s6 g hg
  · rw [qrow_at]
    exact hI.wipe hT.1 hT.2 ht hno
  · rw [hxW_ne (by omega) (by omega), qrow_ne (by omega)]
/-- which file comes next -/
theorem ML.next {N : Nat → Int32} {t b n i : Nat} {m : Nat → Nat} {s : Int32} (h : ML N F t (fun _ => True) n m) (hI : IN T r B F N) (ht : t < 2 ^ 31) (hF : F ≤ 24) (hi : i < n) (hb : b ≤ ix (N (72 + m i))) (hlo : ∀ j, j < i → ix (N (72 + m j)) < b) (hs : FI N t b F s) : s = nI (m i) := by
  obtain ⟨m1, m2, -⟩ := h.1 i hi
  rcases hs with ⟨-, hs⟩ | ⟨f, hf, e, h1, h2, h3⟩
  · exact absurd hb (hs (m i) m1 m2)
  · obtain ⟨j, hj, ej⟩ := h.2.2 f hf h1 trivial
    have h4 := h3 (m i) m1 m2 hb
    have : j = i := by
      rcases Nat.lt_trichotomy j i with h9 | h9 | h9
      · have := hlo j h9
        rw [ej] at this
        omega
      · exact h9
      · have := h.2.1 i j h9 hj
        rw [ej] at this
        omega
    rw [e, ← ej, this]
theorem ML.none {N : Nat → Int32} {t b n : Nat} {m : Nat → Nat} {s : Int32} (h : ML N F t (fun _ => True) n m) (hlo : ∀ j, j < n → ix (N (72 + m j)) < b) (hs : FI N t b F s) : s = -1 := by
  rcases hs with ⟨e, -⟩ | ⟨f, hf, e, h1, h2, h3⟩
  · exact e
  · exfalso
    obtain ⟨j, hj, ej⟩ := h.2.2 f hf h1 trivial
    have := hlo j hj
    rw [ej] at this
    omega
theorem FI.congr {N N' : Nat → Int32} {t b i : Nat} {s : Int32} (h : FI N' t b i s) (hi : i ≤ 24) (hN : ∀ f, f < 24 → N' (48 + f) = N (48 + f) ∧ N' (72 + f) = N (72 + f)) : FI N t b i s := by
  rcases h with ⟨e, h⟩ | ⟨f, hf, e, h1, h2, h3⟩
  · exact Or.inl ⟨e, fun g hg ho => by rw [← (hN g (by omega)).1] at ho; rw [← (hN g (by omega)).2]; exact h g hg ho⟩
  · refine Or.inr ⟨f, hf, e, by rw [← (hN f (by omega)).1]; exact h1, by rw [← (hN f (by omega)).2]; exact h2, fun g hg ho hb => ?_⟩
    rw [← (hN g (by omega)).1] at ho
    rw [← (hN g (by omega)).2] at hb ⊢
    rw [← (hN f (by omega)).2]
    exact h3 g hg ho hb
/-- all of a tape's files are read, one behind another -/
theorem QQ.readAll (q : QQ T r B F hx a hm) (ka : kStage a) {t d n : Nat} {o : Int32} {m : Nat → Nat} (ht : t < T) (hd : hx.1 (a + 1) t = nI d) (hd2 : d < 2 ^ 31) (hM : ML (hm.1 9) F t (fun _ => True) n m) (hw : ∀ i, i < n → hm.1 12 i = nI (m i)) (kx : Int32 → Int32 → qH → Option (Int32 × qH)) (km : Int32 → qH → Option (Int32 × qH)) : ∃ s : Nat × qH × qH, (OP T r B F a hx hm s.2.1 s.2.2 ∧ KP (hm.1 9) (s.2.2.1 9) ∧ s.2.2.1 12 = hm.1 12) ∧ f7_copyTo_L11 a (nI t) o kx qN 0 0 hx = kx (nI s.1) (nI n) s.2.1 ∧ f9_copiesNow_L14 (nI t) o (nI n) km qN 0 hm = km (nI n) s.2.2 := by
  have hT := q.t31
  have hL := q.L96
  have hn := hM.le
  obtain ⟨s, ⟨hI, hK, -, h12, -, -, hlo⟩, h1⟩ := lq10 (σ := Nat × qH × qH) (fun m s x => (f7_copyTo_L11 a (nI t) o kx m (nI s.1) x s.2.1, f9_copiesNow_L14 (nI t) o (nI n) km m x s.2.2)) (fun s x => (kx (nI s.1) x s.2.1, km x s.2.2)) (fun i s => OP T r B F a hx hm s.2.1 s.2.2 ∧ KP (hm.1 9) (s.2.2.1 9) ∧ s.2.1.1 (a + 1) = hx.1 (a + 1) ∧ s.2.2.1 12 = hm.1 12 ∧ s.1 < 2 ^ 31 ∧ (∀ j, i ≤ j → j < n → s.1 ≤ ix (hm.1 9 (72 + m j))) ∧ ∀ j, j < i → j < n → ix (hm.1 9 (72 + m j)) < s.1) n (by omega) (0, hx, hm) ⟨OP.rf q, KP.rf, rfl, rfl, by show 0 < 2 ^ 31; omega, fun j _ _ => Nat.zero_le _, fun j hj => by omega⟩ (fun i s hi hv => by
    obtain ⟨b, x, y⟩ := s
    have hv : OP T r B F a hx hm x y ∧ KP (hm.1 9) (y.1 9) ∧ x.1 (a + 1) = hx.1 (a + 1) ∧ y.1 12 = hm.1 12 ∧ b < 2 ^ 31 ∧ (∀ j, i ≤ j → j < n → b ≤ ix (hm.1 9 (72 + m j))) ∧ ∀ j, j < i → j < n → ix (hm.1 9 (72 + m j)) < b := hv
    obtain ⟨o1, k1, d1, w1, hb, hge, hlo⟩ := hv
    have q1 := o1.1
    obtain ⟨m1, m2, -⟩ := hM.1 i hi
    have c48 : y.1 9 (48 + m i) = nI t := by rw [k1 _ (by omega)]; exact m2
    have c72 : y.1 9 (72 + m i) = hm.1 9 (72 + m i) := k1 _ (by omega)
    have c96 : y.1 9 (96 + m i) = hm.1 9 (96 + m i) := k1 _ (by omega)
    obtain ⟨z1, z2, z3, z4⟩ := q1.fN m1
    obtain ⟨-, z5, z6⟩ := q1.2.2.2.2.fit hT.1 m1 (show t < 2 ^ 31 by omega) c48
    obtain ⟨s, hs, f1⟩ := q1.first (t := t) hb
    have hs' : s = nI (m i) := hM.next q.2.2.2.2 (by omega) hT.2 hi (hge i (Nat.le_refl _) hi) (fun j hj => hlo j hj (by omega)) (hs.congr hT.2 fun f hf => ⟨k1 _ (by omega), k1 _ (by omega)⟩)
    subst hs'
    obtain ⟨x2, y2, r1, r2, o2, k2, d2, w2⟩ := q1.reads (b := ix (y.1 9 (72 + m i))) (c := ix (y.1 9 (96 + m i))) ka ht (by rw [d1]; exact hd) hd2 z3 (by omega)
    have z1' : y.1 9 (72 + m i) = nI (ix (y.1 9 (72 + m i))) := z1
    have z2' : y.1 9 (96 + m i) = nI (ix (y.1 9 (96 + m i))) := z2
    rw [← z1', ← z2'] at r1 r2
    have g1 := nI_ge (show i < F by omega) (show F < 2 ^ 31 by omega)
    have g2 := nI_ge hi (show n < 2 ^ 31 by omega)
    have e8 := (q1.fl m1).2.1
    have e9 := (q1.fl m1).2.2.1
    have e8' := (o2.1.fl m1).2.1
    have e9' := (o2.1.fl m1).2.2.1
    have y72 : y2.1 9 (72 + m i) = y.1 9 (72 + m i) := k2 _ (by omega)
    have y96 : y2.1 9 (96 + m i) = y.1 9 (96 + m i) := k2 _ (by omega)
    have esum : y.1 9 (72 + m i) + y.1 9 (96 + m i) = nI (ix (y.1 9 (72 + m i)) + ix (y.1 9 (96 + m i))) := by
      rw [← nI_add, ← z1', ← z2']
    have nm := nI_m1 (show m i < 2 ^ 31 by omega)
    have ew : y.1 12 i = nI (m i) := by rw [w1]; exact hw i hi
    refine ⟨(ix (y.1 9 (72 + m i)) + ix (y.1 9 (96 + m i)), x2, y2), ⟨o1.tr o2, k1.tr k2, d2.trans d1, (w2 12 (by omega)).trans w1, ?_, ?_, ?_⟩, fun m' => ?_⟩
    · show ix (y.1 9 (72 + m i)) + ix (y.1 9 (96 + m i)) < 2 ^ 31
      omega
    · intro j hij hj
      show ix (y.1 9 (72 + m i)) + ix (y.1 9 (96 + m i)) ≤ ix (hm.1 9 (72 + m j))
      have h9 := hM.2.1 i j (by omega) hj
      obtain ⟨j1, j2, -⟩ := hM.1 j hj
      rw [c72, c96]
      have p1 := (q.fN j1).2.2.1
      rcases q.2.2.2.2.dis m1 j1 (show t < 2 ^ 31 by omega) m2 j2 with h8 | h8 | h8
      · rw [h8] at h9; omega
      · exact h8
      · omega
    · intro j hij hj
      show ix (hm.1 9 (72 + m j)) < ix (y.1 9 (72 + m i)) + ix (y.1 9 (96 + m i))
      rw [c72]
      by_cases e : j = i
      · subst e; omega
      · have := hM.2.1 j i (by omega) hi
        omega
    · show (f7_copyTo_L11 a (nI t) o kx (m' + 1) (nI b) (nI i) x, f9_copiesNow_L14 (nI t) o (nI n) km (m' + 1) (nI i) y) = (f7_copyTo_L11 a (nI t) o kx m' (nI (ix (y.1 9 (72 + m i)) + ix (y.1 9 (96 + m i)))) (nI (i + 1)) x2, f9_copiesNow_L14 (nI t) o (nI n) km m' (nI (i + 1)) y2)
      congr 1
      · simp only [f7_copyTo_L11, q1.Fx, g1, if_false, f1, bind_s, nm, q24 (show m i < 24 by omega), ix_nI (show m i < 2 ^ 31 by omega), qg_t, e8, e9, r1, e8', e9', y72, y96, esum, qlt_e, nI_1]
      · simp only [f9_copiesNow_L14, g2, if_false, q24 (show i < 24 by omega), ix_nI (show i < 2 ^ 31 by omega), ew, la_72, la_96, q353 (show 72 + m i < 353 by omega), i353 (show 72 + m i < 353 by omega), q353 (show 96 + m i < 353 by omega), i353 (show 96 + m i < 353 by omega), qg_t, r2, bind_s, qlt_e, nI_1]) (fun m' s hv => by
    obtain ⟨b, x, y⟩ := s
    have hv : OP T r B F a hx hm x y ∧ KP (hm.1 9) (y.1 9) ∧ x.1 (a + 1) = hx.1 (a + 1) ∧ y.1 12 = hm.1 12 ∧ b < 2 ^ 31 ∧ (∀ j, n ≤ j → j < n → b ≤ ix (hm.1 9 (72 + m j))) ∧ ∀ j, j < n → j < n → ix (hm.1 9 (72 + m j)) < b := hv
    obtain ⟨o1, k1, d1, w1, hb, -, hlo⟩ := hv
    have q1 := o1.1
    show (f7_copyTo_L11 a (nI t) o kx (m' + 1) (nI b) (nI n) x, f9_copiesNow_L14 (nI t) o (nI n) km (m' + 1) (nI n) y) = (kx (nI b) (nI n) x, km (nI n) y)
    congr 1
    · rw [f7_copyTo_L11, q1.Fx]
      by_cases e : F ≤ n
      · rw [if_pos (nI_le e (by omega))]
      · obtain ⟨s, hs, f1⟩ := q1.first (t := t) hb
        have hs' : s = -1 := hM.none (fun j hj => hlo j hj hj) (hs.congr hT.2 fun f hf => ⟨k1 _ (by omega), k1 _ (by omega)⟩)
        rw [if_neg (nI_ge (by omega) (by omega)), f1, bind_s, if_pos hs']
    · rw [f9_copiesNow_L14, if_pos (nI_le (Nat.le_refl _) (by omega))])
  exact ⟨s, ⟨hI, hK, h12⟩, congrArg Prod.fst h1, congrArg Prod.snd h1⟩
end PR
