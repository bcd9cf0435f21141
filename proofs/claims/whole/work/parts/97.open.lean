section PJ1
variable {T B F : Nat} {r : Nat → Nat} {hx hm : qH}
theorem begin22 {h : qH} (k : Int32 → qH → Option qH) : ∃ s : qH, (∀ t, t < 8 → s.1 52 t = -1 ∧ s.1 53 t = 0 ∧ s.1 54 t = 0 ∧ s.1 55 t = h.1 9 t ∧ s.1 56 t = 0 ∧ s.1 57 t = 0) ∧ (∀ b, ¬ (52 ≤ b ∧ b ≤ 57) → s.1 b = h.1 b) ∧ s.2 = h.2 ∧ f7_begin_L22 51 k qN 0 h = k (nI 8) s := by
  obtain ⟨s, ⟨h1, h2, h3⟩, e⟩ := lq10 (σ := qH) (fun m s x => f7_begin_L22 51 k m x s) (fun s x => k x s) (fun i s => (∀ t, t < i → s.1 52 t = -1 ∧ s.1 53 t = 0 ∧ s.1 54 t = 0 ∧ s.1 55 t = h.1 9 t ∧ s.1 56 t = 0 ∧ s.1 57 t = 0) ∧ (∀ b, ¬ (52 ≤ b ∧ b ≤ 57) → s.1 b = h.1 b) ∧ s.2 = h.2) 8 (by omega) h ⟨fun t ht => by omega, fun _ _ => rfl, rfl⟩ (fun i s hi hs => by
    obtain ⟨s1, s2, s3⟩ := hs
    have g1 : ¬ (8 : Int32) ≤ nI i := nI_ge (b := 8) hi (by omega)
    refine ⟨qrow (qrow (qrow (qrow (qrow (qrow s 52 (upd (s.1 52) i (-1))) 53 (upd (s.1 53) i 0)) 54 (upd (s.1 54) i 0)) 55 (upd (s.1 55) i (h.1 9 i))) 56 (upd (s.1 56) i 0)) 57 (upd (s.1 57) i 0), ⟨fun t ht => ?_, fun b hb => ?_, s3⟩, fun m => ?_⟩
    · rw [qrow_ne (show (52 : Nat) ≠ 57 by omega), qrow_ne (show (52 : Nat) ≠ 56 by omega), qrow_ne (show (52 : Nat) ≠ 55 by omega), qrow_ne (show (52 : Nat) ≠ 54 by omega), qrow_ne (show (52 : Nat) ≠ 53 by omega), qrow_at, qrow_ne (show (53 : Nat) ≠ 57 by omega), qrow_ne (show (53 : Nat) ≠ 56 by omega), qrow_ne (show (53 : Nat) ≠ 55 by omega), qrow_ne (show (53 : Nat) ≠ 54 by omega), qrow_at, qrow_ne (show (54 : Nat) ≠ 57 by omega), qrow_ne (show (54 : Nat) ≠ 56 by omega), qrow_ne (show (54 : Nat) ≠ 55 by omega), qrow_at, qrow_ne (show (55 : Nat) ≠ 57 by omega), qrow_ne (show (55 : Nat) ≠ 56 by omega), qrow_at, qrow_ne (show (56 : Nat) ≠ 57 by omega), qrow_at, qrow_at]
      by_cases e : t = i
      · subst e
        rw [upd_at, upd_at, upd_at, upd_at, upd_at, upd_at]
        exact ⟨rfl, rfl, rfl, rfl, rfl, rfl⟩
      · rw [upd_ne e, upd_ne e, upd_ne e, upd_ne e, upd_ne e, upd_ne e]
        exact s1 t (by omega)
    · rw [qrow_ne (by omega), qrow_ne (by omega), qrow_ne (by omega), qrow_ne (by omega), qrow_ne (by omega), qrow_ne (by omega)]
      exact s2 b hb
    · show f7_begin_L22 51 k (m + 1) (nI i) s = f7_begin_L22 51 k m (nI (i + 1)) _
      simp only [f7_begin_L22, g1, if_false, q8 hi, qg_t, qlt_e, ix_nI (show i < 2 ^ 31 by omega), qw, show (51 : Nat) + 1 = 52 from rfl, show (51 : Nat) + 2 = 53 from rfl, show (51 : Nat) + 3 = 54 from rfl, show (51 : Nat) + 4 = 55 from rfl, show (51 : Nat) + 5 = 56 from rfl, show (51 : Nat) + 6 = 57 from rfl, qrow_ne (show (53 : Nat) ≠ 52 by omega), qrow_ne (show (54 : Nat) ≠ 53 by omega), qrow_ne (show (54 : Nat) ≠ 52 by omega), qrow_ne (show (55 : Nat) ≠ 54 by omega), qrow_ne (show (55 : Nat) ≠ 53 by omega), qrow_ne (show (55 : Nat) ≠ 52 by omega), qrow_ne (show (9 : Nat) ≠ 54 by omega), qrow_ne (show (9 : Nat) ≠ 53 by omega), qrow_ne (show (9 : Nat) ≠ 52 by omega), qrow_ne (show (56 : Nat) ≠ 55 by omega), qrow_ne (show (56 : Nat) ≠ 54 by omega), qrow_ne (show (56 : Nat) ≠ 53 by omega), qrow_ne (show (56 : Nat) ≠ 52 by omega), qrow_ne (show (57 : Nat) ≠ 56 by omega), qrow_ne (show (57 : Nat) ≠ 55 by omega), qrow_ne (show (57 : Nat) ≠ 54 by omega), qrow_ne (show (57 : Nat) ≠ 53 by omega), qrow_ne (show (57 : Nat) ≠ 52 by omega), s2 9 (by omega), nI_1]) (fun m s _ => by
    show f7_begin_L22 51 k (m + 1) (nI 8) s = _
    rw [f7_begin_L22, if_pos (by decide)])
  exact ⟨s, h1, h2, h3, e⟩
theorem take10 (k : Int32 → qH → Option (Int32 × qH)) : ∃ w, (∀ j, j < 8 → w j = hm.1 2 j) ∧ f9_takeHall_L10 k qN 0 hm = k (nI 8) (qrow hm 5 w) := by
  obtain ⟨w, h1, h3⟩ := lq10 (σ := Nat → Int32) (fun m w x => f9_takeHall_L10 k m x (qrow hm 5 w)) (fun w x => k x (qrow hm 5 w)) (fun i w => ∀ j, j < i → w j = hm.1 2 j) 8 (by omega) (hm.1 5) (fun j hj => by omega) (fun i w hi hw => by
    have g1 : ¬ (8 : Int32) ≤ nI i := nI_ge (b := 8) hi (by omega)
    have es : (qrow hm 5 w).1 2 = hm.1 2 := qrow_ne (by omega)
    refine ⟨upd w i (hm.1 2 i), fun j hj => ?_, fun m => ?_⟩
    · by_cases e : j = i
      · subst e; rw [upd_at]
      · rw [upd_ne e]; exact hw j (by omega)
    · show f9_takeHall_L10 k (m + 1) (nI i) (qrow hm 5 w) = f9_takeHall_L10 k m (nI (i + 1)) (qrow hm 5 (upd w i (hm.1 2 i)))
      simp only [f9_takeHall_L10, g1, if_false, q8 hi, qg_t, qlt_e, ix_nI (show i < 2 ^ 31 by omega), es, qw, qrow_at, qrow_qrow, nI_1]) (fun m w _ => by
    show f9_takeHall_L10 k (m + 1) (nI 8) (qrow hm 5 w) = _
    rw [f9_takeHall_L10, if_pos (by decide)])
  have h3' : f9_takeHall_L10 k qN 0 (qrow hm 5 (hm.1 5)) = k (nI 8) (qrow hm 5 w) := h3
  rw [qrow_self] at h3'
  exact ⟨w, h1, h3'⟩
theorem take36 (k : Int32 → qH → Option (Int32 × qH)) : ∃ w, (∀ j, j < 353 → w j = 0) ∧ f9_takeHall_L36 k qN 0 hm = k (nI 353) (qrow hm 9 w) := by
  obtain ⟨w, h1, h3⟩ := lq10 (σ := Nat → Int32) (fun m w x => f9_takeHall_L36 k m x (qrow hm 9 w)) (fun w x => k x (qrow hm 9 w)) (fun i w => ∀ j, j < i → w j = 0) 353 (by omega) (hm.1 9) (fun j hj => by omega) (fun i w hi hw => by
    have g1 : ¬ (353 : Int32) ≤ nI i := nI_ge (b := 353) hi (by omega)
    refine ⟨upd w i 0, fun j hj => ?_, fun m => ?_⟩
    · by_cases e : j = i
      · subst e; rw [upd_at]
      · rw [upd_ne e]; exact hw j (by omega)
    · show f9_takeHall_L36 k (m + 1) (nI i) (qrow hm 9 w) = f9_takeHall_L36 k m (nI (i + 1)) (qrow hm 9 (upd w i 0))
      simp only [f9_takeHall_L36, g1, if_false, q353 hi, qg_t, qlt_e, ix_nI (show i < 2 ^ 31 by omega), qw, qrow_at, qrow_qrow, nI_1]) (fun m w _ => by
    show f9_takeHall_L36 k (m + 1) (nI 353) (qrow hm 9 w) = _
    rw [f9_takeHall_L36, if_pos (by decide)])
  have h3' : f9_takeHall_L36 k qN 0 (qrow hm 9 (hm.1 9)) = k (nI 353) (qrow hm 9 w) := h3
  rw [qrow_self] at h3'
  exact ⟨w, h1, h3'⟩
theorem lm_2 (k : Nat) : (2 : Int32) * nI k = nI (2 * k) := nI_mul 2 k
theorem take58 (hT : T ≤ 8) (h12 : hm.1 0 12 = nI T) (h0 : ∀ j, j < 353 → hm.1 9 j = 0) (k : Int32 → qH → Option (Int32 × qH)) : ∃ w6 w9, (∀ t, t < T → w6 t = hm.1 3 (2 * t) ∧ w9 t = nI t ∧ w9 (8 + t) = -1 ∧ w9 (24 + t) = hm.1 3 (2 * t + 1)) ∧ (∀ j, (16 ≤ j ∧ j < 24) ∨ 32 ≤ j → j < 353 → w9 j = 0) ∧ f9_takeHall_L58 k qN 0 hm = k (nI T) (qrow (qrow hm 6 w6) 9 w9) := by
  obtain ⟨s, ⟨h1, h2⟩, h3⟩ := lq10 (σ := (Nat → Int32) × (Nat → Int32)) (fun m s x => f9_takeHall_L58 k m x (qrow (qrow hm 6 s.1) 9 s.2)) (fun s x => k x (qrow (qrow hm 6 s.1) 9 s.2)) (fun i s => (∀ t, t < i → s.1 t = hm.1 3 (2 * t) ∧ s.2 t = nI t ∧ s.2 (8 + t) = -1 ∧ s.2 (24 + t) = hm.1 3 (2 * t + 1)) ∧ ∀ j, (16 ≤ j ∧ j < 24) ∨ 32 ≤ j → j < 353 → s.2 j = 0) T (by omega) (hm.1 6, hm.1 9) ⟨fun t ht => by omega, fun j _ hj => h0 j hj⟩ (fun i s hi hs => by
    obtain ⟨w6, w9⟩ := s
    have hs : (∀ t, t < i → w6 t = hm.1 3 (2 * t) ∧ w9 t = nI t ∧ w9 (8 + t) = -1 ∧ w9 (24 + t) = hm.1 3 (2 * t + 1)) ∧ ∀ j, (16 ≤ j ∧ j < 24) ∨ 32 ≤ j → j < 353 → w9 j = 0 := hs
    obtain ⟨s1, s2⟩ := hs
    have g1 := nI_ge hi (show T < 2 ^ 31 by omega)
    have c0 : ∀ f g, (qrow (qrow hm 6 f) 9 g).1 0 = hm.1 0 := fun f g => by rw [qrow_ne (by omega), qrow_ne (by omega)]
    have c3 : ∀ f g, (qrow (qrow hm 6 f) 9 g).1 3 = hm.1 3 := fun f g => by rw [qrow_ne (by omega), qrow_ne (by omega)]
    have c6 : ∀ f g, (qrow (qrow hm 6 f) 9 g).1 6 = f := fun f g => by rw [qrow_ne (by omega), qrow_at]
    have sw : ∀ (f g e : Nat → Int32), qrow (qrow (qrow hm 6 f) 9 g) 6 e = qrow (qrow hm 6 e) 9 g := fun f g e => by rw [qrow_comm (by omega), qrow_qrow]
    refine ⟨(upd w6 i (hm.1 3 (2 * i)), upd (upd (upd w9 i (nI i)) (8 + i) (-1)) (24 + i) (hm.1 3 (2 * i + 1))), ⟨fun t ht => ?_, fun j hj hj' => ?_⟩, fun m => ?_⟩
    · show upd w6 i (hm.1 3 (2 * i)) t = _ ∧ upd (upd (upd w9 i (nI i)) (8 + i) (-1)) (24 + i) (hm.1 3 (2 * i + 1)) t = _ ∧ upd (upd (upd w9 i (nI i)) (8 + i) (-1)) (24 + i) (hm.1 3 (2 * i + 1)) (8 + t) = _ ∧ upd (upd (upd w9 i (nI i)) (8 + i) (-1)) (24 + i) (hm.1 3 (2 * i + 1)) (24 + t) = _
      by_cases e : t = i
      · subst e
        rw [upd_at, upd_ne (show t ≠ 24 + t by omega), upd_ne (show t ≠ 8 + t by omega), upd_at, upd_ne (show 8 + t ≠ 24 + t by omega), upd_at, upd_at]
        exact ⟨rfl, rfl, rfl, rfl⟩
      · rw [upd_ne e, upd_ne (show t ≠ 24 + i by omega), upd_ne (show t ≠ 8 + i by omega), upd_ne e, upd_ne (show 8 + t ≠ 24 + i by omega), upd_ne (show 8 + t ≠ 8 + i by omega), upd_ne (show 8 + t ≠ i by omega), upd_ne (show 24 + t ≠ 24 + i by omega), upd_ne (show 24 + t ≠ 8 + i by omega), upd_ne (show 24 + t ≠ i by omega)]
        exact s1 t (by omega)
    · show upd (upd (upd w9 i (nI i)) (8 + i) (-1)) (24 + i) (hm.1 3 (2 * i + 1)) j = 0
      rw [upd_ne (by omega), upd_ne (by omega), upd_ne (by omega)]
      exact s2 j hj hj'
    · show f9_takeHall_L58 k (m + 1) (nI i) (qrow (qrow hm 6 w6) 9 w9) = f9_takeHall_L58 k m (nI (i + 1)) (qrow (qrow hm 6 (upd w6 i (hm.1 3 (2 * i)))) 9 (upd (upd (upd w9 i (nI i)) (8 + i) (-1)) (24 + i) (hm.1 3 (2 * i + 1))))
      simp only [f9_takeHall_L58, c0, h12, g1, if_false, lm_2, qin_nI (show 2 * i < 16 by omega) (by omega), q8 (show i < 8 by omega), qg_t, qlt_e, ix_nI (show i < 2 ^ 31 by omega), ix_nI (show 2 * i < 2 ^ 31 by omega), c3, qw, c6, sw, la_0, la_8, la_24, q353 (show i < 353 by omega), q353 (show 8 + i < 353 by omega), q353 (show 24 + i < 353 by omega), ix_nI (show 8 + i < 2 ^ 31 by omega), ix_nI (show 24 + i < 2 ^ 31 by omega), qrow_at, qrow_qrow, nI_1, qin_nI (show 2 * i + 1 < 16 by omega) (by omega), ix_nI (show 2 * i + 1 < 2 ^ 31 by omega)]) (fun m s _ => by
    show f9_takeHall_L58 k (m + 1) (nI T) (qrow (qrow hm 6 s.1) 9 s.2) = _
    rw [f9_takeHall_L58, qrow_ne (by omega), qrow_ne (by omega), h12, if_pos (nI_le (Nat.le_refl _) (by omega))])
  have h3' : f9_takeHall_L58 k qN 0 (qrow (qrow hm 6 (hm.1 6)) 9 (hm.1 9)) = k (nI T) (qrow (qrow hm 6 s.1) 9 s.2) := h3
  rw [qrow_self hm 6, qrow_self hm 9] at h3'
  exact ⟨s.1, s.2, h1, h2, h3'⟩
/-- the files that were told -/
theorem QQ.files {FT : Nat} (q : QQ T r B 0 hx 51 hm) (hx4 : hx.1 6 4 = nI FT) (hm9 : hm.1 0 9 = nI FT) (hFT : FT ≤ 24) (fl : ∀ i, i < FT → ∃ u c, u ≤ 7 ∧ 1 ≤ c ∧ c ≤ 9 ∧ hx.1 10 i = nI u ∧ hm.1 4 (2 * i) = nI u ∧ hx.1 11 i = nI c ∧ hm.1 4 (2 * i + 1) = nI c) (kx : Int32 → qH → Option qH) (km : Int32 → qH → Option (Int32 × qH)) : ∃ (F' : Nat) (x y : qH), OP T r B F' 51 hx hm x y ∧ f7_begin_L86 51 kx qN 0 hx = kx (nI FT) x ∧ f9_takeHall_L126 km qN 0 hm = km (nI FT) y := by
  have ka : kStage 51 := Or.inl rfl
  have hT := q.t31
  have hL := q.L96
  obtain ⟨s, ⟨o, -⟩, e⟩ := lq10 (σ := Nat × qH × qH) (fun m s x => (f7_begin_L86 51 kx m x s.2.1, f9_takeHall_L126 km m x s.2.2)) (fun s x => (kx x s.2.1, km x s.2.2)) (fun i s => OP T r B s.1 51 hx hm s.2.1 s.2.2 ∧ s.1 ≤ i) FT (by omega) (0, hx, hm) ⟨OP.rf q, Nat.le_refl _⟩ (fun i s hi hs => by
    obtain ⟨F1, x, y⟩ := s
    have hs : OP T r B F1 51 hx hm x y ∧ F1 ≤ i := hs
    obtain ⟨o1, hF1⟩ := hs
    have q1 := o1.1
    have g1 := nI_ge hi (show FT < 2 ^ 31 by omega)
    obtain ⟨u, c, hu, hc1, hc9, e1, e2, e3, e4⟩ := fl i hi
    have x4 : x.1 6 4 = nI FT := by rw [o1.2.1.1 6 (by omega) (by omega)]; exact hx4
    have y9 : y.1 0 9 = nI FT := by rw [o1.2.2.1.2.1 9 (by omega) (by omega)]; exact hm9
    have x10 : x.1 10 i = nI u := by rw [o1.2.1.1 10 (by omega) (by omega)]; exact e1
    have x11 : x.1 11 i = nI c := by rw [o1.2.1.1 11 (by omega) (by omega)]; exact e3
    have y4 : y.1 4 = hm.1 4 := o1.2.2.1.1 4 (by omega) (by omega) (by omega) (by omega)
    have y4a : y.1 4 (2 * i) = nI u := by rw [y4]; exact e2
    have y4b : y.1 4 (2 * i + 1) = nI c := by rw [y4]; exact e4
    have p1 : qin (nI (2 * i)) 48 = true := qin_nI (by omega) (by omega)
    have p2 : qin (nI (2 * i + 1)) 48 = true := qin_nI (by omega) (by omega)
    have same : ∀ m, (f4_isTape 6 (nI u) x = some 0 ∧ f9_isTape (nI u) y = some 0) → (f7_begin_L86 51 kx (m + 1) (nI i) x, f9_takeHall_L126 km (m + 1) (nI i) y) = (f7_begin_L86 51 kx m (nI (i + 1)) x, f9_takeHall_L126 km m (nI (i + 1)) y) := fun m ht => by
      congr 1
      · simp only [f7_begin_L86, x4, g1, if_false, q24 (show i < 24 by omega), qg_t, ix_nI (show i < 2 ^ 31 by omega), x10, ht.1, bind_s, qj_e, if_true, qlt_e, nI_1]
      · simp only [f9_takeHall_L126, y9, g1, if_false, lm_2, p1, qg_t, ix_nI (show 2 * i < 2 ^ 31 by omega), y4a, qlt_e, ht.2, bind_s, qj_e, if_true, nI_1]
    rcases q1.isTape (nI u) with ⟨t, ht, et, t1, t2⟩ | ⟨t1, t2⟩
    · have : u = t := (nI_eq (by omega) (by omega)).mp et
      subst this
      obtain ⟨-, e5, -⟩ := q1.tp ht
      have een : y.1 9 (16 + u) = nI (ix (y.1 9 (16 + u))) := (q1.2.2.2.2.2.1 u ht).1
      have ele := (q1.2.2.2.2.2.1 u ht).2.1
      have e5 : x.1 54 u = y.1 9 (16 + u) := e5
      have esum : y.1 9 (16 + u) + nI c = nI (ix (y.1 9 (16 + u)) + c) := by
        conv => lhs; rw [een]
        exact nI_add _ _
      by_cases h5 : ix (y.1 9 (16 + u)) + c ≤ r 2 * r 3
      · have hr : f7_hasRoom 51 (nI u) (nI c) x = some 1 := by
          unfold f7_hasRoom
          rw [q8 (show u < 8 by omega), qg_t, ix_nI (by omega), qlt_e, show (51 : Nat) + 3 = 54 from rfl, e5, esum, q1.2.1.2.2.1, if_neg (nI_nlt h5 (by omega))]
          rfl
        have nlt : ¬ nI (r 2 * r 3) < nI (ix (y.1 9 (16 + u)) + c) := nI_nlt h5 (by omega)
        obtain ⟨n1, n2, o2, -⟩ := q1.newFile ka ht (by omega) hc1 hc9 h5
        refine ⟨(F1 + 1, hxA 51 x F1 u c, qrow y 9 (rowN (y.1 9) F1 u c)), ⟨o1.tr o2, by show F1 + 1 ≤ i + 1; omega⟩, fun m => ?_⟩
        show (f7_begin_L86 51 kx (m + 1) (nI i) x, f9_takeHall_L126 km (m + 1) (nI i) y) = (f7_begin_L86 51 kx m (nI (i + 1)) (hxA 51 x F1 u c), f9_takeHall_L126 km m (nI (i + 1)) (qrow y 9 (rowN (y.1 9) F1 u c)))
        congr 1
        · simp only [f7_begin_L86, x4, g1, if_false, q24 (show i < 24 by omega), qg_t, ix_nI (show i < 2 ^ 31 by omega), x10, x11, t1, bind_s, qj_e, q1f, hr, n1, qlt_e, nI_1]
        · simp only [f9_takeHall_L126, y9, g1, if_false, lm_2, p1, qg_t, ix_nI (show 2 * i < 2 ^ 31 by omega), y4a, qlt_e, t2, bind_s, qj_e, q1f, la_16, q353 (show 16 + u < 353 by omega), i353 (show 16 + u < 353 by omega), nI_1, p2, ix_nI (show 2 * i + 1 < 2 ^ 31 by omega), y4b, q1.bot, esum, nlt, n2, qb2_s]
      · have hr : f7_hasRoom 51 (nI u) (nI c) x = some 0 := by
          unfold f7_hasRoom
          rw [q8 (show u < 8 by omega), qg_t, ix_nI (by omega), qlt_e, show (51 : Nat) + 3 = 54 from rfl, e5, esum, q1.2.1.2.2.1, if_pos (nI_lt (by omega) (by omega))]
          rfl
        have nlt : nI (r 2 * r 3) < nI (ix (y.1 9 (16 + u)) + c) := nI_lt (by omega) (by omega)
        refine ⟨(F1, x, y), ⟨o1, by show F1 ≤ i + 1; omega⟩, fun m => ?_⟩
        show (f7_begin_L86 51 kx (m + 1) (nI i) x, f9_takeHall_L126 km (m + 1) (nI i) y) = (f7_begin_L86 51 kx m (nI (i + 1)) x, f9_takeHall_L126 km m (nI (i + 1)) y)
        congr 1
        · simp only [f7_begin_L86, x4, g1, if_false, q24 (show i < 24 by omega), qg_t, ix_nI (show i < 2 ^ 31 by omega), x10, x11, t1, bind_s, qj_e, q1f, hr, if_true, qlt_e, nI_1]
        · simp only [f9_takeHall_L126, y9, g1, if_false, lm_2, p1, qg_t, ix_nI (show 2 * i < 2 ^ 31 by omega), y4a, qlt_e, t2, bind_s, qj_e, q1f, la_16, q353 (show 16 + u < 353 by omega), i353 (show 16 + u < 353 by omega), nI_1, p2, ix_nI (show 2 * i + 1 < 2 ^ 31 by omega), y4b, q1.bot, esum, nlt, if_true]
    · exact ⟨(F1, x, y), ⟨o1, by show F1 ≤ i + 1; omega⟩, fun m => same m ⟨t1, t2⟩⟩) (fun m s hs => by
    obtain ⟨F1, x, y⟩ := s
    have hs : OP T r B F1 51 hx hm x y ∧ F1 ≤ FT := hs
    show (f7_begin_L86 51 kx (m + 1) (nI FT) x, f9_takeHall_L126 km (m + 1) (nI FT) y) = _
    congr 1
    · rw [f7_begin_L86, hs.1.2.1.1 6 (by omega) (by omega), hx4, if_pos (nI_le (Nat.le_refl _) (by omega))]
    · rw [f9_takeHall_L126, hs.1.2.2.1.2.1 9 (by omega) (by omega), hm9, if_pos (nI_le (Nat.le_refl _) (by omega))])
  exact ⟨s.1, s.2.1, s.2.2, o, congrArg Prod.fst e, congrArg Prod.snd e⟩
theorem open_eq {FT : Nat} (d : DR T r FT hx hm) : ∃ (F' : Nat) (hx' hm' : qH), f8_openHall hx = some (nI T, hx') ∧ f9_takeHall hm = some (nI T, hm') ∧ HS T r B F' 0 0 0 hx' hm' ∧ (∀ t, t < T → hx'.1 8 t = hm'.1 6 t) ∧ hx'.1 0 17 = 0 ∧ hm'.1 0 34 = 0 ∧ hx'.1 1 1 = 0 ∧ (∀ b, b = 2 ∨ (14 ≤ b ∧ b ≤ 42) ∨ b = 84 → hx'.1 b = hx.1 b) ∧ (∀ j, j ≠ 17 → hx'.1 0 j = hx.1 0 j) ∧ (∀ b, (1 ≤ b ∧ b ≤ 4) ∨ b = 7 ∨ b = 8 ∨ b = 10 → hm'.1 b = hm.1 b) ∧ ∀ j, j ≠ 12 → j ≠ 18 → j ≠ 20 → j ≠ 23 → j ≠ 34 → hm'.1 0 j = hm.1 0 j := by
  obtain ⟨h1, a1, hX, a4, a5, a6, a7, a8⟩ := become4_eq d
  obtain ⟨hB, ⟨-, d1⟩, ⟨-, d2, d3⟩, d4, d5, d6⟩ := d
  have hT : T ≤ 8 := hB.2.1
  -- the class's begin
  let h2 : qH := qrow h1 51 (upd (upd (upd (upd (h1.1 51) 2 0) 3 0) 4 0) 5 0)
  have h2o : ∀ b, b ≠ 51 → h2.1 b = h1.1 b := fun b hb => qrow_ne hb
  have h251 : h2.1 51 = upd (upd (upd (upd (h1.1 51) 2 0) 3 0) 4 0) 5 0 := qrow_at _ _ _
  obtain ⟨h3, c1, c2, c3, c4⟩ := begin22 (h := h2) (fun (x15 : Int32) (h16 : qH) => f7_begin_L86 51 (fun (x29 : Int32) (h30 : qH) => some h30) qN (0 : Int32) h16)
  -- the reference's
  let m1 : qH := qrow hm 0 (upd (hm.1 0) 12 (nI T))
  obtain ⟨w5, e1, e2⟩ := take10 (hm := m1) (fun (x7 : Int32) (h8 : qH) => f9_takeHall_L36 (fun (x14 : Int32) (h15 : qH) => f9_takeHall_L58 (fun (x24 : Int32) (h25 : qH) => f9_takeHall_L126 (fun (x40 : Int32) (h41 : qH) => qlt (qw h41 0 23 (0 : Int32)) fun (h42 : qH) => qlt (qw h42 0 34 (0 : Int32)) fun (h43 : qH) => some ((h43.1 0 12), h43)) qN (0 : Int32) h25) qN (0 : Int32) h15) qN (0 : Int32) h8)
  obtain ⟨w9, e3, e4⟩ := take36 (hm := qrow m1 5 w5) (fun (x14 : Int32) (h15 : qH) => f9_takeHall_L58 (fun (x24 : Int32) (h25 : qH) => f9_takeHall_L126 (fun (x40 : Int32) (h41 : qH) => qlt (qw h41 0 23 (0 : Int32)) fun (h42 : qH) => qlt (qw h42 0 34 (0 : Int32)) fun (h43 : qH) => some ((h43.1 0 12), h43)) qN (0 : Int32) h25) qN (0 : Int32) h15)
  let m2 : qH := qrow (qrow m1 5 w5) 9 w9
  have m20 : m2.1 0 = upd (hm.1 0) 12 (nI T) := by
    show (qrow (qrow (qrow hm 0 _) 5 w5) 9 w9).1 0 = _
    rw [qrow_ne (by omega), qrow_ne (by omega), qrow_at]
  have m2o : ∀ b, b ≠ 0 → b ≠ 5 → b ≠ 9 → m2.1 b = hm.1 b := fun b p1 p2 p3 => by
    show (qrow (qrow (qrow hm 0 _) 5 w5) 9 w9).1 b = _
    rw [qrow_ne p3, qrow_ne p2, qrow_ne p1]
  obtain ⟨w6, w9', e5, e6, e7⟩ := take58 (hm := m2) hT (by rw [m20, upd_at]) (fun j hj => by
    show (qrow (qrow m1 5 w5) 9 w9).1 9 j = 0
    rw [qrow_at]; exact e3 j hj) (fun (x24 : Int32) (h25 : qH) => f9_takeHall_L126 (fun (x40 : Int32) (h41 : qH) => qlt (qw h41 0 23 (0 : Int32)) fun (h42 : qH) => qlt (qw h42 0 34 (0 : Int32)) fun (h43 : qH) => some ((h43.1 0 12), h43)) qN (0 : Int32) h25)
  let m3 : qH := qrow (qrow m2 6 w6) 9 w9'
  have m30 : m3.1 0 = upd (hm.1 0) 12 (nI T) := by
    show (qrow (qrow m2 6 w6) 9 w9').1 0 = _
    rw [qrow_ne (by omega), qrow_ne (by omega), m20]
  have m35 : m3.1 5 = w5 := by
    show (qrow (qrow (qrow (qrow m1 5 w5) 9 w9) 6 w6) 9 w9').1 5 = _
    rw [qrow_ne (by omega), qrow_ne (by omega), qrow_ne (by omega), qrow_at]
  have m36 : m3.1 6 = w6 := by
    show (qrow (qrow m2 6 w6) 9 w9').1 6 = _
    rw [qrow_ne (by omega), qrow_at]
  have m39 : m3.1 9 = w9' := qrow_at _ _ _
  have m3o : ∀ b, b ≠ 0 → b ≠ 5 → b ≠ 6 → b ≠ 9 → m3.1 b = hm.1 b := fun b p1 p2 p3 p4 => by
    show (qrow (qrow m2 6 w6) 9 w9').1 b = _
    rw [qrow_ne p4, qrow_ne p3, m2o b p1 p2 p4]
  have r3 : ∀ j, m2.1 3 j = hm.1 3 j := fun j => by rw [m2o 3 (by omega) (by omega) (by omega)]
  have q : QQ T r B 0 h3 51 m3 := by
    refine ⟨hB, ?_, ⟨?_, fun k hk => ?_⟩, ?_, ?_⟩
    · unfold HX
      rw [c2 6 (by omega), c2 7 (by omega), c2 12 (by omega), c2 13 (by omega), h2o 6 (by omega), h2o 7 (by omega), h2o 12 (by omega), h2o 13 (by omega)]
      exact hX
    · rw [m30, upd_at]
    · rw [m35, e1 k hk]
      show (qrow hm 0 _).1 2 k = _
      rw [qrow_ne (by omega)]
      exact (d4 k hk).2
    · rw [m39]
      refine ⟨⟨?_, ?_, ?_, ?_⟩, fun t ht => ?_, fun f hf => by omega⟩
      · rw [c2 51 (by omega), h251, upd_ne (by omega), upd_ne (by omega), upd_ne (by omega), upd_at, e6 170 (by omega) (by omega)]
      · rw [c2 51 (by omega), h251, upd_ne (by omega), upd_ne (by omega), upd_at, e6 169 (by omega) (by omega)]
      · rw [c2 51 (by omega), h251, upd_ne (by omega), upd_at, e6 171 (by omega) (by omega)]
      · rw [c2 51 (by omega), h251, upd_at, e6 168 (by omega) (by omega)]
      · obtain ⟨k1, k2, k3, k4, k5, k6⟩ := c1 t (by omega)
        obtain ⟨j1, j2, j3, j4⟩ := e5 t ht
        refine ⟨Or.inl ⟨k1, k2, j2, j3⟩, ?_, ?_, ?_, ?_⟩
        · show h3.1 54 t = _
          rw [k3, e6 (16 + t) (by omega) (by omega)]
        · show h3.1 55 t = _
          rw [k4, j4, h2o 9 (by omega), (a5 t ht).2, (d5 t ht).2, r3]
        · show h3.1 56 t = _
          rw [k5, e6 (32 + t) (by omega) (by omega)]
        · show h3.1 57 t = _
          rw [k6, e6 (40 + t) (by omega) (by omega)]
    · rw [m39]
      refine ⟨⟨by rw [e6 168 (by omega) (by omega)]; rfl, by omega, by rw [e6 171 (by omega) (by omega)]; rfl, by rw [e6 171 (by omega) (by omega)]; exact Nat.zero_le _⟩, fun t ht => ?_, fun t u ht hu => ?_, fun f hf => by omega, fun f g hf => by omega, fun f g hf => by omega, Nat.zero_le _⟩
      · obtain ⟨j1, j2, j3, j4⟩ := e5 t ht
        rw [e6 (16 + t) (by omega) (by omega)]
        exact ⟨rfl, Nat.zero_le _, Or.inl ⟨j2, j3⟩⟩
      · rw [(e5 t ht).2.1, (e5 u hu).2.1]
        intro e9
        exact (nI_eq (by omega) (by omega)).mp e9
  obtain ⟨F', x, y, o, g1, g2⟩ := q.files (FT := FT) (by rw [c2 6 (by omega), h2o 6 (by omega)]; exact a4) (by rw [m30, upd_ne (by omega)]; exact d2) d3 (fun i hi => by
    obtain ⟨u, c, p1, p2, p3, p4, p5, p6, p7⟩ := d6 i hi
    refine ⟨u, c, p1, p2, p3, ?_, ?_, ?_, ?_⟩
    · rw [c2 10 (by omega), h2o 10 (by omega), (a6 i hi).1]; exact p4
    · rw [m3o 4 (by omega) (by omega) (by omega) (by omega)]; exact p5
    · rw [c2 11 (by omega), h2o 11 (by omega), (a6 i hi).2]; exact p6
    · rw [m3o 4 (by omega) (by omega) (by omega) (by omega)]; exact p7) (fun (x29 : Int32) (h30 : qH) => some h30) (fun (x40 : Int32) (h41 : qH) => qlt (qw h41 0 23 (0 : Int32)) fun (h42 : qH) => qlt (qw h42 0 34 (0 : Int32)) fun (h43 : qH) => some ((h43.1 0 12), h43))
  obtain ⟨qe, fx, fm, -⟩ := o
  have xo : ∀ b, ¬ (51 ≤ b ∧ b ≤ 62) → ¬ (43 ≤ b ∧ b ≤ 49) → x.1 b = h1.1 b := fun b p1 p2 => by rw [fx.1 b (by omega) p2, c2 b (by omega), h2o b (by omega)]
  let x5 : qH := qrow (qrow (qrow (qrow x 77 (upd (upd (x.1 77) 1 0) 2 0)) 79 (upd (x.1 79) 1 0)) 0 (upd (x.1 0) 17 0)) 1 (upd (x.1 1) 1 0)
  let y5 : qH := qrow y 0 (upd (upd (y.1 0) 23 0) 34 0)
  have x5o : ∀ b, b ≠ 0 → b ≠ 1 → b ≠ 77 → b ≠ 79 → x5.1 b = x.1 b := fun b p1 p2 p3 p4 => by
    show (qrow (qrow (qrow (qrow x 77 _) 79 _) 0 _) 1 _).1 b = _
    rw [qrow_ne p2, qrow_ne p1, qrow_ne p4, qrow_ne p3]
  have x50 : x5.1 0 = upd (x.1 0) 17 0 := by
    show (qrow (qrow (qrow (qrow x 77 _) 79 _) 0 _) 1 _).1 0 = _
    rw [qrow_ne (by omega), qrow_at]
  have x51 : x5.1 1 = upd (x.1 1) 1 0 := qrow_at _ _ _
  have x577 : x5.1 77 = upd (upd (x.1 77) 1 0) 2 0 := by
    show (qrow (qrow (qrow (qrow x 77 _) 79 _) 0 _) 1 _).1 77 = _
    rw [qrow_ne (by omega), qrow_ne (by omega), qrow_ne (by omega), qrow_at]
  have x579 : x5.1 79 = upd (x.1 79) 1 0 := by
    show (qrow (qrow (qrow (qrow x 77 _) 79 _) 0 _) 1 _).1 79 = _
    rw [qrow_ne (by omega), qrow_ne (by omega), qrow_at]
  have y5o : ∀ b, b ≠ 0 → y5.1 b = y.1 b := fun b p => qrow_ne p
  have y50 : y5.1 0 = upd (upd (y.1 0) 23 0) 34 0 := qrow_at _ _ _
  have T12 : y.1 0 12 = nI T := qe.Tm
  have T6 : x.1 6 1 = nI T := qe.Tx
  refine ⟨F', x5, y5, ?_, ?_, ⟨qe.cg (fun b hb => x5o b (by omega) (by omega) (by omega) (by omega)) (by rw [y50, upd_ne (by omega), upd_ne (by omega)]) (y5o 5 (by omega)) (y5o 9 (by omega)), ⟨by rw [x579, upd_at]; rfl, Nat.zero_le _, ?_, fun i w hi => ?_⟩, ⟨by rw [x577, upd_ne (by omega), upd_at]; rfl, by rw [y50, upd_ne (by omega), upd_at]; rfl, by omega, by omega, by rw [x577, upd_at]; rfl, by omega⟩, fun j hj => by omega⟩, fun t ht => ?_, by rw [x50, upd_at], by rw [y50, upd_at], by rw [x51, upd_at], fun b hb => ?_, fun j hj => ?_, fun b hb => ?_, fun j j1 j2 j3 j4 j5 => ?_⟩
  · unfold f8_openHall f7_begin
    rw [a1, bind_s]
    simp only [qlt_e, qw, qrow_at, qrow_qrow]
    have c4' : f7_begin_L22 51 (fun (x15 : Int32) (h16 : qH) => f7_begin_L86 51 (fun (x29 : Int32) (h30 : qH) => some h30) qN (0 : Int32) h16) qN 0 h2 = f7_begin_L86 51 (fun (x29 : Int32) (h30 : qH) => some h30) qN (0 : Int32) h3 := c4
    show (f7_begin_L22 51 (fun (x15 : Int32) (h16 : qH) => f7_begin_L86 51 (fun (x29 : Int32) (h30 : qH) => some h30) qN (0 : Int32) h16) qN 0 h2).bind _ = _
    rw [c4', g1, bind_s]
    unfold f3_clear f1_clear
    simp only [qlt_e, bind_s, qw, qrow_at, qrow_qrow, qrow_ne (show (79 : Nat) ≠ 77 by omega), qrow_ne (show (0 : Nat) ≠ 79 by omega), qrow_ne (show (0 : Nat) ≠ 77 by omega), qrow_ne (show (1 : Nat) ≠ 0 by omega), qrow_ne (show (1 : Nat) ≠ 79 by omega), qrow_ne (show (1 : Nat) ≠ 77 by omega), qrow_ne (show (6 : Nat) ≠ 1 by omega), qrow_ne (show (6 : Nat) ≠ 0 by omega), qrow_ne (show (6 : Nat) ≠ 79 by omega), qrow_ne (show (6 : Nat) ≠ 77 by omega), T6]
    rfl
  · unfold f9_takeHall
    rw [qlt_e, d1]
    refine Eq.trans e2 ?_
    refine Eq.trans e4 ?_
    refine Eq.trans e7 ?_
    refine Eq.trans g2 ?_
    simp only [qlt_e, qw, qrow_at, qrow_qrow, upd_ne (show (12 : Nat) ≠ 34 by omega), upd_ne (show (12 : Nat) ≠ 23 by omega), T12]
    rfl
  · rw [y5o 9 (by omega), fm.2.2.2 172 (by omega), m39, e6 172 (by omega) (by omega)]
    rfl
  · exact absurd hi (by show ¬ i < ln 0; rw [ln_lt (by omega)]; omega)
  · rw [x5o 8 (by omega) (by omega) (by omega) (by omega), xo 8 (by omega) (by omega), (a5 t ht).1, y5o 6 (by omega), fm.1 6 (by omega) (by omega) (by omega) (by omega), m36, (e5 t ht).1, (d5 t ht).1, r3]
  · rw [x5o b (by omega) (by omega) (by omega) (by omega), xo b (by omega) (by omega), a7 b (by omega)]
  · rw [x50, upd_ne hj, xo 0 (by omega) (by omega), a7 0 (by omega)]
  · rw [y5o b (by omega), fm.1 b (by omega) (by omega) (by omega) (by omega), m3o b (by omega) (by omega) (by omega) (by omega)]
  · rw [y50, upd_ne j5, upd_ne j4, fm.2.1 j j2 j3, m30, upd_ne j1]
end PJ1
