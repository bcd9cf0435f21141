/-! ===== what acts do: frames, and the first acts ===== -/
theorem upd_at (f : Nat → Int32) (k : Nat) (x : Int32) : upd f k x k = x := if_pos rfl
theorem upd_ne {f : Nat → Int32} {k j : Nat} {x : Int32} (h : j ≠ k) : upd f k x j = f j := if_neg h
theorem qrow_qrow (h : qH) (a : Nat) (f g : Nat → Int32) : qrow (qrow h a f) a g = qrow h a g := by
  show (_, _) = (_, _)
  congr 1
  funext b
  by_cases hb : b = a
  · simp [hb]
  · simp [qrow, hb]
theorem qrow_2 (h : qH) (a : Nat) (f : Nat → Int32) : (qrow h a f).2 = h.2 := rfl
/-- the class: only the stage at a (12 cells), and the orders, may change -/
def FX (a : Nat) (h h' : qH) : Prop := (∀ b, ¬ (a ≤ b ∧ b ≤ a + 11) → ¬ (43 ≤ b ∧ b ≤ 49) → h'.1 b = h.1 b) ∧ h'.2 = h.2
/-- the reference: only the row now, orderRow, moved, mounted, orderMany may change -/
def FM (h h' : qH) : Prop := (∀ b, b ≠ 0 → b ≠ 9 → b ≠ 11 → b ≠ 12 → h'.1 b = h.1 b) ∧ (∀ k, k ≠ 18 → k ≠ 20 → h'.1 0 k = h.1 0 k) ∧ h'.2 = h.2 ∧ ∀ k, 172 ≤ k → h'.1 9 k = h.1 9 k
theorem FX.rf {a : Nat} {h : qH} : FX a h h := ⟨fun _ _ _ => rfl, rfl⟩
theorem FM.rf {h : qH} : FM h h := ⟨fun _ _ _ _ _ => rfl, fun _ _ _ => rfl, rfl, fun _ _ => rfl⟩
theorem FX.tr {a : Nat} {h h1 h2 : qH} (x : FX a h h1) (y : FX a h1 h2) : FX a h h2 := ⟨fun b p q => (y.1 b p q).trans (x.1 b p q), y.2.trans x.2⟩
theorem FM.tr {h h1 h2 : qH} (x : FM h h1) (y : FM h1 h2) : FM h h2 := ⟨fun b p q s t => (y.1 b p q s t).trans (x.1 b p q s t), fun k p q => (y.2.1 k p q).trans (x.2.1 k p q), y.2.2.1.trans x.2.2.1, fun k hk => (y.2.2.2 k hk).trans (x.2.2.2 k hk)⟩
theorem FX.row {a b : Nat} {h : qH} {f : Nat → Int32} (hb : a ≤ b ∧ b ≤ a + 11) : FX a h (qrow h b f) := ⟨fun c h1 _ => qrow_ne (fun e => h1 (e ▸ hb)), rfl⟩
theorem FM.now {h : qH} {f : Nat → Int32} (hf : ∀ k, 172 ≤ k → f k = h.1 9 k) : FM h (qrow h 9 f) := ⟨fun b _ h2 _ _ => qrow_ne h2, fun k _ _ => by rw [qrow_ne (by omega)], rfl, fun k hk => by rw [qrow_at]; exact hf k hk⟩
theorem FM.cnt {h : qH} {k : Nat} {x : Int32} (hk : k = 18 ∨ k = 20) : FM h (qw h 0 k x) := ⟨fun b h1 _ _ _ => qrow_ne h1, fun j h1 h2 => by rw [qrow_at]; exact upd_ne (by omega), rfl, fun k _ => by rw [qrow_ne (by omega)]⟩
section PE
variable {T B F a : Nat} {r : Nat → Nat} {hx hm : qH}
theorem HX.fx {hx' : qH} (h : HX T r hx) (ka : kStage a) (fx : FX a hx hx') : HX T r hx' := by
  have e : ∀ b, b < 43 → hx'.1 b = hx.1 b := fun b hb => fx.1 b (by rcases ka with rfl | rfl <;> omega) (by omega)
  unfold HX
  rw [e 6 (by omega), e 7 (by omega), e 12 (by omega), e 13 (by omega)]
  exact h
theorem HM.fm {hm' : qH} (h : HM T r hm) (fm : FM hm hm') : HM T r hm' := by
  unfold HM
  rw [fm.2.1 12 (by omega) (by omega), fm.1 5 (by omega) (by omega) (by omega) (by omega)]
  exact h
theorem QQ.mk {B' F' : Nat} {hx' hm' : qH} (q : QQ T r B F hx a hm) (ka : kStage a) (fx : FX a hx hx') (fm : FM hm hm') (hS : RS T r F' hx' a (hm'.1 9)) (hI : IN T r B' F' (hm'.1 9)) : QQ T r B' F' hx' a hm' := ⟨q.1, q.2.1.fx ka fx, q.2.2.1.fm fm, hS, hI⟩
/-- a row that keeps ends, files, turns: its places are to be said anew -/
theorem IN.tp {N N' : Nat → Int32} (h : IN T r B F N) (hs : ∀ k, (16 ≤ k ∧ k < 24) ∨ (48 ≤ k ∧ k < 169) ∨ k = 171 → N' k = N k) (hT : T ≤ 8)
    (hp : ∀ t, t < T → (N' t = nI t ∧ N' (8 + t) = -1) ∨ ∃ d, d < r 1 ∧ N' t = nI (r 0 + d) ∧ isN (N' (8 + t)) ∧ ix (N' (8 + t)) < r 2 * r 3) (hd : ∀ t u, t < T → u < T → N' t = N' u → t = u) : IN T r B F N' := by
  obtain ⟨⟨i1, i2, i3, i4⟩, i5, i6, i7, i8, i9, i10⟩ := h
  have f1 : ∀ f, f < F → N' (48 + f) = N (48 + f) ∧ N' (72 + f) = N (72 + f) ∧ N' (96 + f) = N (96 + f) ∧ N' (120 + f) = N (120 + f) ∧ N' (144 + f) = N (144 + f) := fun f hf => ⟨hs _ (by omega), hs _ (by omega), hs _ (by omega), hs _ (by omega), hs _ (by omega)⟩
  have f2 : ∀ t, t < T → N' (16 + t) = N (16 + t) := fun t ht => hs _ (by omega)
  have f3 : N' 168 = N 168 := hs _ (by omega)
  have f4 : N' 171 = N 171 := hs _ (by omega)
  have f5 : ∀ n, n ≤ F → nask N' n = nask N n := by
    intro n
    induction n with
    | zero => intro _; rfl
    | succ n ih =>
      intro hn
      show nask N' n + _ = nask N n + _
      rw [ih (by omega), (f1 n (by omega)).2.2.2.2]
  refine ⟨⟨by rw [f3]; exact i1, i2, by rw [f4]; exact i3, by rw [f4]; exact i4⟩, fun t ht => ?_, hd, fun f hf => ?_, fun f g hf hg hne => ?_, fun f g hf hg => ?_, by rw [f5 F (Nat.le_refl _)]; exact i10⟩
  · obtain ⟨j1, j2, -⟩ := i5 t ht
    rw [f2 t ht]
    exact ⟨j1, j2, hp t ht⟩
  · obtain ⟨g1, g2, g3, g4, g5⟩ := f1 f hf
    rw [g1, g2, g3, g4, g5, f4]
    obtain ⟨j1, j2, j3⟩ := i7 f hf
    refine ⟨j1, ?_, j3⟩
    rcases j2 with j2 | ⟨⟨t, ht, k1, k2⟩, j2⟩
    · exact Or.inl j2
    · exact Or.inr ⟨⟨t, ht, k1, by rw [f2 t ht]; exact k2⟩, j2⟩
  · obtain ⟨g1, g2, g3, -⟩ := f1 f hf
    obtain ⟨k1, k2, k3, -⟩ := f1 g hg
    rw [g1, g2, g3, k1, k2, k3]
    exact i8 f g hf hg hne
  · rw [(f1 f hf).2.2.2.2, (f1 g hg).2.2.2.2]
    exact i9 f g hf hg
theorem armTo_eq {h : qH} (h5 : h.1 5 5 = nI (r 5)) (x : Int32) : f9_armTo x h = some (qrow h 9 (upd (upd (h.1 9) 170 (h.1 9 170 + wy r x (h.1 9 169))) 169 x)) := by
  unfold f9_armTo
  simp only [f9_apart_eq, bind_s, qlt_e, qw, qrow_at, qrow_qrow, h5]
  rfl
theorem QQ.place (q : QQ T r B F hx a hm) {t d : Nat} (ht : t < T) (hd : hx.1 (a + 1) t = nI d) (hd2 : d < 2 ^ 31) : d < r 1 ∧ hm.1 9 t = nI (r 0 + d) ∧ hm.1 9 (8 + t) = hx.1 (a + 2) t ∧ ∃ p, p < r 2 * r 3 ∧ hx.1 (a + 2) t = nI p := by
  have hT := q.t31
  have hb := q.1
  have b5 := hb.2.2.2.2.1
  have b7 := hb.2.2.2.2.2.2.1
  rcases (q.tp ht).1 with ⟨h1, -⟩ | ⟨d', hd', h1, h2, h3⟩
  · exact absurd (hd.symm.trans h1) (nI_m1 hd2)
  · have e : d' = d := (nI_eq (by omega) hd2).mp (h1.symm.trans hd)
    subst e
    refine ⟨hd', h2, h3, ?_⟩
    rcases (q.2.2.2.2.2.1 t ht).2.2 with ⟨k1, -⟩ | ⟨d2, hd2', k1, k2, k3⟩
    · exact absurd ((nI_eq (by omega) (by omega)).mp (h2.symm.trans k1)) (by have := hb.2.2.1; omega)
    · exact ⟨ix (hm.1 9 (8 + t)), k3, by rw [← h3]; exact k2⟩
/-- the time behind an unmounting -/
def tmU (r : Nat → Nat) (N : Nat → Int32) (t d p : Nat) : Int32 := ((N 170 + (sk r p 0 + nI (r 4))) + wy r (nI (r 0 + d)) (N 169)) + wy r (nI t) (nI (r 0 + d))
def rowU (r : Nat → Nat) (N : Nat → Int32) (t d p : Nat) : Nat → Int32 := upd (upd (upd (upd N 170 (tmU r N t d p)) 169 (nI t)) t (nI t)) (8 + t) (-1)
theorem QQ.unmounts (q : QQ T r B F hx a hm) {t d p : Nat} (ht : t < T) (h2 : hm.1 9 t = nI (r 0 + d)) (h3 : hm.1 9 (8 + t) = nI p) (hp : p < r 2 * r 3) : f9_unmounts (nI t) hm = some (qrow hm 9 (rowU r (hm.1 9) t d p)) := by
  have hT := q.t31
  have hL := q.L96
  have hs := (q.seek hp (show 0 < r 2 * r 3 by omega)).2
  unfold f9_unmounts
  simp only [la_8, la_0, q353 (show 8 + t < 353 by omega), i353 (show 8 + t < 353 by omega), q353 (show t < 353 by omega), i353 (show t < 353 by omega), qg_t, h3, qlt_e]
  rw [show (0 : Int32) = nI 0 from rfl, hs, bind_s]
  rw [armTo_eq (r := r) (by rw [qrow_ne (by omega)]; exact q.rm (by omega)), bind_s]
  rw [armTo_eq (r := r) (by rw [qrow_ne (by omega), qrow_ne (by omega)]; exact q.rm (by omega)), bind_s]
  simp only [qw, qrow_at, qrow_qrow, q.rm (show 4 < 8 by omega), upd_at, upd_ne (show t ≠ 170 by omega), upd_ne (show (169 : Nat) ≠ 170 by omega), upd_ne (show (170 : Nat) ≠ 169 by omega), h2]
  congr 1
  congr 1
  unfold rowU tmU
  funext k
  by_cases e1 : k = 8 + t
  · subst e1; rw [upd_at, upd_at]
  · rw [upd_ne e1, upd_ne e1]
    by_cases e2 : k = t
    · subst e2; rw [upd_at, upd_at]
    · rw [upd_ne e2, upd_ne e2]
      by_cases e3 : k = 169
      · subst e3; rw [upd_at, upd_at]
      · rw [upd_ne e3, upd_ne e3]
        by_cases e4 : k = 170
        · subst e4; rw [upd_at, upd_at]
        · rw [upd_ne e4, upd_ne e3, upd_ne e4, upd_ne e4, upd_ne e4]
end PE
