section PU
variable {T B F a : Nat} {r : Nat → Nat} {hx hm : qH}
/-- the reference's row of an order -/
def hL (h : qH) (w : Nat → Int32) (x : Int32) : qH := qrow (qrow h 11 w) 0 (upd (h.1 0) 20 x)
theorem hL_o {h : qH} {w : Nat → Int32} {x : Int32} {b : Nat} (h0 : b ≠ 0) (h1 : b ≠ 11) : (hL h w x).1 b = h.1 b := by
  unfold hL
  rw [qrow_ne h0, qrow_ne h1]
theorem hL_11 {h : qH} {w : Nat → Int32} {x : Int32} : (hL h w x).1 11 = w := by
  unfold hL
  rw [qrow_ne (by omega), qrow_at]
theorem hL_0 {h : qH} {w : Nat → Int32} {x : Int32} : (hL h w x).1 0 = upd (h.1 0) 20 x := by
  unfold hL
  rw [qrow_at]
theorem hL_20 {h : qH} {w : Nat → Int32} {x : Int32} : (hL h w x).1 0 20 = x := by
  rw [hL_0, upd_at]
theorem hL_w {h : qH} {w : Nat → Int32} {x v : Int32} {j : Nat} : qw (hL h w x) 11 j v = hL h (upd w j v) x := by
  show qrow (hL h w x) 11 (upd ((hL h w x).1 11) j v) = _
  rw [hL_11]
  unfold hL
  rw [qrow_comm (by omega), qrow_qrow]
theorem upd_upd (f : Nat → Int32) (k : Nat) (x y : Int32) : upd (upd f k x) k y = upd f k y := by
  funext j
  by_cases e : j = k
  · subst e; rw [upd_at, upd_at]
  · rw [upd_ne e, upd_ne e, upd_ne e]
theorem hL_x {h : qH} {w : Nat → Int32} {x v : Int32} : qw (hL h w x) 0 20 v = hL h w v := by
  show qrow (hL h w x) 0 (upd ((hL h w x).1 0) 20 v) = _
  rw [hL_0, upd_upd]
  unfold hL
  rw [qrow_qrow]
theorem hL_hL {h : qH} {w w' : Nat → Int32} {x y : Int32} : hL (hL h w x) w' y = hL h w' y := by
  show qrow (qrow (hL h w x) 11 w') 0 (upd ((hL h w x).1 0) 20 y) = _
  rw [hL_0, upd_upd]
  unfold hL
  rw [qrow_comm (b := 0) (c := 11) (by omega), qrow_qrow, qrow_qrow]
theorem hL_fm {h : qH} {w : Nat → Int32} {x : Int32} : FM h (hL h w x) := ⟨fun b h1 _ h3 _ => hL_o h1 h3, fun k _ h2 => by rw [hL_0, upd_ne h2], rfl, fun k _ => by rw [hL_o (by omega) (by omega)]⟩
theorem QQ.hL9 (q : QQ T r B F hx a hm) (w : Nat → Int32) (x : Int32) : QQ T r B F hx a (hL hm w x) := ⟨q.1, q.2.1, q.2.2.1.fm hL_fm, by rw [hL_o (by omega) (by omega)]; exact q.2.2.2.1, by rw [hL_o (by omega) (by omega)]; exact q.2.2.2.2⟩
theorem QQ.lays (q : QQ T r B F hx a hm) {t o p0 : Nat} (ht : t < T) (ho : o < 3) (hp0 : p0 < r 2 * r 3) : ∃ w, f9_laysOrder (nI t) (nI o) (nI p0) hm = some ((sq (hm.1 9) r F t o p0 (ak (hm.1 9) (nI t) F)).2.1, hL hm w (nI (ak (hm.1 9) (nI t) F))) ∧ ∀ j, j < ak (hm.1 9) (nI t) F → w j = nI (sb (hm.1 9) r F t o (sq (hm.1 9) r F t o p0 j)) := by
  have hT := q.t31
  have hL96 := q.L96
  have hC := ak_le (hm.1 9) (nI t) F
  unfold f9_laysOrder
  rw [(q.askedOnC (nI t)).2, bind_s, qlt_e]
  obtain ⟨s, ⟨-, e2, -, -, e4⟩, h1⟩ := lq10 (σ := Nat × Int32 × Int32 × (Nat → Int32)) (fun m s x => f9_laysOrder_L21 (nI t) (nI o) (nI (ak (hm.1 9) (nI t) F)) (fun _ x36 _ h38 => some (x36, h38)) m (nI s.1) s.2.1 s.2.2.1 (hL hm s.2.2.2 x)) (fun s x => some (s.2.1, hL hm s.2.2.2 x)) (fun i s => s.1 = (sq (hm.1 9) r F t o p0 i).1 ∧ s.2.1 = (sq (hm.1 9) r F t o p0 i).2.1 ∧ s.1 < r 2 * r 3 ∧ (∀ f, f < 24 → bt s.2.2.1 f = (sq (hm.1 9) r F t o p0 i).2.2 f) ∧ ∀ j, j < i → s.2.2.2 j = nI (sb (hm.1 9) r F t o (sq (hm.1 9) r F t o p0 j))) (ak (hm.1 9) (nI t) F) (by omega) (p0, 0, 0, hm.1 11) ⟨rfl, rfl, hp0, fun f _ => b_0 f, fun j hj => by omega⟩ (fun i s hi hs => by
    obtain ⟨p, τ, x5, w⟩ := s
    have hs : p = (sq (hm.1 9) r F t o p0 i).1 ∧ τ = (sq (hm.1 9) r F t o p0 i).2.1 ∧ p < r 2 * r 3 ∧ (∀ f, f < 24 → bt x5 f = (sq (hm.1 9) r F t o p0 i).2.2 f) ∧ ∀ j, j < i → w j = nI (sb (hm.1 9) r F t o (sq (hm.1 9) r F t o p0 j)) := hs
    obtain ⟨ep, et, hp, hb, hw⟩ := hs
    have hpk := sq_pk (sq_inv (hm.1 9) r F t o p0 i (by omega)).1 hi
    obtain ⟨c1, c2, c3, -⟩ := pk_some hpk
    rw [← ep] at hpk
    have e1 : sq (hm.1 9) r F t o p0 (i + 1) = (ix (hm.1 9 (72 + sb (hm.1 9) r F t o (sq (hm.1 9) r F t o p0 i))) + ix (hm.1 9 (96 + sb (hm.1 9) r F t o (sq (hm.1 9) r F t o p0 i))) - 1, (sq (hm.1 9) r F t o p0 i).2.1 + (sk r (sq (hm.1 9) r F t o p0 i).1 (ix (hm.1 9 (72 + sb (hm.1 9) r F t o (sq (hm.1 9) r F t o p0 i)))) + hm.1 9 (96 + sb (hm.1 9) r F t o (sq (hm.1 9) r F t o p0 i))), fun g => decide (g = sb (hm.1 9) r F t o (sq (hm.1 9) r F t o p0 i)) || (sq (hm.1 9) r F t o p0 i).2.2 g) := rfl
    rw [← ep, ← et] at e1
    generalize hsb : sb (hm.1 9) r F t o (sq (hm.1 9) r F t o p0 i) = b at *
    obtain ⟨z1, z2, z3, z4⟩ := q.fN c1
    obtain ⟨-, z5, z6⟩ := q.2.2.2.2.fit hT.1 c1 (show t < 2 ^ 31 by omega) (ia_iff.mp c2).1
    have z1' : hm.1 9 (72 + b) = nI (ix (hm.1 9 (72 + b))) := z1
    have z2' : hm.1 9 (96 + b) = nI (ix (hm.1 9 (96 + b))) := z2
    have esum : hm.1 9 (72 + b) + hm.1 9 (96 + b) - 1 = nI (ix (hm.1 9 (72 + b)) + ix (hm.1 9 (96 + b)) - 1) := by
      obtain ⟨m, hm'⟩ : ∃ m, ix (hm.1 9 (72 + b)) + ix (hm.1 9 (96 + b)) = m + 1 := ⟨ix (hm.1 9 (72 + b)) + ix (hm.1 9 (96 + b)) - 1, by omega⟩
      have e9 : hm.1 9 (72 + b) + hm.1 9 (96 + b) = nI (m + 1) := by
        rw [← hm', ← nI_add, ← z1', ← z2']
      rw [e9, nI_pred, hm']
      rfl
    have g1 := nI_ge hi (show ak (hm.1 9) (nI t) F < 2 ^ 31 by omega)
    have eS : ∀ w x, f9_seekOf (nI p) (hm.1 9 (72 + b)) (hL hm w x) = some (sk r p (ix (hm.1 9 (72 + b)))) := fun w x => by
      have := (q.hL9 w x).seekN (p := p) (by omega) c1
      rw [hL_o (by omega) (by omega)] at this
      exact this
    have k36 := fun k => (q.hL9 w (nI i)).lay36 (t := t) (x4 := τ) (z1 := nI (ak (hm.1 9) (nI t) F)) ho (show p < 2 ^ 31 by omega) hb k
    rw [hL_o (by omega) (by omega), hpk] at k36
    refine ⟨(ix (hm.1 9 (72 + b)) + ix (hm.1 9 (96 + b)) - 1, τ + (sk r p (ix (hm.1 9 (72 + b))) + hm.1 9 (96 + b)), x5 ||| ((1 : Int32) <<< (nI b &&& 31)), upd w i (nI b)), ⟨by rw [e1], by rw [e1], ?_, fun f hf => ?_, fun j hj => ?_⟩, fun m => ?_⟩
    · show ix (hm.1 9 (72 + b)) + ix (hm.1 9 (96 + b)) - 1 < r 2 * r 3
      omega
    · rw [e1]
      show bt (x5 ||| ((1 : Int32) <<< (nI b &&& 31))) f = (decide (f = b) || (sq (hm.1 9) r F t o p0 i).2.2 f)
      rw [b_or, b_sh1 (by omega) (by omega), hb f hf, Bool.or_comm]
    · show upd w i (nI b) j = _
      by_cases e : j = i
      · subst e; rw [upd_at, hsb]
      · rw [upd_ne e]; exact hw j (by omega)
    · show f9_laysOrder_L21 (nI t) (nI o) (nI (ak (hm.1 9) (nI t) F)) _ (m + 1) (nI p) τ x5 (hL hm w (nI i)) = f9_laysOrder_L21 (nI t) (nI o) (nI (ak (hm.1 9) (nI t) F)) _ m (nI (ix (hm.1 9 (72 + b)) + ix (hm.1 9 (96 + b)) - 1)) (τ + (sk r p (ix (hm.1 9 (72 + b))) + hm.1 9 (96 + b))) (x5 ||| ((1 : Int32) <<< (nI b &&& 31))) (hL hm (upd w i (nI b)) (nI (i + 1)))
      simp only [f9_laysOrder_L21, hL_20, g1, if_false, k36, oI_some, qlt_e, q24 (show i < 24 by omega), ix_nI (show i < 2 ^ 31 by omega), qg_t, hL_w, la_72, la_96, q353 (show 72 + b < 353 by omega), i353 (show 72 + b < 353 by omega), q353 (show 96 + b < 353 by omega), i353 (show 96 + b < 353 by omega), hL_o (show (9 : Nat) ≠ 0 by omega) (show (9 : Nat) ≠ 11 by omega), eS, bind_s, esum, hL_x, nI_1]) (fun m s _ => by
    show f9_laysOrder_L21 (nI t) (nI o) (nI (ak (hm.1 9) (nI t) F)) _ (m + 1) (nI s.1) s.2.1 s.2.2.1 (hL hm s.2.2.2 (nI (ak (hm.1 9) (nI t) F))) = _
    rw [f9_laysOrder_L21, hL_20, if_pos (nI_le (Nat.le_refl _) (by omega))])
  refine ⟨s.2.2.2, ?_, e4⟩
  have e0 : hL hm (hm.1 11) 0 = qw hm 0 20 0 := by
    unfold hL
    rw [qrow_self]
  have h1' : f9_laysOrder_L21 (nI t) (nI o) (nI (ak (hm.1 9) (nI t) F)) (fun _ x36 _ h38 => some (x36, h38)) qN (nI p0) 0 0 (hL hm (hm.1 11) 0) = some (s.2.1, hL hm s.2.2.2 (nI (ak (hm.1 9) (nI t) F))) := h1
  rw [e0] at h1'
  rw [← e2]
  exact h1'
end PU
