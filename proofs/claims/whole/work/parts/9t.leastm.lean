theorem qrow_eta (h : qH) (a : Nat) : qrow h a (h.1 a) = h := by
  obtain ⟨f, g⟩ := h
  show ((fun b => if b = a then f a else f b), g) = (f, g)
  congr 1
  funext b
  by_cases c : b = a
  · rw [if_pos c, c]
  · rw [if_neg c]
section PR3
variable {C : Nat} {m : Nat → Nat} {A : Nat → Bool} {h0 : qH} {cz : Nat → Nat → Nat} {en : Nat → Nat} {p0 : Nat} {p1 : Int32}
theorem l16 (lr : LR C m cz en p0 p1 h0) (e : EN C m A) : ∀ (d S : Nat) (tb : Nat → Int32), S + d = 2 ^ C → TB C (tv (cz p0) (fun e f => cz (en e) f) C m) S tb → ∃ tb', ∀ kk mm, d < mm → f9_leastOf_L16 p1 kk mm (sv (-1) (if S = 2 ^ C then mo C (fun _ => true) (tv (cz p0) (fun e f => cz (en e) f) C m (2 ^ C - 1)) else none)) (nI S) (qrow h0 15 tb) = kk (sv (-1) (mo C (fun _ => true) (tv (cz p0) (fun e f => cz (en e) f) C m (2 ^ C - 1)))) (nI (2 ^ C)) (qrow h0 15 tb') := by
  have hC := lr.2.1
  have h4 := pw_le hC
  have q20 : ∀ tb, (qrow h0 15 tb).1 0 20 = nI C := fun tb => by rw [qrow_ne (by omega)]; exact lr.1
  intro d
  induction d with
  | zero =>
    intro S tb hd tB
    have eS : S = 2 ^ C := by omega
    refine ⟨tb, fun kk mm hm => ?_⟩
    obtain ⟨mm, rfl⟩ : ∃ j, mm = j + 1 := ⟨mm - 1, by omega⟩
    rw [f9_leastOf_L16, q20, (pw2 C (by omega)).1, if_pos (nI_le (by omega) (by omega)), if_pos eS, eS]
  | succ d ih =>
    intro S tb hd tB
    obtain ⟨tb1, t1, t2⟩ := l29 lr e (S := S) (by omega) C 0 tb (by omega) tB (fun k hk => absurd hk (by omega))
    obtain ⟨tb', t3⟩ := ih (S + 1) tb1 (by omega) t1
    refine ⟨tb', fun kk mm hm => ?_⟩
    obtain ⟨mm, rfl⟩ : ∃ j, mm = j + 1 := ⟨mm - 1, by omega⟩
    have z := t2 (fun (x48 : Int32) (_ : Int32) (h50 : qH) => qlt (nI S + (1 : Int32)) fun (x51 : Int32) => f9_leastOf_L16 p1 kk mm x48 x51 h50) qN (qN_lt (by omega))
    have s0 : (sv (-1) (if S = 2 ^ C - 1 then mo 0 (fun _ => true) (tv (cz p0) (fun e f => cz (en e) f) C m S) else none)) = -1 := by
      split <;> rfl
    have z : f9_leastOf_L29 p1 (nI S) (fun (x48 : Int32) (_ : Int32) (h50 : qH) => qlt (nI S + (1 : Int32)) fun (x51 : Int32) => f9_leastOf_L16 p1 kk mm x48 x51 h50) qN (sv (-1) (if S = 2 ^ C - 1 then mo 0 (fun _ => true) (tv (cz p0) (fun e f => cz (en e) f) C m S) else none)) 0 (qrow h0 15 tb) = f9_leastOf_L16 p1 kk mm (sv (-1) (if S = 2 ^ C - 1 then mo C (fun _ => true) (tv (cz p0) (fun e f => cz (en e) f) C m S) else none)) (nI S + 1) (qrow h0 15 tb1) := z
    rw [s0] at z
    have t3' := t3 kk mm (by omega)
    rw [f9_leastOf_L16, q20, (pw2 C (by omega)).1, if_neg (nI_ge (by omega) (by omega)), if_neg (show ¬ S = 2 ^ C by omega)]
    refine Eq.trans z ?_
    rw [nI_1]
    refine Eq.trans ?_ t3'
    by_cases f : S = 2 ^ C - 1
    · rw [if_pos f, if_pos (show S + 1 = 2 ^ C by omega), ← f]
    · rw [if_neg f, if_neg (show ¬ S + 1 = 2 ^ C by omega)]
end PR3
section PR4
variable {T : Nat} {r : Nat → Nat} {B F : Nat} {hx hm : qH}
/-- the row that an order lays tells every asked file once -/
theorem sq_en (N : Nat → Int32) (r : Nat → Nat) {F : Nat} (hF : F ≤ 24) (t o p0 : Nat) : EN (ak N (nI t) F) (fun j => sb N r F t o (sq N r F t o p0 j)) (fun f => decide (f < F) && ia N t f) := by
  have st : ∀ i, i < ak N (nI t) F → sb N r F t o (sq N r F t o p0 i) < F ∧ ia N t (sb N r F t o (sq N r F t o p0 i)) = true ∧ ∀ j, j < i → sb N r F t o (sq N r F t o p0 j) ≠ sb N r F t o (sq N r F t o p0 i) := by
    intro i hi
    obtain ⟨a1, a2⟩ := sq_inv N r F t o p0 i (by omega)
    obtain ⟨b1, b2, b3, -⟩ := pk_some (sq_pk a1 hi)
    refine ⟨b1, b2, fun j hj z => ?_⟩
    rw [(a2 _).mpr ⟨j, hj, z⟩] at b3
    exact absurd b3 (by decide)
  refine ⟨fun k hk => ⟨by have := (st k hk).1; show sb N r F t o (sq N r F t o p0 k) < 24; omega, ?_⟩, fun i j hi hj z => ?_, fun f hf hA => ?_⟩
  · show (decide (sb N r F t o (sq N r F t o p0 k) < F) && ia N t (sb N r F t o (sq N r F t o p0 k))) = true
    rw [decide_eq_true (st k hk).1, (st k hk).2.1]
    rfl
  · rcases Nat.lt_trichotomy i j with l | l | l
    · exact absurd z ((st j hj).2.2 i l)
    · exact l
    · exact absurd z.symm ((st i hi).2.2 j l)
  · have hA : (decide (f < F) && ia N t f) = true := hA
    rw [Bool.and_eq_true, decide_eq_true_iff] at hA
    obtain ⟨a1, a2⟩ := sq_inv N r F t o p0 (ak N (nI t) F) (Nat.le_refl _)
    cases d : (sq N r F t o p0 (ak N (nI t) F)).2.2 f with
    | true =>
      obtain ⟨j, j1, j2⟩ := (a2 f).mp d
      exact ⟨j, j1, j2⟩
    | false =>
      exfalso
      have z : akd N t (sq N r F t o p0 (ak N (nI t) F)).2.2 F = 0 := by omega
      have up := akd_upd (N := N) (t := t) (D := (sq N r F t o p0 (ak N (nI t) F)).2.2) hA.2 d (n := F) hA.1
      omega
def stF (N : Nat → Int32) (f : Nat) : Nat := ix (N (72 + f))
def blF (N : Nat → Int32) (F f : Nat) : Nat := if f < F then ix (N (96 + f)) else 0
def enF (N : Nat → Int32) (f : Nat) : Nat := ix (N (72 + f)) + ix (N (96 + f)) - 1
def lsA (N : Nat → Int32) (F t f : Nat) : Bool := decide (f < F) && ia N t f
/-- the least time of all orders -/
def lsV (N : Nat → Int32) (r : Nat → Nat) (F t p0 : Nat) : Nat := (mo 24 (lsA N F t) (fun f => VV (fun f => skn r p0 (stF N f) + blF N F f) (fun e f => skn r (enF N e) (stF N f) + blF N F f) 24 (lsA N F t) f)).getD 0
theorem QQ.leastM (q : QQ T r B F hx 51 hm) {t : Nat} (ht : t < T) : ∃ (p0 : Nat) (w : Nat → Int32) (x : Int32) (tb : Nat → Int32), p0 < r 2 * r 3 ∧ hx.1 53 t = nI p0 ∧ f9_leastOf (nI t) hm = some (nI (lsV (hm.1 9) r F t p0), qrow (hL hm w x) 15 tb) := by
  have hT := q.t31
  have hL96 := q.L96
  have r2 := q.r2
  obtain ⟨p0, hp, e1, e2⟩ := q.headOf ht
  obtain ⟨w, e3, e4⟩ := q.lays (o := 0) ht (by omega) hp
  have hC := q.ak12 ht
  have en := sq_en (hm.1 9) r hT.2 t 0 p0
  let C := ak (hm.1 9) (nI t) F
  let m : Nat → Nat := fun j => sb (hm.1 9) r F t 0 (sq (hm.1 9) r F t 0 p0 j)
  have mF : ∀ j, j < C → m j < F ∧ ia (hm.1 9) t (m j) = true := fun j hj => by
    have := (en.1 j hj).2
    have this : (decide (m j < F) && ia (hm.1 9) t (m j)) = true := this
    rwa [Bool.and_eq_true, decide_eq_true_iff] at this
  let h3 : qH := hL hm w (nI C)
  have q3 : ∀ tb, QQ T r B F hx 51 (qrow h3 15 tb) := fun tb => (q.hL9 w (nI C)).cg (fun _ _ => rfl) (by rw [qrow_ne (by omega)]) (qrow_ne (by omega)) (qrow_ne (by omega))
  have n3 : ∀ tb, (qrow h3 15 tb).1 9 = hm.1 9 := fun tb => by rw [qrow_ne (by omega), hL_o (by omega) (by omega)]
  have skb : ∀ z f, skn r z (stF (hm.1 9) f) ≤ 18 := fun z f => skn_le r2.1 r2.2
  have blb : ∀ f, blF (hm.1 9) F f ≤ 9 := fun f => by
    unfold blF
    split
    · rename_i hf
      exact (q.fN hf).2.2.2
    · omega
  have lr : LR C m (fun z f => skn r z (stF (hm.1 9) f) + blF (hm.1 9) F f) (enF (hm.1 9)) p0 (nI t) h3 := by
    refine ⟨hL_20, hC, fun j hj => by rw [hL_11]; exact e4 j hj, fun tb z j hz hj => ?_, fun z f => by have := skb z f; have := blb f; show skn r z (stF (hm.1 9) f) + blF (hm.1 9) F f < 1000; omega, fun tb j hj => ?_, fun tb => ?_, by omega⟩
    · obtain ⟨mf, -⟩ := mF j hj
      have sn := (q3 tb).seekN (p := z) (by omega) mf
      have b1 : (hm.1 9) (96 + m j) = nI (blF (hm.1 9) F (m j)) := by
        unfold blF
        rw [if_pos mf]
        exact (q.fN mf).2.1
      unfold f9_seekTo
      have a72 : (72 : Int32) + nI (m j) = nI (72 + m j) := nI_add 72 (m j)
      have a96 : (96 : Int32) + nI (m j) = nI (96 + m j) := nI_add 96 (m j)
      rw [a72, a96, qin_nI (show 72 + m j < 353 by omega) (by omega), qg_t, ix_nI (show 72 + m j < 2 ^ 31 by omega), sn, bind_s, qin_nI (show 96 + m j < 353 by omega) (by omega), qg_t, ix_nI (show 96 + m j < 2 ^ 31 by omega), n3, b1, nI_add]
      rfl
    · obtain ⟨mf, mi⟩ := mF j hj
      obtain ⟨z1, z2, z3, z4⟩ := q.fN mf
      obtain ⟨-, z5, z6⟩ := q.2.2.2.2.fit hT.1 mf (show t < 2 ^ 31 by omega) (ia_iff.mp mi).1
      have z1' : hm.1 9 (72 + m j) = nI (ix (hm.1 9 (72 + m j))) := z1
      have z2' : hm.1 9 (96 + m j) = nI (ix (hm.1 9 (96 + m j))) := z2
      have a72 : (72 : Int32) + nI (m j) = nI (72 + m j) := nI_add 72 (m j)
      have a96 : (96 : Int32) + nI (m j) = nI (96 + m j) := nI_add 96 (m j)
      refine ⟨?_, by unfold enF; omega⟩
      unfold f9_lastBlock enF
      rw [a72, a96, qin_nI (show 72 + m j < 353 by omega) (by omega), qg_t, qin_nI (show 96 + m j < 353 by omega) (by omega), qg_t, ix_nI (show 72 + m j < 2 ^ 31 by omega), ix_nI (show 96 + m j < 2 ^ 31 by omega), n3]
      obtain ⟨k, hk⟩ : ∃ k, ix (hm.1 9 (72 + m j)) + ix (hm.1 9 (96 + m j)) = k + 1 := ⟨ix (hm.1 9 (72 + m j)) + ix (hm.1 9 (96 + m j)) - 1, by omega⟩
      have e9 : hm.1 9 (72 + m j) + hm.1 9 (96 + m j) = nI (k + 1) := by rw [← hk, ← nI_add, ← z1', ← z2']
      rw [e9, nI_pred, hk]
      rfl
    · obtain ⟨p', hp', f1, f2⟩ := (q3 tb).headOf ht
      have ee : p' = p0 := nI_inj (by omega) (by omega) (f2.symm.trans e2)
      rw [f1, ee]
  obtain ⟨tb', t1⟩ := l16 lr en (2 ^ C - 1) 1 (h3.1 15) (by have : 1 ≤ 2 ^ C := Nat.one_le_two_pow; omega) (fun S i hS _ hb => by
    have : S = 0 := by omega
    subst this
    rw [Nat.zero_testBit] at hb
    exact absurd hb (by decide))
  have h4 := pw_le (C := C) hC
  have eta : qrow h3 15 (h3.1 15) = h3 := qrow_eta h3 15
  have s1 : (sv (-1) (if 1 = 2 ^ C then mo C (fun _ => true) (tv (fun f => skn r p0 (stF (hm.1 9) f) + blF (hm.1 9) F f) (fun e f => skn r (enF (hm.1 9) e) (stF (hm.1 9) f) + blF (hm.1 9) F f) C m (2 ^ C - 1)) else none)) = -1 := by
    by_cases c : C = 0
    · rw [c]
      rfl
    · rw [if_neg (by
        have : 2 ^ 1 ≤ 2 ^ C := Nat.pow_le_pow_right (by omega) (by omega)
        omega)]
      rfl
  have t2 := t1 (fun (x52 : Int32) (x53 : Int32) (h54 : qH) => qlt (if x52 = (-1 : Int32) then (0 : Int32) else x52) fun (x56 : Int32) => some (x56, h54)) qN (qN_lt (by omega))
  rw [eta] at t2
  have t2 : f9_leastOf_L16 (nI t) (fun (x52 : Int32) (x53 : Int32) (h54 : qH) => qlt (if x52 = (-1 : Int32) then (0 : Int32) else x52) fun (x56 : Int32) => some (x56, h54)) qN (sv (-1) (if 1 = 2 ^ C then mo C (fun _ => true) (tv (fun f => skn r p0 (stF (hm.1 9) f) + blF (hm.1 9) F f) (fun e f => skn r (enF (hm.1 9) e) (stF (hm.1 9) f) + blF (hm.1 9) F f) C m (2 ^ C - 1)) else none)) 1 h3 = _ := t2
  rw [s1] at t2
  refine ⟨p0, w, nI C, tb', hp, e2, ?_⟩
  unfold f9_leastOf
  have e3' : f9_laysOrder (nI t) 0 (nI p0) hm = some ((sq (hm.1 9) r F t 0 p0 C).2.1, h3) := e3
  rw [e1, bind_s, e3', qb2_s, t2, qlt_e]
  have fin := en.fin (c0 := fun f => skn r p0 (stF (hm.1 9) f) + blF (hm.1 9) F f) (c1 := fun e f => skn r (enF (hm.1 9) e) (stF (hm.1 9) f) + blF (hm.1 9) F f)
  have fin : mo C (fun _ => true) (tv (fun f => skn r p0 (stF (hm.1 9) f) + blF (hm.1 9) F f) (fun e f => skn r (enF (hm.1 9) e) (stF (hm.1 9) f) + blF (hm.1 9) F f) C m (2 ^ C - 1)) = mo 24 (lsA (hm.1 9) F t) (fun f => VV (fun f => skn r p0 (stF (hm.1 9) f) + blF (hm.1 9) F f) (fun e f => skn r (enF (hm.1 9) e) (stF (hm.1 9) f) + blF (hm.1 9) F f) 24 (lsA (hm.1 9) F t) f) := fin
  rw [fin]
  unfold lsV
  cases a : mo 24 (lsA (hm.1 9) F t) (fun f => VV (fun f => skn r p0 (stF (hm.1 9) f) + blF (hm.1 9) F f) (fun e f => skn r (enF (hm.1 9) e) (stF (hm.1 9) f) + blF (hm.1 9) F f) 24 (lsA (hm.1 9) F t) f) with
  | none => rfl
  | some v =>
    obtain ⟨⟨g, -, -, g3⟩, -⟩ := mo_s a
    have vb := VV_le (c0 := fun f => skn r p0 (stF (hm.1 9) f) + blF (hm.1 9) F f) (c1 := fun e f => skn r (enF (hm.1 9) e) (stF (hm.1 9) f) + blF (hm.1 9) F f) (b := 27) (fun f => by have := skb p0 f; have := blb f; show skn r p0 (stF (hm.1 9) f) + blF (hm.1 9) F f ≤ 27; omega) (fun e f => by have := skb (enF (hm.1 9) e) f; have := blb f; show skn r (enF (hm.1 9) e) (stF (hm.1 9) f) + blF (hm.1 9) F f ≤ 27; omega) 24 (lsA (hm.1 9) F t) g
    show some ((if nI v = -1 then 0 else nI v), _) = some (nI v, _)
    rw [if_neg (nI_m1 (by omega))]
end PR4
