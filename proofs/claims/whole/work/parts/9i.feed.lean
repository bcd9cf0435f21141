/-! ===== bytes that are fed ===== -/
def bN (p : Int32) (s : Nat) : Nat := (p.toBitVec.toNat >>> s) % 256
theorem bN_lt (p : Int32) (s : Nat) : bN p s ≤ 255 := by
  have := Nat.mod_lt (p.toBitVec.toNat >>> s) (show 0 < 256 by omega)
  unfold bN
  omega
theorem b_nI (n : Nat) {i : Nat} (hi : i < 32) : bt (nI n) i = n.testBit i := by
  show (BitVec.ofNat 32 n).getLsbD i = _
  rw [BitVec.getLsbD_ofNat, decide_eq_true hi, Bool.true_and]
theorem b_255 : ∀ i, i < 32 → bt 255 i = decide (i < 8) := by decide +kernel
theorem b_bN (p : Int32) {s i : Nat} (hi : i < 32) : bt (nI (bN p s)) i = (decide (i < 8) && bt p (s + i)) := by
  rw [b_nI _ hi]
  unfold bN
  rw [show 256 = 2 ^ 8 from rfl, Nat.testBit_mod_two_pow, Nat.testBit_shiftRight]
  rfl
theorem s_u : ∀ s, s < 32 → (((nI s).toUInt32 &&& Int32.toUInt32 31).toBitVec % 32).toNat = s := by decide +kernel
theorem byX (p : Int32) {s : Nat} (hs : s < 25) : ((p.toUInt32 >>> ((nI s).toUInt32 &&& Int32.toUInt32 31)).toInt32) &&& (255 : Int32) = nI (bN p s) := by
  apply b_ext
  intro i hi
  rw [b_and, b_255 i hi, b_bN p hi, Bool.and_comm]
  congr 1
  show (p.toUInt32 >>> ((nI s).toUInt32 &&& Int32.toUInt32 31)).toBitVec.getLsbD i = p.toBitVec.getLsbD (s + i)
  rw [UInt32.toBitVec_shiftRight]
  show (p.toBitVec >>> (((nI s).toUInt32 &&& Int32.toUInt32 31).toBitVec % 32).toNat).getLsbD i = _
  rw [s_u s (by omega), BitVec.getLsbD_ushiftRight]
theorem byM (p : Int32) {s : Nat} (hs : s < 25) : (p >>> (nI s &&& 31)) &&& (255 : Int32) = nI (bN p s) := by
  apply b_ext
  intro i hi
  rw [b_and, b_255 i hi, b_bN p hi, Bool.and_comm]
  by_cases h8 : i < 8
  · rw [b_sshr s (by omega) p hi, if_pos (by omega)]
  · rw [decide_eq_false h8, Bool.false_and, Bool.false_and]
def by4 (p : Int32) : List Nat := [bN p 24, bN p 16, bN p 8, bN p 0]
/-- how many are no zeros -/
def nzc : List Nat → Nat
  | [] => 0
  | c :: t => (if c = 0 then 0 else 1) + nzc t
theorem nzc_app : ∀ (a b : List Nat), nzc (a ++ b) = nzc a + nzc b
  | [], b => by rw [List.nil_append]; exact (Nat.zero_add _).symm
  | c :: t, b => by
    show (if c = 0 then 0 else 1) + nzc (t ++ b) = (if c = 0 then 0 else 1) + nzc t + nzc b
    rw [nzc_app t b]
    omega
def aX : List Nat → Nat → qH → qH
  | [], _, h => h
  | c :: t, L, h => if c = 0 then aX t L h else aX t (L + 1) (qw (qw h 2 L (nI c)) 1 1 (nI (L + 1)))
def aM : List Nat → Nat → qH → qH
  | [], _, h => h
  | c :: t, L, h => if c = 0 then aM t L h else aM t (L + 1) (qw (qw h 1 L (nI c)) 0 2 (nI (L + 1)))
theorem aX_app : ∀ (a b : List Nat) (L : Nat) (h : qH), aX (a ++ b) L h = aX b (L + nzc a) (aX a L h)
  | [], b, L, h => rfl
  | c :: t, b, L, h => by
    show (if c = 0 then aX (t ++ b) L h else aX (t ++ b) (L + 1) _) = aX b (L + ((if c = 0 then 0 else 1) + nzc t)) (if c = 0 then aX t L h else aX t (L + 1) _)
    by_cases e : c = 0
    · rw [if_pos e, if_pos e, if_pos e, aX_app t b, Nat.zero_add]
    · rw [if_neg e, if_neg e, if_neg e, aX_app t b, Nat.add_assoc]
def EX (hx hx' : qH) : Prop := (∀ b, b ≠ 1 → b ≠ 2 → hx'.1 b = hx.1 b) ∧ ∀ j, j ≠ 1 → hx'.1 1 j = hx.1 1 j
def EM (hm hm' : qH) : Prop := (∀ b, b ≠ 0 → b ≠ 1 → hm'.1 b = hm.1 b) ∧ ∀ j, j ≠ 2 → hm'.1 0 j = hm.1 0 j
theorem EX.tr {h h1 h2 : qH} (x : EX h h1) (y : EX h1 h2) : EX h h2 := ⟨fun b p q => (y.1 b p q).trans (x.1 b p q), fun j p => (y.2 j p).trans (x.2 j p)⟩
theorem EM.tr {h h1 h2 : qH} (x : EM h h1) (y : EM h1 h2) : EM h h2 := ⟨fun b p q => (y.1 b p q).trans (x.1 b p q), fun j p => (y.2 j p).trans (x.2 j p)⟩
theorem aX_b : ∀ (cs : List Nat) (L : Nat) (hx : qH), hx.1 1 1 = nI L → (aX cs L hx).1 1 1 = nI (L + nzc cs) ∧ EX hx (aX cs L hx)
  | [], L, hx, h => ⟨h, fun _ _ _ => rfl, fun _ _ => rfl⟩
  | c :: t, L, hx, h => by
    show (if c = 0 then aX t L hx else aX t (L + 1) _).1 1 1 = nI (L + ((if c = 0 then 0 else 1) + nzc t)) ∧ EX hx (if c = 0 then aX t L hx else aX t (L + 1) _)
    by_cases e : c = 0
    · rw [if_pos e, if_pos e, Nat.zero_add]
      exact aX_b t L hx h
    · rw [if_neg e, if_neg e, ← Nat.add_assoc]
      have z := aX_b t (L + 1) (qw (qw hx 2 L (nI c)) 1 1 (nI (L + 1))) (by rw [qrow_at, upd_at])
      exact ⟨z.1, EX.tr ⟨fun b b1 b2 => by rw [qrow_ne b1, qrow_ne b2], fun j j1 => by rw [qrow_at, upd_ne j1, qrow_ne (by omega)]⟩ z.2⟩
theorem aXM : ∀ (cs : List Nat) (L : Nat) (hx hm : qH), BY L hx hm → (∀ c, c ∈ cs → c ≤ 255) → L + nzc cs ≤ 240 → BY (L + nzc cs) (aX cs L hx) (aM cs L hm) ∧ EM hm (aM cs L hm)
  | [], L, hx, hm, h, _, _ => ⟨h, fun _ _ _ => rfl, fun _ _ => rfl⟩
  | c :: t, L, hx, hm, h, hc, hl => by
    have hl : L + ((if c = 0 then 0 else 1) + nzc t) ≤ 240 := hl
    show BY (L + ((if c = 0 then 0 else 1) + nzc t)) (if c = 0 then aX t L hx else aX t (L + 1) _) (if c = 0 then aM t L hm else aM t (L + 1) _) ∧ EM hm (if c = 0 then aM t L hm else aM t (L + 1) _)
    by_cases e : c = 0
    · rw [if_pos e] at hl
      rw [if_pos e, if_pos e, if_pos e, Nat.zero_add]
      exact aXM t L hx hm h (fun c hc' => hc c (List.mem_cons_of_mem _ hc')) (by omega)
    · rw [if_neg e] at hl
      rw [if_neg e, if_neg e, if_neg e, ← Nat.add_assoc]
      have c255 := hc c (List.mem_cons_self ..)
      have z := aXM t (L + 1) (qw (qw hx 2 L (nI c)) 1 1 (nI (L + 1))) (qw (qw hm 1 L (nI c)) 0 2 (nI (L + 1))) ?_ (fun c hc' => hc c (List.mem_cons_of_mem _ hc')) (by omega)
      · exact ⟨z.1, EM.tr ⟨fun b b1 b2 => by rw [qrow_ne b1, qrow_ne b2], fun j j1 => by rw [qrow_at, upd_ne j1, qrow_ne (by omega)]⟩ z.2⟩
      · refine ⟨by rw [qrow_at, upd_at], by rw [qrow_at, upd_at], by omega, fun i hi => ?_⟩
        have e2 : (qw (qw hx 2 L (nI c)) 1 1 (nI (L + 1))).1 2 = upd (hx.1 2) L (nI c) := by rw [qrow_ne (by omega), qrow_at]
        have e1 : (qw (qw hm 1 L (nI c)) 0 2 (nI (L + 1))).1 1 = upd (hm.1 1) L (nI c) := by rw [qrow_ne (by omega), qrow_at]
        rw [e1, e2]
        by_cases ei : i = L
        · subst ei
          rw [upd_at, upd_at]
          exact ⟨rfl, c, by omega, c255, rfl⟩
        · rw [upd_ne ei, upd_ne ei]
          exact h.2.2.2 i (by omega)
section PN1
variable {L : Nat} {hx hm : qH}
theorem qN_6 : ∃ n, qN = n + 6 := ⟨qN - 6, by have := qN_ge; omega⟩
theorem signs_eq (p : Int32) : f0_signsIn p hx = some (nI (nzc (by4 p))) := by
  obtain ⟨n, hn⟩ := qN_6
  have st : ∀ (s m : Nat) (acc : Nat) (k : Int32 → Int32 → Option Int32), s < 25 → f0_signsIn_L5 p hx k (m + 1) (nI acc) (nI s) = f0_signsIn_L5 p hx k m (nI (acc + if bN p s = 0 then 0 else 1)) (nI s + -8) := by
    intro s m acc k hs
    rw [f0_signsIn_L5, if_neg (nI_pos (by omega)), qlt_e, qlt_e, qlt_e, byX p hs]
    have := bN_lt p s
    by_cases e : bN p s = 0
    · rw [e, if_pos (show nI 0 = 0 from rfl), if_pos rfl]
      show f0_signsIn_L5 p hx k m (nI acc + nI 0) _ = _
      rw [nI_add]
    · rw [if_neg (show ¬ nI (bN p s) = 0 from fun z => e (nI_inj (b := 0) (by omega) (by omega) z)), if_neg e, nI_1]
  unfold f0_signsIn
  rw [hn]
  have z1 := st 24 (n + 5) 0 (fun x8 _ => some x8) (by omega)
  have z2 := st 16 (n + 4) (0 + if bN p 24 = 0 then 0 else 1) (fun x8 _ => some x8) (by omega)
  have z3 := st 8 (n + 3) (0 + (if bN p 24 = 0 then 0 else 1) + if bN p 16 = 0 then 0 else 1) (fun x8 _ => some x8) (by omega)
  have z4 := st 0 (n + 2) (0 + (if bN p 24 = 0 then 0 else 1) + (if bN p 16 = 0 then 0 else 1) + if bN p 8 = 0 then 0 else 1) (fun x8 _ => some x8) (by omega)
  refine z1.trans (Eq.trans ?_ (z2.trans (Eq.trans ?_ (z3.trans (Eq.trans ?_ (z4.trans ?_))))))
  · rw [show nI 24 + -8 = nI 16 from by decide]
  · rw [show nI 16 + -8 = nI 8 from by decide]
  · rw [show nI 8 + -8 = nI 0 from by decide]
  · rw [f0_signsIn_L5, if_pos (by decide)]
    show some (nI _) = some (nI ((if bN p 24 = 0 then 0 else 1) + ((if bN p 16 = 0 then 0 else 1) + ((if bN p 8 = 0 then 0 else 1) + ((if bN p 0 = 0 then 0 else 1) + 0)))))
    congr 2
    omega
theorem add_st {p : Int32} {k : Int32 → qH → Option qH} {s m : Nat} (h : hx.1 1 1 = nI L) (hs : s < 25) (hl : bN p s ≠ 0 → L < 240) : f0_add_L3 p k (m + 1) (nI s) hx = f0_add_L3 p k m (nI s + -8) (aX [bN p s] L hx) := by
  rw [f0_add_L3, if_neg (nI_pos (by omega)), qlt_e, qj_e, byX p hs]
  have b := bN_lt p s
  by_cases e : bN p s = 0
  · rw [e, if_pos (show nI 0 = 0 from rfl)]
    rfl
  · have hl := hl e
    have e2 : (qw hx 2 L (nI (bN p s))).1 1 1 = nI L := by rw [qrow_ne (by omega)]; exact h
    rw [if_neg (show ¬ nI (bN p s) = 0 from fun z => e (nI_inj (b := 0) (by omega) (by omega) z)), h, if_neg (show ¬ (240 : Int32) ≤ nI L from nI_ge (b := 240) hl (by omega)), qin_nI hl (by omega), qg_t, qlt_e, ix_nI (by omega), qlt_e, e2, nI_1]
    show _ = f0_add_L3 p k m (nI s + -8) (if bN p s = 0 then hx else _)
    rw [if_neg e]
    rfl
theorem add_eq4 {p : Int32} (h : hx.1 1 1 = nI L) (hl : L + nzc (by4 p) ≤ 240) : f0_add p hx = some (aX (by4 p) L hx) := by
  obtain ⟨n, hn⟩ := qN_6
  have hl : L + ((if bN p 24 = 0 then 0 else 1) + ((if bN p 16 = 0 then 0 else 1) + ((if bN p 8 = 0 then 0 else 1) + ((if bN p 0 = 0 then 0 else 1) + 0)))) ≤ 240 := hl
  have i1 : ∀ c : Nat, c ≠ 0 → (if c = 0 then 0 else 1) = 1 := fun c hc => if_neg hc
  have h1 := (aX_b [bN p 24] L hx h).1
  have h2 := (aX_b [bN p 16] (L + nzc [bN p 24]) _ h1).1
  have h3 := (aX_b [bN p 8] (L + nzc [bN p 24] + nzc [bN p 16]) _ h2).1
  have n1 : ∀ c, nzc [c] = if c = 0 then 0 else 1 := fun c => Nat.add_zero _
  unfold f0_add
  rw [hn]
  refine Eq.trans (add_st (s := 24) (m := n + 5) h (by omega) (fun z => by have := i1 _ z; omega)) ?_
  rw [show nI 24 + -8 = nI 16 from by decide]
  refine Eq.trans (add_st (s := 16) (m := n + 4) h1 (by omega) (fun z => by have := i1 _ z; have := n1 (bN p 24); omega)) ?_
  rw [show nI 16 + -8 = nI 8 from by decide]
  refine Eq.trans (add_st (s := 8) (m := n + 3) h2 (by omega) (fun z => by have := i1 _ z; have := n1 (bN p 24); have := n1 (bN p 16); omega)) ?_
  rw [show nI 8 + -8 = nI 0 from by decide]
  refine Eq.trans (add_st (s := 0) (m := n + 2) h3 (by omega) (fun z => by have := i1 _ z; have := n1 (bN p 24); have := n1 (bN p 16); have := n1 (bN p 8); omega)) ?_
  rw [f0_add_L3, if_pos (by decide), ← aX_app, Nat.add_assoc, ← nzc_app, ← aX_app, ← aX_app]
  rfl
end PN1
