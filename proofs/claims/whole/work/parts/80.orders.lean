/-! ===== bits of an int (the rows of the family 'bt' that are used here) ===== -/
def bt (x : Int32) (i : Nat) : Bool := x.toBitVec.getLsbD i
theorem b_ext {x y : Int32} (h : ∀ i, i < 32 → bt x i = bt y i) : x = y := Int32.toBitVec_inj.mp (BitVec.eq_of_getLsbD_eq (fun i hi => h i hi))
theorem b_or (x y : Int32) (i : Nat) : bt (x ||| y) i = (bt x i || bt y i) := by unfold bt; rw [Int32.toBitVec_or, BitVec.getLsbD_or]
theorem b_and (x y : Int32) (i : Nat) : bt (x &&& y) i = (bt x i && bt y i) := by unfold bt; rw [Int32.toBitVec_and, BitVec.getLsbD_and]
theorem b_xor (x y : Int32) (i : Nat) : bt (x ^^^ y) i = (bt x i ^^ bt y i) := by unfold bt; rw [Int32.toBitVec_xor, BitVec.getLsbD_xor]
theorem b_0 (i : Nat) : bt 0 i = false := BitVec.getLsbD_zero
theorem b_1 : ∀ i, i < 32 → bt 1 i = decide (i = 0) := by decide +kernel
theorem b_m1 : ∀ i, i < 32 → bt (-1) i = true := by decide +kernel
theorem s_l : ∀ n, n < 32 → ((nI n &&& 31).toBitVec.smod 32).toNat = n := by decide +kernel
theorem b_shl (n : Nat) (hn : n < 32) (x : Int32) {i : Nat} (hi : i < 32) : bt (x <<< (nI n &&& 31)) i = (decide (n ≤ i) && bt x (i - n)) := by
  unfold bt
  rw [Int32.toBitVec_shiftLeft]
  show (x.toBitVec <<< ((nI n &&& 31).toBitVec.smod 32).toNat).getLsbD i = _
  rw [s_l n hn, BitVec.getLsbD_shiftLeft]
  rcases Nat.lt_or_ge i n with h | h
  · simp [h, Nat.not_le.mpr h]
  · simp [hi, h, Nat.not_lt.mpr h]
theorem b_sshr (n : Nat) (hn : n < 32) (x : Int32) {i : Nat} (hi : i < 32) : bt (x >>> (nI n &&& 31)) i = if n + i < 32 then bt x (n + i) else bt x 31 := by
  unfold bt
  rw [Int32.toBitVec_shiftRight]
  show (x.toBitVec.sshiftRight ((nI n &&& 31).toBitVec.smod 32).toNat).getLsbD i = _
  rw [s_l n hn, BitVec.getLsbD_sshiftRight, BitVec.msb_eq_getLsbD_last]
  simp [hi]
theorem b_sh1 {n i : Nat} (hn : n < 32) (hi : i < 32) : bt ((1 : Int32) <<< (nI n &&& 31)) i = decide (i = n) := by
  rw [b_shl n hn 1 hi, b_1 _ (by omega)]
  by_cases e : i = n
  · subst e; simp
  · by_cases h : n ≤ i
    · simp [e, h, show ¬ i - n = 0 by omega]
    · simp [e, h]
theorem b_has {x : Int32} {i : Nat} (hi : i < 32) : ((x >>> (nI i &&& 31)) &&& 1 = 1) ↔ bt x i = true := by
  have h0 : bt (x >>> (nI i &&& 31)) 0 = bt x i := by
    rw [b_sshr i hi x (show 0 < 32 by omega), if_pos (by omega)]
    rfl
  constructor
  · intro h
    have := congrArg (fun z => bt z 0) h
    simp only [b_and, b_1 0 (by omega), h0] at this
    simpa using this
  · intro h
    apply b_ext
    intro j hj
    rw [b_and, b_1 j hj]
    by_cases e : j = 0
    · subst e; rw [h0, h]; rfl
    · simp [e]
theorem f9_has_bt {x : Int32} {i : Nat} {h : qH} (hi : i < 32) : f9_has x (nI i) h = some (if bt x i = true then 1 else 0) := by
  unfold f9_has
  by_cases hp : bt x i = true
  · rw [if_pos ((b_has hi).mpr hp), if_pos hp]
    rfl
  · rw [if_neg (fun z => hp ((b_has hi).mp z)), if_neg hp]
    rfl
/-! ===== the order of a tape's files that are asked for ===== -/
def skn (r : Nat → Nat) (b c : Nat) : Nat := (if spot r b ≤ spot r c then spot r c - spot r b else spot r b - spot r c) + if b / r 2 = c / r 2 then 0 else 2
theorem skn_le {r : Nat → Nat} {b c : Nat} (h0 : 0 < r 2) (h16 : r 2 ≤ 16) : skn r b c ≤ 18 := by
  have s1 := spot_lt (r := r) (b := b) h0
  have s2 := spot_lt (r := r) (b := c) h0
  unfold skn
  split <;> split <;> omega
/-- asked for, on the tape t -/
def ia (N : Nat → Int32) (t f : Nat) : Bool := decide (N (48 + f) = nI t) && !decide (N (144 + f) = 0)
theorem ia_iff {N : Nat → Int32} {t f : Nat} : ia N t f = true ↔ N (48 + f) = nI t ∧ ¬ N (144 + f) = 0 := by simp [ia]
def ok1 (N : Nat → Int32) (r : Nat → Nat) (o p f : Nat) : Nat := if o = 1 then skn r p (ix (N (72 + f))) else 0
def ok2 (N : Nat → Int32) (o f : Nat) : Nat := if o = 2 then ix (N (144 + f)) else ix (N (72 + f))
theorem ok1_0 {N : Nat → Int32} {r : Nat → Nat} {p f : Nat} : ok1 N r 0 p f = 0 := if_neg (by decide)
theorem ok1_1 {N : Nat → Int32} {r : Nat → Nat} {p f : Nat} : ok1 N r 1 p f = skn r p (ix (N (72 + f))) := if_pos rfl
theorem ok1_2 {N : Nat → Int32} {r : Nat → Nat} {p f : Nat} : ok1 N r 2 p f = 0 := if_neg (by decide)
theorem ok2_0 {N : Nat → Int32} {f : Nat} : ok2 N 0 f = ix (N (72 + f)) := if_neg (by decide)
theorem ok2_1 {N : Nat → Int32} {f : Nat} : ok2 N 1 f = ix (N (72 + f)) := if_neg (by decide)
theorem ok2_2 {N : Nat → Int32} {f : Nat} : ok2 N 2 f = ix (N (144 + f)) := if_pos rfl
/-- ahead of another one -/
def bf (N : Nat → Int32) (r : Nat → Nat) (o p f g : Nat) : Bool := decide (ok1 N r o p f < ok1 N r o p g) || (decide (ok1 N r o p f = ok1 N r o p g) && decide (ok2 N o f < ok2 N o g))
theorem bf_iff {N : Nat → Int32} {r : Nat → Nat} {o p f g : Nat} : bf N r o p f g = true ↔ ok1 N r o p f < ok1 N r o p g ∨ ok1 N r o p f = ok1 N r o p g ∧ ok2 N o f < ok2 N o g := by simp [bf]
theorem bf_not {N : Nat → Int32} {r : Nat → Nat} {o p f g : Nat} : bf N r o p f g = false ↔ ok1 N r o p g < ok1 N r o p f ∨ ok1 N r o p f = ok1 N r o p g ∧ ok2 N o g ≤ ok2 N o f := by
  rw [← Bool.not_eq_true, bf_iff]
  constructor <;> intro h <;> omega
/-- the first of those that aren't done -/
def pk (N : Nat → Int32) (r : Nat → Nat) (t o p : Nat) (D : Nat → Bool) : Nat → Option Nat
  | 0 => none
  | n + 1 => if (ia N t n && !D n) = true then (pk N r t o p D n).elim (some n) (fun b => if bf N r o p n b = true then some n else some b) else pk N r t o p D n
theorem pk_some {N : Nat → Int32} {r : Nat → Nat} {t o p : Nat} {D : Nat → Bool} : ∀ {n b : Nat}, pk N r t o p D n = some b → b < n ∧ ia N t b = true ∧ D b = false ∧ ∀ g, g < n → ia N t g = true → D g = false → bf N r o p g b = false
  | 0, b, h => by cases h
  | n + 1, b, h => by
    have h : (if (ia N t n && !D n) = true then (pk N r t o p D n).elim (some n) (fun b => if bf N r o p n b = true then some n else some b) else pk N r t o p D n) = some b := h
    by_cases hn : (ia N t n && !D n) = true
    · rw [if_pos hn] at h
      have hn' : ia N t n = true ∧ D n = false := by simpa using hn
      cases hp : pk N r t o p D n with
      | none =>
        rw [hp] at h
        have h : some n = some b := h
        cases h
        refine ⟨by omega, hn'.1, hn'.2, fun g hg h1 h2 => ?_⟩
        by_cases e : g = n
        · subst e; rw [bf_not]; omega
        · exfalso
          exact (pk_no hp g (by omega) h1 h2)
      | some c =>
        rw [hp] at h
        have h : (if bf N r o p n c = true then some n else some c) = some b := h
        obtain ⟨c1, c2, c3, c4⟩ := pk_some hp
        by_cases hb : bf N r o p n c = true
        · rw [if_pos hb] at h
          cases h
          refine ⟨by omega, hn'.1, hn'.2, fun g hg h1 h2 => ?_⟩
          by_cases e : g = n
          · subst e; rw [bf_not]; omega
          · have := c4 g (by omega) h1 h2
            rw [bf_not] at this ⊢
            rw [bf_iff] at hb
            omega
        · rw [if_neg hb] at h
          cases h
          refine ⟨by omega, c2, c3, fun g hg h1 h2 => ?_⟩
          by_cases e : g = n
          · subst e; simpa using hb
          · exact c4 g (by omega) h1 h2
    · rw [if_neg hn] at h
      obtain ⟨c1, c2, c3, c4⟩ := pk_some h
      refine ⟨by omega, c2, c3, fun g hg h1 h2 => ?_⟩
      by_cases e : g = n
      · subst e; exact absurd (by simp [h1, h2]) hn
      · exact c4 g (by omega) h1 h2
where
  pk_no {N : Nat → Int32} {r : Nat → Nat} {t o p : Nat} {D : Nat → Bool} : ∀ {n : Nat}, pk N r t o p D n = none → ∀ g, g < n → ia N t g = true → D g = false → False
  | 0, _, g, hg, _, _ => by omega
  | n + 1, h, g, hg, h1, h2 => by
    have h : (if (ia N t n && !D n) = true then (pk N r t o p D n).elim (some n) (fun b => if bf N r o p n b = true then some n else some b) else pk N r t o p D n) = none := h
    by_cases hn : (ia N t n && !D n) = true
    · rw [if_pos hn] at h
      cases hp : pk N r t o p D n with
      | none => rw [hp] at h; cases h
      | some c =>
        rw [hp] at h
        have h : (if bf N r o p n c = true then some n else some c) = none := h
        by_cases hb : bf N r o p n c = true
        · rw [if_pos hb] at h; cases h
        · rw [if_neg hb] at h; cases h
    · rw [if_neg hn] at h
      by_cases e : g = n
      · subst e; exact hn (by simp [h1, h2])
      · exact pk_no h g (by omega) h1 h2
/-- how many aren't done -/
def akd (N : Nat → Int32) (t : Nat) (D : Nat → Bool) : Nat → Nat
  | 0 => 0
  | n + 1 => akd N t D n + if (ia N t n && !D n) = true then 1 else 0
theorem akd_0 (N : Nat → Int32) (t : Nat) : ∀ n, akd N t (fun _ => false) n = ak N (nI t) n
  | 0 => rfl
  | n + 1 => by
    show akd N t (fun _ => false) n + (if (ia N t n && !false) = true then 1 else 0) = ak N (nI t) n + _
    rw [akd_0 N t n]
    congr 1
    by_cases h1 : N (48 + n) = nI t <;> by_cases h2 : N (144 + n) = 0 <;> simp [ia, h1, h2]
theorem akd_ex {N : Nat → Int32} {t : Nat} {D : Nat → Bool} : ∀ {n : Nat}, 0 < akd N t D n → ∃ g, g < n ∧ ia N t g = true ∧ D g = false
  | 0, h => absurd h (by show ¬ 0 < 0; omega)
  | n + 1, h => by
    have h : 0 < akd N t D n + if (ia N t n && !D n) = true then 1 else 0 := h
    by_cases hn : (ia N t n && !D n) = true
    · have hn' : ia N t n = true ∧ D n = false := by simpa using hn
      exact ⟨n, by omega, hn'⟩
    · rw [if_neg hn] at h
      obtain ⟨g, h1, h2⟩ := akd_ex (n := n) (by omega)
      exact ⟨g, by omega, h2⟩
theorem akd_cg {N : Nat → Int32} {t : Nat} {D D' : Nat → Bool} : ∀ {n : Nat}, (∀ g, g < n → D' g = D g) → akd N t D' n = akd N t D n
  | 0, _ => rfl
  | n + 1, h => by
    show akd N t D' n + _ = akd N t D n + _
    rw [akd_cg (fun g hg => h g (by omega)), h n (by omega)]
theorem akd_upd {N : Nat → Int32} {t b : Nat} {D : Nat → Bool} (h1 : ia N t b = true) (h2 : D b = false) : ∀ {n : Nat}, b < n → akd N t (fun g => decide (g = b) || D g) n + 1 = akd N t D n
  | 0, h => by omega
  | n + 1, h => by
    show akd N t (fun g => decide (g = b) || D g) n + (if (ia N t n && !(decide (n = b) || D n)) = true then 1 else 0) + 1 = akd N t D n + (if (ia N t n && !D n) = true then 1 else 0)
    by_cases e : n = b
    · subst e
      rw [akd_cg (D := D) (D' := fun g => decide (g = n) || D g) (fun g hg => by simp [show ¬ g = n by omega])]
      simp [h1, h2]
    · have := akd_upd (D := D) h1 h2 (n := n) (by omega)
      simp only [e, decide_false, Bool.false_or]
      omega
/-- the order, step by step: where the head is, the time, what is done -/
def sb (N : Nat → Int32) (r : Nat → Nat) (F t o : Nat) (s : Nat × Int32 × (Nat → Bool)) : Nat := (pk N r t o s.1 s.2.2 F).getD 0
def sq (N : Nat → Int32) (r : Nat → Nat) (F t o p0 : Nat) : Nat → Nat × Int32 × (Nat → Bool)
  | 0 => (p0, 0, fun _ => false)
  | i + 1 => (ix (N (72 + sb N r F t o (sq N r F t o p0 i))) + ix (N (96 + sb N r F t o (sq N r F t o p0 i))) - 1, (sq N r F t o p0 i).2.1 + (sk r (sq N r F t o p0 i).1 (ix (N (72 + sb N r F t o (sq N r F t o p0 i)))) + N (96 + sb N r F t o (sq N r F t o p0 i))), fun g => decide (g = sb N r F t o (sq N r F t o p0 i)) || (sq N r F t o p0 i).2.2 g)
theorem sq_pk {N : Nat → Int32} {r : Nat → Nat} {F t o p0 i : Nat} (h : akd N t (sq N r F t o p0 i).2.2 F + i = ak N (nI t) F) (hi : i < ak N (nI t) F) : pk N r t o (sq N r F t o p0 i).1 (sq N r F t o p0 i).2.2 F = some (sb N r F t o (sq N r F t o p0 i)) := by
  obtain ⟨g, g1, g2, g3⟩ := akd_ex (N := N) (t := t) (D := (sq N r F t o p0 i).2.2) (n := F) (by omega)
  cases hp : pk N r t o (sq N r F t o p0 i).1 (sq N r F t o p0 i).2.2 F with
  | none => exact (pk_some.pk_no hp g g1 g2 g3).elim
  | some b =>
    unfold sb
    rw [hp]
    rfl
theorem sq_inv (N : Nat → Int32) (r : Nat → Nat) (F t o p0 : Nat) : ∀ i, i ≤ ak N (nI t) F → akd N t (sq N r F t o p0 i).2.2 F + i = ak N (nI t) F ∧ ∀ g, (sq N r F t o p0 i).2.2 g = true ↔ ∃ j, j < i ∧ sb N r F t o (sq N r F t o p0 j) = g
  | 0, _ => ⟨akd_0 N t F, fun g => ⟨fun h => absurd h (by show ¬ false = true; decide), fun ⟨j, hj, _⟩ => by omega⟩⟩
  | i + 1, hi => by
    obtain ⟨h1, h2⟩ := sq_inv N r F t o p0 i (by omega)
    have hp := sq_pk h1 (by omega)
    obtain ⟨p1, p2, p3, p4⟩ := pk_some hp
    refine ⟨?_, fun g => ?_⟩
    · have := akd_upd p2 p3 p1
      show akd N t (fun g => decide (g = sb N r F t o (sq N r F t o p0 i)) || (sq N r F t o p0 i).2.2 g) F + (i + 1) = _
      omega
    · show (decide (g = sb N r F t o (sq N r F t o p0 i)) || (sq N r F t o p0 i).2.2 g) = true ↔ _
      rw [Bool.or_eq_true, decide_eq_true_eq, h2 g]
      constructor
      · intro h
        rcases h with h | ⟨j, hj, e⟩
        · exact ⟨i, by omega, h.symm⟩
        · exact ⟨j, by omega, e⟩
      · intro ⟨j, hj, e⟩
        by_cases hji : j = i
        · subst hji; exact Or.inl e.symm
        · exact Or.inr ⟨j, by omega, e⟩
section PT
variable {T B F a : Nat} {r : Nat → Nat} {hx hm : qH}
theorem QQ.r2 (q : QQ T r B F hx a hm) : 0 < r 2 ∧ r 2 ≤ 16 := by
  have h1 := q.1.2.2.2.2.2.2.2.1
  have h2 := q.1.2.2.2.2.2.2.2.2.1
  omega
theorem QQ.seekN (q : QQ T r B F hx a hm) {p f : Nat} (hp : p < 2 ^ 31) (hf : f < F) : f9_seekOf (nI p) (hm.1 9 (72 + f)) hm = some (nI (skn r p (ix (hm.1 9 (72 + f))))) := by
  have h2 := q.r2
  have hn : hm.1 9 (72 + f) = nI (ix (hm.1 9 (72 + f))) := (q.fN hf).1
  have h3 := isN_lt (hm.1 9 (72 + f))
  generalize ix (hm.1 9 (72 + f)) = k at hn h3 ⊢
  rw [hn]
  exact f9_seekOf_eq (q.rm (show 2 < 8 by omega)) (by omega) (by omega) hp h3
theorem QQ.ahead9 (q : QQ T r B F hx a hm) {o p f g : Nat} (ho : o < 3) (hp : p < 2 ^ 31) (hf : f < F) (hg : g < F) : f9_isAhead (nI o) (nI f) (nI g) (nI p) hm = some (if bf (hm.1 9) r o p f g = true then 1 else 0) := by
  have hT := q.t31
  have hr := q.r2
  have nf := (q.fN hf).1
  have ng := (q.fN hg).1
  have tf := (q.2.2.2.2.2.2.2.1 f hf).2.2.1
  have tg := (q.2.2.2.2.2.2.2.1 g hg).2.2.1
  unfold f9_isAhead
  simp only [la_144, la_72, q353 (show 144 + f < 353 by omega), i353 (show 144 + f < 353 by omega), q353 (show 144 + g < 353 by omega), i353 (show 144 + g < 353 by omega), q353 (show 72 + f < 353 by omega), i353 (show 72 + f < 353 by omega), q353 (show 72 + g < 353 by omega), i353 (show 72 + g < 353 by omega), qg_t, qj_e, qlt_e, qbo_if', qbo_0, qbo_1, q.seekN hp hf, q.seekN hp hg, bind_s, isN_le2 ng nf, isN_le2 tg tf]
  rcases (show o = 0 ∨ o = 1 ∨ o = 2 by omega) with rfl | rfl | rfl
  · rw [if_neg (by decide), if_neg (by decide), if_neg (by decide), if_neg (by decide), if_pos trivial]
    by_cases h : ix (hm.1 9 (72 + g)) ≤ ix (hm.1 9 (72 + f))
    · rw [if_pos h, if_neg]
      rw [Bool.not_eq_true, bf_not, ok1_0, ok1_0, ok2_0, ok2_0]
      exact Or.inr ⟨rfl, h⟩
    · rw [if_neg h, if_pos]
      rw [bf_iff, ok1_0, ok1_0, ok2_0, ok2_0]
      exact Or.inr ⟨rfl, by omega⟩
  · have l1 := skn_le (r := r) (b := p) (c := ix (hm.1 9 (72 + f))) hr.1 hr.2
    have l2 := skn_le (r := r) (b := p) (c := ix (hm.1 9 (72 + g))) hr.1 hr.2
    rw [if_neg (by decide), if_pos (by decide), if_pos (by decide)]
    simp only [nI_ltI (show skn r p (ix (hm.1 9 (72 + f))) < 2 ^ 31 by omega) (show skn r p (ix (hm.1 9 (72 + g))) < 2 ^ 31 by omega), nI_eq (show skn r p (ix (hm.1 9 (72 + f))) < 2 ^ 31 by omega) (show skn r p (ix (hm.1 9 (72 + g))) < 2 ^ 31 by omega)]
    have e1 : ok1 (hm.1 9) r 1 p f = skn r p (ix (hm.1 9 (72 + f))) := ok1_1
    have e2 : ok1 (hm.1 9) r 1 p g = skn r p (ix (hm.1 9 (72 + g))) := ok1_1
    have e3 : ok2 (hm.1 9) 1 f = ix (hm.1 9 (72 + f)) := ok2_1
    have e4 : ok2 (hm.1 9) 1 g = ix (hm.1 9 (72 + g)) := ok2_1
    by_cases h1 : skn r p (ix (hm.1 9 (72 + f))) < skn r p (ix (hm.1 9 (72 + g)))
    · rw [if_pos h1, if_pos]
      rw [bf_iff, e1, e2]
      exact Or.inl h1
    · rw [if_neg h1]
      by_cases h2 : skn r p (ix (hm.1 9 (72 + f))) = skn r p (ix (hm.1 9 (72 + g)))
      · rw [if_pos h2]
        by_cases h : ix (hm.1 9 (72 + g)) ≤ ix (hm.1 9 (72 + f))
        · rw [if_pos h, if_neg]
          rw [Bool.not_eq_true, bf_not, e1, e2, e3, e4]
          omega
        · rw [if_neg h, if_pos]
          rw [bf_iff, e1, e2, e3, e4]
          omega
      · rw [if_neg h2, if_neg]
        rw [Bool.not_eq_true, bf_not, e1, e2, e3, e4]
        omega
  · rw [if_pos (by decide)]
    by_cases h : ix (hm.1 9 (144 + g)) ≤ ix (hm.1 9 (144 + f))
    · rw [if_pos h, if_neg]
      rw [Bool.not_eq_true, bf_not, ok1_2, ok1_2, ok2_2, ok2_2]
      exact Or.inr ⟨rfl, h⟩
    · rw [if_neg h, if_pos]
      rw [bf_iff, ok1_2, ok1_2, ok2_2, ok2_2]
      exact Or.inr ⟨rfl, by omega⟩
theorem QQ.lay36 (q : QQ T r B F hx a hm) {t o p : Nat} {D : Nat → Bool} {x4 x5 z1 : Int32} (ho : o < 3) (hp : p < 2 ^ 31) (hD : ∀ f, f < 24 → bt x5 f = D f) (k : Int32 → Int32 → Option (Int32 × qH)) : f9_laysOrder_L36 (nI t) (nI o) (nI p) x4 x5 z1 hm k qN (-1) 0 = k (oI (pk (hm.1 9) r t o p D F)) (nI F) := by
  have hT := q.t31
  obtain ⟨s, hI, h1⟩ := lq10 (σ := Int32) (fun m s x => f9_laysOrder_L36 (nI t) (nI o) (nI p) x4 x5 z1 hm k m s x) (fun s x => k s x) (fun i s => s = oI (pk (hm.1 9) r t o p D i)) F (by omega) (-1) rfl (fun i s hi hs => by
    have hs : s = oI (pk (hm.1 9) r t o p D i) := hs
    have g1 := nI_ge hi (show F < 2 ^ 31 by omega)
    have hb := hD i (by omega)
    refine ⟨oI (pk (hm.1 9) r t o p D (i + 1)), rfl, fun m => ?_⟩
    show f9_laysOrder_L36 (nI t) (nI o) (nI p) x4 x5 z1 hm k (m + 1) s (nI i) = f9_laysOrder_L36 (nI t) (nI o) (nI p) x4 x5 z1 hm k m (oI (pk (hm.1 9) r t o p D (i + 1))) (nI (i + 1))
    have ep : pk (hm.1 9) r t o p D (i + 1) = if (ia (hm.1 9) t i && !D i) = true then (pk (hm.1 9) r t o p D i).elim (some i) (fun b => if bf (hm.1 9) r o p i b = true then some i else some b) else pk (hm.1 9) r t o p D i := rfl
    by_cases hon : hm.1 9 (48 + i) = nI t
    · by_cases h0 : hm.1 9 (144 + i) = 0
      · rw [ep, if_neg (by simp [ia, h0]), ← hs]
        have h0' : hm.1 9 (144 + i) ≤ 0 := by rw [h0]; decide
        simp only [f9_laysOrder_L36, q.Fm, g1, if_false, f9_isOn_eq (show i < 24 by omega), hon, if_true, bind_s, q1f, la_144, q353 (show 144 + i < 353 by omega), i353 (show 144 + i < 353 by omega), qg_t, h0', qj_e, qlt_e, nI_1]
      · by_cases hd : D i = true
        · rw [ep, if_neg (by simp [hd]), ← hs]
          simp only [f9_laysOrder_L36, q.Fm, g1, if_false, f9_isOn_eq (show i < 24 by omega), hon, if_true, bind_s, q1f, la_144, q353 (show 144 + i < 353 by omega), i353 (show 144 + i < 353 by omega), qg_t, q.ask hi, h0, f9_has_bt (show i < 32 by omega), hb, hd, qj_e, qlt_e, nI_1]
        · have hd' : D i = false := by simpa using hd
          rw [ep, if_pos (by simp [ia, hon, h0, hd'])]
          cases hpk : pk (hm.1 9) r t o p D i with
          | none =>
            rw [hpk] at hs
            have hs : s = -1 := hs
            show _ = f9_laysOrder_L36 (nI t) (nI o) (nI p) x4 x5 z1 hm k m (nI i) (nI (i + 1))
            simp only [f9_laysOrder_L36, q.Fm, g1, if_false, f9_isOn_eq (show i < 24 by omega), hon, if_true, bind_s, q1f, la_144, q353 (show 144 + i < 353 by omega), i353 (show 144 + i < 353 by omega), qg_t, q.ask hi, h0, f9_has_bt (show i < 32 by omega), hb, hd', Bool.false_eq_true, hs, qj_e, qlt_e, nI_1]
          | some b =>
            rw [hpk] at hs
            have hs : s = nI b := hs
            have hbF := (pk_some hpk).1
            have nm := nI_m1 (show b < 2 ^ 31 by omega)
            show _ = f9_laysOrder_L36 (nI t) (nI o) (nI p) x4 x5 z1 hm k m (oI (if bf (hm.1 9) r o p i b = true then some i else some b)) (nI (i + 1))
            by_cases hbf : bf (hm.1 9) r o p i b = true
            · rw [if_pos hbf, oI_some]
              simp only [f9_laysOrder_L36, q.Fm, g1, if_false, f9_isOn_eq (show i < 24 by omega), hon, if_true, bind_s, q1f, la_144, q353 (show 144 + i < 353 by omega), i353 (show 144 + i < 353 by omega), qg_t, q.ask hi, h0, f9_has_bt (show i < 32 by omega), hb, hd', Bool.false_eq_true, hs, nm, q.ahead9 ho hp hi (show b < F by omega), hbf, qj_e, qlt_e, nI_1]
            · rw [if_neg hbf, oI_some]
              simp only [f9_laysOrder_L36, q.Fm, g1, if_false, f9_isOn_eq (show i < 24 by omega), hon, if_true, bind_s, q1f, la_144, q353 (show 144 + i < 353 by omega), i353 (show 144 + i < 353 by omega), qg_t, q.ask hi, h0, f9_has_bt (show i < 32 by omega), hb, hd', Bool.false_eq_true, hs, nm, q.ahead9 ho hp hi (show b < F by omega), hbf, qj_e, qlt_e, nI_1]
    · rw [ep, if_neg (by simp [ia, hon]), ← hs]
      simp only [f9_laysOrder_L36, q.Fm, g1, if_false, f9_isOn_eq (show i < 24 by omega), hon, if_true, bind_s, qj_e, qlt_e, nI_1]) (fun m s _ => by
    show f9_laysOrder_L36 (nI t) (nI o) (nI p) x4 x5 z1 hm k (m + 1) s (nI F) = _
    rw [f9_laysOrder_L36, q.Fm, if_pos (nI_le (Nat.le_refl _) (by omega))])
  have hI : s = oI (pk (hm.1 9) r t o p D F) := hI
  rw [← hI]
  exact h1
end PT
