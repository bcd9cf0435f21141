section PC
variable {T B F a : Nat} {r : Nat → Nat} {hx hm : qH}
/-- the time of a seek -/
def sk (r : Nat → Nat) (b c : Nat) : Int32 := nI ((if spot r b ≤ spot r c then spot r c - spot r b else spot r b - spot r c) + if b / r 2 = c / r 2 then 0 else 2)
theorem spot_lt {b : Nat} (h : 0 < r 2) : spot r b < r 2 := by
  have := Nat.mod_lt b h
  unfold spot
  split <;> omega
theorem f9_wrapOf_eq {b : Nat} (h2 : hm.1 5 2 = nI (r 2)) (h0 : 0 < r 2) (h1 : r 2 < 2 ^ 31) (hb : b < 2 ^ 31) : f9_wrapOf (nI b) hm = some (nI (b / r 2)) := by
  unfold f9_wrapOf
  rw [h2, show decide (¬ nI (r 2) = 0) = true from decide_eq_true (nI_ne0 h0 h1), qg_t, pk_div hb h0 h1]
theorem f9_spotOf_eq {b : Nat} (h2 : hm.1 5 2 = nI (r 2)) (h0 : 0 < r 2) (h1 : r 2 < 2 ^ 31) (hb : b < 2 ^ 31) : f9_spotOf (nI b) hm = some (nI (spot r b)) := by
  have hw : b / r 2 < 2 ^ 31 := Nat.lt_of_le_of_lt (Nat.div_le_self _ _) hb
  have hr := Nat.mod_lt b h0
  unfold f9_spotOf
  rw [f9_wrapOf_eq h2 h0 h1 hb]
  simp only [h2, show decide (¬ nI (r 2) = 0) = true from decide_eq_true (nI_ne0 h0 h1), qg_t, qlt_e, qj_e, bind_s, pk_rem hb h0 h1, show decide (¬ (2 : Int32) = 0) = true from by decide]
  rw [show (2 : Int32) = nI 2 from rfl, pk_rem hw (by omega) (by omega), show (1 : Int32) = nI 1 from rfl]
  have h3 : b / r 2 % 2 < 2 := Nat.mod_lt _ (by omega)
  unfold spot
  by_cases hc : b / r 2 % 2 = 1
  · rw [if_pos (by rw [hc]), if_pos hc, pk_sub (by omega), pk_sub (by omega)]
  · rw [if_neg (by rw [nI_eq (by omega) (by omega)]; exact hc), if_neg hc]
theorem ap_eq (x y : Nat) (hx : x < 2 ^ 30) (hy : y < 2 ^ 30) : (if nI x ≤ nI y then nI y - nI x else nI x - nI y) = nI (if x ≤ y then y - x else x - y) := by
  by_cases hc : x ≤ y
  · rw [if_pos (nI_le hc (by omega)), if_pos hc, pk_sub hc]
  · rw [if_neg (nI_ge (by omega) (by omega)), if_neg hc, pk_sub (by omega)]
theorem f9_apart_eq (x y : Int32) : f9_apart x y hm = some (if x ≤ y then y - x else x - y) := rfl
theorem f9_seekOf_eq {b c : Nat} (h2 : hm.1 5 2 = nI (r 2)) (h0 : 0 < r 2) (h1 : r 2 < 2 ^ 30) (hb : b < 2 ^ 31) (hc : c < 2 ^ 31) : f9_seekOf (nI b) (nI c) hm = some (sk r b c) := by
  have s1 := spot_lt (r := r) (b := b) h0
  have s2 := spot_lt (r := r) (b := c) h0
  have w1 : b / r 2 < 2 ^ 31 := Nat.lt_of_le_of_lt (Nat.div_le_self _ _) hb
  have w2 : c / r 2 < 2 ^ 31 := Nat.lt_of_le_of_lt (Nat.div_le_self _ _) hc
  unfold f9_seekOf
  rw [f9_spotOf_eq h2 h0 (by omega) hb, f9_spotOf_eq h2 h0 (by omega) hc, f9_wrapOf_eq h2 h0 (by omega) hb, f9_wrapOf_eq h2 h0 (by omega) hc]
  simp only [bind_s, f9_apart_eq, qlt_e]
  rw [ap_eq _ _ (by omega) (by omega)]
  simp only [nI_eq w1 w2]
  unfold sk
  by_cases hw : b / r 2 = c / r 2
  · rw [if_pos hw, if_pos hw, show (0 : Int32) = nI 0 from rfl, nI_add]
  · rw [if_neg hw, if_neg hw, show (2 : Int32) = nI 2 from rfl, nI_add]
theorem f4_seekTime_eq {b c : Nat} (hX : HX T r hx) (hB : HB T r) (hb : b < r 2 * r 3) (hc : c < r 2 * r 3) : f4_seekTime 6 (nI b) (nI c) hx = some (sk r b c) := by
  obtain ⟨x1, x2, x3, x4⟩ := hX
  obtain ⟨b1, b2, b3, b4, b5, b6, b7, b8, b9, b10, b11, -⟩ := hB
  have hL : r 2 * r 3 ≤ 96 := Nat.le_trans (Nat.mul_le_mul b9 b11) (by omega)
  have s1 := spot_lt (r := r) (b := b) (by omega)
  have s2 := spot_lt (r := r) (b := c) (by omega)
  have w1 : b / r 2 < 2 ^ 31 := Nat.lt_of_le_of_lt (Nat.div_le_self _ _) (by omega)
  have w2 : c / r 2 < 2 ^ 31 := Nat.lt_of_le_of_lt (Nat.div_le_self _ _) (by omega)
  unfold f4_seekTime
  rw [if_neg (nI_pos (by omega)), if_neg (nI_pos (by omega)), x3, if_neg (nI_ge hb (by omega)), if_pos (nI_lt hc (by omega)), qin_nI (show b < 96 by omega) (by omega), qin_nI (show c < 96 by omega) (by omega), qg_t, qg_t]
  simp only [qlt_e, qg_t, ix_nI (show b < 2 ^ 31 by omega), ix_nI (show c < 2 ^ 31 by omega)]
  rw [(x4 b hb).1, (x4 c hc).1, (x4 b hb).2, (x4 c hc).2]
  simp only [nI_eq w1 w2]
  have e : (if (0 : Int32) ≤ nI (spot r b) - nI (spot r c) then nI (spot r b) - nI (spot r c) else -(nI (spot r b) - nI (spot r c))) = nI (if spot r b ≤ spot r c then spot r c - spot r b else spot r b - spot r c) := by
    by_cases h : spot r b ≤ spot r c
    · rw [if_pos h]
      by_cases h' : spot r b = spot r c
      · rw [h', pk_sub (Nat.le_refl _), Nat.sub_self]
        rfl
      · rw [if_neg (by
          have := pk_sneg (a := spot r b) (b := spot r c) (by omega) (by omega)
          exact Int32.not_le.mpr this), Int32.neg_sub, pk_sub h]
    · rw [if_neg h, pk_sub (by omega), if_pos (nI_pos' (by omega))]
  rw [e]
  unfold sk
  by_cases hw : b / r 2 = c / r 2
  · rw [if_pos hw, if_pos hw, show (0 : Int32) = nI 0 from rfl, nI_add]
  · rw [if_neg hw, if_neg hw, show (2 : Int32) = nI 2 from rfl, nI_add]
theorem f4_armTime_eq (p : Nat) (x y : Int32) : f4_armTime p x y hx = some (hx.1 (p + 1) 5 * (if y ≤ x then x - y else y - x)) := rfl
/-- the way of the arm -/
def wy (r : Nat → Nat) (x y : Int32) : Int32 := nI (r 5) * (if x ≤ y then y - x else x - y)
theorem wy_comm (x y : Int32) : wy r x y = wy r y x := by
  unfold wy
  by_cases h1 : x ≤ y <;> by_cases h2 : y ≤ x
  · have : x = y := Int32.le_antisymm h1 h2
    subst this; rfl
  · rw [if_pos h1, if_neg h2]
  · rw [if_neg h1, if_pos h2]
  · exact absurd (Int32.le_of_lt (Int32.not_le.mp h1)) h2
theorem QQ.arm (q : QQ T r B F hx a hm) (x y : Int32) : f4_armTime 6 x y hx = some (wy r x y) := by
  rw [f4_armTime_eq, show (6 + 1 : Nat) = 7 from rfl, q.rx (by omega), wy_comm]
  rfl
theorem QQ.seek (q : QQ T r B F hx a hm) {b c : Nat} (hb : b < r 2 * r 3) (hc : c < r 2 * r 3) : f4_seekTime 6 (nI b) (nI c) hx = some (sk r b c) ∧ f9_seekOf (nI b) (nI c) hm = some (sk r b c) := by
  obtain ⟨b1, b2, b3, b4, b5, b6, b7, b8, b9, b10, b11, -⟩ := q.1
  have hL : r 2 * r 3 ≤ 96 := Nat.le_trans (Nat.mul_le_mul b9 b11) (by omega)
  exact ⟨f4_seekTime_eq q.2.1 q.1 hb hc, f9_seekOf_eq (q.rm (by omega)) (by omega) (by omega) (by omega) (by omega)⟩
theorem QQ.L96 (q : QQ T r B F hx a hm) : r 2 * r 3 ≤ 96 ∧ 4 ≤ r 2 * r 3 := by
  obtain ⟨b1, b2, b3, b4, b5, b6, b7, b8, b9, b10, b11, -⟩ := q.1
  exact ⟨Nat.le_trans (Nat.mul_le_mul b9 b11) (by omega), Nat.le_trans (by omega) (Nat.mul_le_mul b8 b10)⟩
/-! is it a tape, a file -/
theorem f9_in_eq (x lo hi : Int32) : f9_in x lo hi hm = some (if x < lo then 0 else if hi < x then 0 else 1) := by
  unfold f9_in
  by_cases h1 : x < lo <;> by_cases h2 : hi < x <;> simp only [h1, h2, qlt_e, if_true, if_false, qbo_0, qbo_1, qg_t]
theorem pred_lt {n : Nat} {x : Int32} (hn : n < 2 ^ 31) (hx0 : ¬ x < 0) : (nI n - 1 < x) ↔ nI n ≤ x := by
  obtain ⟨k, hk, rfl⟩ := nI_of hx0
  rcases Nat.eq_zero_or_pos n with h | h
  · subst h
    rw [nI_0]
    constructor
    · intro _; exact nI_pos' hk
    · intro _
      show (0 : Int32) - 1 < nI k
      rw [Int32.lt_iff_toInt_lt, nI_toInt hk]
      show (-1 : Int) < _
      omega
  · obtain ⟨m, rfl⟩ : ∃ m, n = m + 1 := ⟨n - 1, by omega⟩
    rw [nI_pred, nI_ltI (by omega) hk, nI_leI hn hk]
    omega
theorem QQ.isTape (q : QQ T r B F hx a hm) (t : Int32) : (∃ k, k < T ∧ t = nI k ∧ f4_isTape 6 t hx = some 1 ∧ f9_isTape t hm = some 1) ∨ (f4_isTape 6 t hx = some 0 ∧ f9_isTape t hm = some 0) := by
  have hT := q.t31
  unfold f4_isTape f9_isTape
  rw [f9_in_eq, q.Tx, q.Tm]
  simp only [bind_s, qlt_e]
  by_cases h0 : t < 0
  · exact Or.inr ⟨by simp only [h0, if_true, qbo_0, qg_t], by simp only [h0, if_true, qbo_0, qg_t]⟩
  · have := pred_lt (n := T) (by omega) h0
    by_cases h1 : nI T ≤ t
    · exact Or.inr ⟨by simp only [h0, h1, if_true, if_false, qbo_0, qg_t], by simp only [h0, this.mpr h1, if_true, if_false, qbo_0, qg_t]⟩
    · obtain ⟨k, hk, rfl⟩ := nI_of h0
      rw [nI_leI (by omega) hk] at h1
      have h2 : ¬ nI T - 1 < nI k := fun h => h1 ((nI_leI (by omega) hk).mp (this.mp h))
      have h3 : ¬ nI T ≤ nI k := fun h => h1 ((nI_leI (by omega) hk).mp h)
      exact Or.inl ⟨k, by omega, rfl, by simp only [h0, h3, if_false, qbo_1, qg_t], by simp only [h0, h2, if_false, qbo_1, qg_t]⟩
theorem QQ.told (q : QQ T r B F hx a hm) : f4_isTold 6 hx = some 1 ∧ f9_isHall hm = some 1 := by
  have hT := q.t31
  have h0 := q.1.1
  unfold f4_isTold f9_isHall
  rw [q.Tx, q.Tm, if_neg (nI_nle (by omega) (by omega))]
  exact ⟨rfl, rfl⟩
theorem QQ.isFile (q : QQ T r B F hx a hm) (t : Int32) : (∃ k, k < F ∧ t = nI k ∧ f7_isFile a t hx = some 1 ∧ f9_isFile t hm = some 1) ∨ (f7_isFile a t hx = some 0 ∧ f9_isFile t hm = some 0) := by
  have hT := q.t31
  unfold f7_isFile f9_isFile
  rw [f9_in_eq, q.Fx, q.Fm, q.told.2]
  simp only [bind_s, qlt_e, qj_e, q1f, if_false]
  by_cases h0 : t < 0
  · exact Or.inr ⟨by simp only [h0, if_true, qbo_0, qg_t], by simp only [h0, if_true, qbo_0, qg_t]⟩
  · have := pred_lt (n := F) (by omega) h0
    by_cases h1 : nI F ≤ t
    · exact Or.inr ⟨by simp only [h0, h1, if_true, if_false, qbo_0, qg_t], by simp only [h0, this.mpr h1, if_true, if_false, qbo_0, qg_t]⟩
    · obtain ⟨k, hk, rfl⟩ := nI_of h0
      rw [nI_leI (by omega) hk] at h1
      have h2 : ¬ nI F - 1 < nI k := fun h => h1 ((nI_leI (by omega) hk).mp (this.mp h))
      have h3 : ¬ nI F ≤ nI k := fun h => h1 ((nI_leI (by omega) hk).mp h)
      exact Or.inl ⟨k, by omega, rfl, by simp only [h0, h3, if_false, qbo_1, qg_t], by simp only [h0, h2, q1f, if_false, qbo_1, qg_t]⟩
theorem QQ.isThere (q : QQ T r B F hx a hm) (t : Int32) : (∃ k, k < F ∧ t = nI k ∧ ¬ hm.1 9 (48 + k) = -1 ∧ f7_isThere a t hx = some 1 ∧ f9_isHeld t hm = some 1) ∨ (f7_isThere a t hx = some 0 ∧ f9_isHeld t hm = some 0) := by
  have hT := q.t31
  unfold f7_isThere f9_isHeld
  rcases q.isFile t with ⟨k, hk, rfl, h1, h2⟩ | ⟨h1, h2⟩
  · rw [h1, h2]
    simp only [bind_s, qj_e, q1f, if_false, q24 (show k < 24 by omega), ix_nI (show k < 2 ^ 31 by omega), la_48, q353 (show 48 + k < 353 by omega), i353 (show 48 + k < 353 by omega), (q.fl hk).1, qg_t]
    by_cases hc : hm.1 9 (48 + k) = -1
    · exact Or.inr ⟨by simp only [hc, if_true, qbo_0, qg_t], by simp only [hc, if_true, qbo_0, qg_t]⟩
    · exact Or.inl ⟨k, hk, rfl, hc, by simp only [hc, if_false, qbo_1, qg_t], by simp only [hc, if_false, qbo_1, qg_t]⟩
  · rw [h1, h2]
    exact Or.inr ⟨rfl, rfl⟩
end PC
