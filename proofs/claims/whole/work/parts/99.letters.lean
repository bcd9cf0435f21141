/-! ===== letters ===== -/
def ixl : List Nat → Nat → Nat → Int32
  | [], _, _ => -1
  | x :: t, c, i => if c = x then nI i else ixl t c (i + 1)
theorem ixL7 {p n c : Nat} {x1 : Int32} {h : qH} (hn : slen p = n) (hn2 : n < 100) : ∀ (xs : List Nat) (i m : Nat), i + xs.length = n → xs.length < m → (∀ j, j < xs.length → sby p (i + j) = nI (xs.getD j 0)) → (∀ x, x ∈ xs → (nI x = x1 ↔ c = x)) → f1_indexOfChar_4cfef_L7 p (nI n) x1 h (fun _ => some (-1)) m (nI i) = some (ixl xs c i)
  | [], i, m, hi, hm, _, _ => by
    obtain ⟨k, rfl⟩ : ∃ k, m = k + 1 := ⟨m - 1, by omega⟩
    have e : i = n := by simpa using hi
    subst e
    rw [f1_indexOfChar_4cfef_L7, if_pos (nI_le (Nat.le_refl _) (by omega))]
    rfl
  | x :: t, i, m, hi, hm, hs, hx => by
    obtain ⟨k, rfl⟩ : ∃ k, m = k + 1 := ⟨m - 1, by omega⟩
    have hl : i + (t.length + 1) = n := hi
    have h0 := hs 0 (by show 0 < t.length + 1; omega)
    have h0 : sby p i = nI x := h0
    rw [f1_indexOfChar_4cfef_L7, if_neg (nI_ge (by omega) (by omega)), qin_nI (show i < slen p by omega) (by omega), qg_t, ix_nI (by omega), h0]
    show _ = some (if c = x then nI i else ixl t c (i + 1))
    by_cases e : c = x
    · rw [if_pos ((hx x (by simp)).mpr e), if_pos e]
    · rw [if_neg (fun h9 => e ((hx x (by simp)).mp h9)), if_neg e, qlt_e, nI_1]
      refine ixL7 hn hn2 t (i + 1) k (by omega) (by have : (x :: t).length = t.length + 1 := rfl; omega) (fun j hj => ?_) (fun y hy => hx y (by simp [hy]))
      have := hs (j + 1) (by show j + 1 < t.length + 1; omega)
      rw [show i + (j + 1) = i + 1 + j by omega] at this
      exact this
theorem ch16 : ∀ c : Fin 256, ((nI c.val).toUInt32 % 65536).toInt32 = nI c.val := by decide +kernel
theorem ch8 : ∀ c : Fin 256, (c.val < 128 → (nI c.val).toInt8.toInt32 = nI c.val) ∧ (128 ≤ c.val → (nI c.val).toInt8.toInt32 < 0) := by decide +kernel
theorem ch_iff {c x : Nat} (hc : c ≤ 255) (hx : x < 128) : nI x = (nI c).toInt8.toInt32 ↔ c = x := by
  obtain ⟨h1, h2⟩ := ch8 ⟨c, by omega⟩
  by_cases hl : c < 128
  · have h1 : (nI c).toInt8.toInt32 = nI c := h1 hl
    rw [h1, nI_eq (by omega) (by omega)]
    exact ⟨fun e => e.symm, fun e => e.symm⟩
  · have h2 : (nI c).toInt8.toInt32 < 0 := h2 (by show 128 ≤ c; omega)
    constructor
    · intro e
      rw [← e] at h2
      exact absurd h2 (nI_pos (by omega))
    · intro e
      omega
theorem idx_eq {p n c : Nat} {h : qH} (xs : List Nat) (hn : slen p = n) (hl : xs.length = n) (hn0 : 1 ≤ n) (hn2 : n < 100) (hsh : nI n >>> ((0 : Int32) &&& 31) = nI n) (hs : ∀ j, j < n → sby p j = nI (xs.getD j 0)) (hx : ∀ x, x ∈ xs → x < 128) (hc1 : 1 ≤ c) (hc : c ≤ 255) : f5_indexIn p (nI c) h = some (ixl xs c 0) := by
  have e16 : ((nI c).toUInt32 % 65536).toInt32 = nI c := ch16 ⟨c, by omega⟩
  have il : f0_isLatin1_aae02 p h = some 1 := by
    unfold f0_isLatin1_aae02
    rw [qlt_e, if_neg (by decide), if_pos rfl]
    rfl
  have co : f0_coder_7d493 p h = some 0 := by
    unfold f0_coder_7d493
    rw [qlt_e, if_neg (by decide)]
    rfl
  have le : f0_length_8abf5 p h = some (nI n) := by
    unfold f0_length_8abf5
    rw [co, bind_s, hn, hsh]
  have ce : f1_canEncode_9a6ad (nI c) h = some 1 := by
    unfold f1_canEncode_9a6ad
    rw [qlt_e, if_neg (nI_pos (by omega)), if_neg (show ¬ (255 : Int32) < nI c from nI_nlt (a := 255) hc (by omega))]
    rfl
  have lo : f1_indexOfChar_4cfef p (nI c) 0 (nI n) h = some (ixl xs c 0) := by
    unfold f1_indexOfChar_4cfef
    rw [qlt_e]
    exact ixL7 hn hn2 xs 0 qN (by omega) (qN_lt (by omega)) (fun j hj => by rw [Nat.zero_add]; exact hs j (by omega)) (fun x hxm => ch_iff hc (hx x hxm))
  unfold f5_indexIn f0_indexOf_0f7a4 f0_indexOf_7cf53 f1_indexOf_4cfef
  rw [qj_e, if_neg (nI_m1 (by omega)), e16, il, bind_s, qj_e, if_neg q1f, le, bind_s, ce, bind_s, if_neg q1f, qlt_e, qlt_e, hn, if_neg (show ¬ nI n < nI n from nI_nlt (Nat.le_refl _) (by omega)), show (if (0 : Int32) < 0 then (0 : Int32) else 0) = 0 from by decide, if_pos (show (0 : Int32) < nI n from nI_lt (a := 0) (by omega) (by omega)), lo]
  rfl
theorem idx0 {c : Nat} {h : qH} (hc1 : 1 ≤ c) (hc : c ≤ 255) : f5_indexIn 210 (nI c) h = some (ixl [115, 116, 102] c 0) := idx_eq [115, 116, 102] (n := 3) rfl rfl (by omega) (by omega) (by decide) (fun j hj => by
  rcases (show j = 0 ∨ j = 1 ∨ j = 2 by omega) with rfl | rfl | rfl <;> rfl) (by decide) hc1 hc
theorem idx1 {c : Nat} {h : qH} (hc1 : 1 ≤ c) (hc : c ≤ 255) : f5_indexIn 211 (nI c) h = some (ixl [110, 100, 108, 119, 109, 97, 103, 105, 107, 117, 116, 98] c 0) := idx_eq [110, 100, 108, 119, 109, 97, 103, 105, 107, 117, 116, 98] (n := 12) rfl rfl (by omega) (by omega) (by decide) (fun j hj => by
  rcases (show j = 0 ∨ j = 1 ∨ j = 2 ∨ j = 3 ∨ j = 4 ∨ j = 5 ∨ j = 6 ∨ j = 7 ∨ j = 8 ∨ j = 9 ∨ j = 10 ∨ j = 11 by omega) with rfl | rfl | rfl | rfl | rfl | rfl | rfl | rfl | rfl | rfl | rfl | rfl <;> rfl) (by decide) hc1 hc
theorem idx2 {c : Nat} {h : qH} (hc1 : 1 ≤ c) (hc : c ≤ 255) : f5_indexIn 212 (nI c) h = some (ixl [97, 115, 119, 100, 109, 117, 99, 108, 114, 112, 120] c 0) := idx_eq [97, 115, 119, 100, 109, 117, 99, 108, 114, 112, 120] (n := 11) rfl rfl (by omega) (by omega) (by decide) (fun j hj => by
  rcases (show j = 0 ∨ j = 1 ∨ j = 2 ∨ j = 3 ∨ j = 4 ∨ j = 5 ∨ j = 6 ∨ j = 7 ∨ j = 8 ∨ j = 9 ∨ j = 10 by omega) with rfl | rfl | rfl | rfl | rfl | rfl | rfl | rfl | rfl | rfl | rfl <;> rfl) (by decide) hc1 hc
theorem idxN {p : Nat} {h : qH} : f5_indexIn p (-1) h = some (-1) := by
  unfold f5_indexIn
  rw [qj_e, if_pos rfl]
/-- a step's letter, both sides -/
theorem sort_eq : ∀ c : Fin 256, (if nI c.val = (97 : Int32) then (0 : Int32) else if nI c.val = 99 then 6 else if nI c.val = 100 then 3 else if nI c.val = 108 then 7 else if nI c.val = 109 then 4 else if nI c.val = 112 then 9 else if nI c.val = 114 then 8 else if nI c.val = 115 then 1 else if nI c.val = 117 then 5 else if nI c.val = 119 then 2 else if nI c.val = 120 then 10 else -1) = ixl [97, 115, 119, 100, 109, 117, 99, 108, 114, 112, 120] c.val 0 := by decide +kernel
theorem ixl_range {c : Nat} : ∀ (xs : List Nat) (i : Nat), ixl xs c i = -1 ∨ ∃ j, i ≤ j ∧ j < i + xs.length ∧ ixl xs c i = nI j
  | [], i => Or.inl rfl
  | x :: t, i => by
    show (if c = x then nI i else ixl t c (i + 1)) = -1 ∨ ∃ j, i ≤ j ∧ j < i + (t.length + 1) ∧ (if c = x then nI i else ixl t c (i + 1)) = nI j
    by_cases e : c = x
    · rw [if_pos e]
      exact Or.inr ⟨i, Nat.le_refl _, by omega, rfl⟩
    · rw [if_neg e]
      rcases ixl_range (c := c) t (i + 1) with h | ⟨j, h1, h2, h3⟩
      · exact Or.inl h
      · exact Or.inr ⟨j, by omega, by omega, h3⟩
section PL1
variable {L p : Nat} {hx hm : qH}
theorem sortOf_eq {c : Nat} {h : qH} (hc : c ≤ 255) : f9_sortOf (nI c) h = some (ixl [97, 115, 119, 100, 109, 117, 99, 108, 114, 112, 120] c 0) := by
  have := sort_eq ⟨c, by omega⟩
  have this : (if nI c = (97 : Int32) then (0 : Int32) else if nI c = 99 then 6 else if nI c = 100 then 3 else if nI c = 108 then 7 else if nI c = 109 then 4 else if nI c = 112 then 9 else if nI c = 114 then 8 else if nI c = 115 then 1 else if nI c = 117 then 5 else if nI c = 119 then 2 else if nI c = 120 then 10 else -1) = ixl [97, 115, 119, 100, 109, 117, 99, 108, 114, 112, 120] c 0 := this
  rw [← this]
  unfold f9_sortOf
  repeat (split; · rfl)
  rfl
theorem sort_sg (h : BY L hx hm) (p : Nat) : ∃ z : Int32, (∀ h' : qH, f5_indexIn 212 (sg L (hm.1 1) p) h' = some z) ∧ (∀ h' : qH, f9_sortOf (sg L (hm.1 1) p) h' = some z) ∧ (z = -1 ∨ p < L ∧ ∃ j, j ≤ 10 ∧ z = nI j) := by
  rcases sg_nI h p with ⟨hp, c, c1, c2, e⟩ | ⟨hp, e⟩
  · rw [e]
    refine ⟨_, fun h' => idx2 c1 c2, fun h' => sortOf_eq c2, ?_⟩
    rcases ixl_range (c := c) [97, 115, 119, 100, 109, 117, 99, 108, 114, 112, 120] 0 with h9 | ⟨j, -, h2, h3⟩
    · exact Or.inl h9
    · exact Or.inr ⟨hp, j, by have h2 : j < 0 + 11 := h2; omega, h3⟩
  · rw [e]
    refine ⟨-1, fun h' => idxN, fun h' => ?_, Or.inl rfl⟩
    unfold f9_sortOf
    rw [if_neg (by decide), if_neg (by decide), if_neg (by decide), if_neg (by decide), if_neg (by decide), if_neg (by decide), if_neg (by decide), if_neg (by decide), if_neg (by decide), if_neg (by decide), if_neg (by decide)]
end PL1
