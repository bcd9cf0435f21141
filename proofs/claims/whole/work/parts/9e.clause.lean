section PM5
variable {L p T FT n : Nat} {r : Nat → Nat} {hx hm : qH}
noncomputable def kH : Int32 → Int32 → qH → Option (Int32 × qH) := fun (_ : Int32) (_ : Int32) (h60 : qH) =>
      qj (fun (h61 : qH) =>
        some ((h61.1 0 4), h61)) fun j62 =>
      if (h60.1 0 4) = (-1 : Int32) then (
        qb2 (f9_ahead h60) fun (z65 : Int32) (h66 : qH) =>
        if z65 = (-1 : Int32) then (
          if (h66.1 0 8) = 0 then (
            (f9_bad h66).bind fun (h69 : qH) =>
            j62 h69)
          else (
            if (h66.1 0 8) ≤ (h66.1 2 0) then (
              j62 h66)
            else (
              (f9_bad h66).bind fun (h71 : qH) =>
              j62 h71)))
        else (
          (f9_bad h66).bind fun (h72 : qH) =>
          j62 h72))
      else (
        j62 h60)
noncomputable def jH (n : Nat) : Int32 → qH → Option (Int32 × qH) := fun (x20 : Int32) (h21 : qH) =>
          qj (fun (x24 : Int32) (h25 : qH) =>
            qlt (if x24 = 0 then (0 : Int32) else (1 : Int32)) fun (x29 : Int32) =>
            qlt (qw h25 0 3 ((h25.1 0 3) + x29)) fun (h30 : qH) =>
            f9_readHall_L50 kH n x20 x24 h30) fun j26 =>
          if (h21.1 0 4) = (-1 : Int32) then (
            qb2 (f9_ahead h21) fun (z32 : Int32) (h33 : qH) =>
            if z32 = (59 : Int32) then (
              j26 (1 : Int32) h33)
            else (
              j26 (0 : Int32) h33))
          else (
            j26 (0 : Int32) h21)
theorem jH_z (hz : qH) (x : Int32) : (fun (x24 : Int32) (h25 : qH) => qlt (if x24 = 0 then (0 : Int32) else (1 : Int32)) fun (x29 : Int32) => qlt (qw h25 0 3 ((h25.1 0 3) + x29)) fun (h30 : qH) => f9_readHall_L50 kH (n + 1) x x24 h30) 0 hz = kH x 0 (qw hz 0 3 (hz.1 0 3)) := by
  simp only [qlt_e, if_true, Int32.add_zero]
  rw [f9_readHall_L50, if_pos rfl]
theorem jH_was {q : Nat} {x : Int32} (h : hm.1 0 4 = nI q) (hq : q ≤ 240) : jH (n + 1) x hm = some (nI q, qw hm 0 3 (hm.1 0 3)) := by
  have e : (qw hm 0 3 (hm.1 0 3)).1 0 4 = nI q := by rw [qrow_at, upd_ne (by omega)]; exact h
  unfold jH
  rw [qj_e, if_neg (by rw [h]; exact nI_m1 (by omega)), jH_z]
  unfold kH
  rw [qj_e, e, if_neg (nI_m1 (by omega))]
  show some ((qw hm 0 3 (hm.1 0 3)).1 0 4, _) = _
  rw [e]
theorem jH_more {x : Int32} (h : RD L p hx hm) (e : sg L (hm.1 1) p = 59) : jH n x hm = f9_readHall_L50 kH n x 1 (qw hm 0 3 (nI (p + 1))) := by
  unfold jH
  rw [qj_e, if_pos h.2.2.2.2, h.still (by rw [e]; decide), qb2_s, if_pos e]
  simp only [qlt_e]
  rw [if_neg (show ¬ (1 : Int32) = 0 by decide), h.2.2.1, nI_1]
theorem jH_stop {x : Int32} (h : RD L p hx hm) (e : ¬ sg L (hm.1 1) p = 32) (e1 : ¬ sg L (hm.1 1) p = 59) : jH (n + 1) x hm = kH x 0 (qw hm 0 3 (nI p)) := by
  unfold jH
  rw [qj_e, if_pos h.2.2.2.2, h.still e, qb2_s, if_neg e1, jH_z, h.2.2.1]
theorem kH_bad {x x2 : Int32} (h : RD L p hx hm) (e : ¬ sg L (hm.1 1) p = 32) (e1 : ¬ sg L (hm.1 1) p = -1) : kH x x2 hm = some (nI p, qw hm 0 4 (nI p)) := by
  unfold kH
  rw [qj_e, if_pos h.2.2.2.2, h.still e, qb2_s, if_neg e1, bad_eq h.2.2.2.2 h.2.2.1, bind_s]
  show some ((qw hm 0 4 (nI p)).1 0 4, _) = _
  rw [qrow_at, upd_at]
theorem kH_end {x x2 : Int32} (h : RD L p hx hm) (e : sg L (hm.1 1) p = -1) : kH x x2 hm = if hm.1 0 8 = 0 then some (nI p, qw hm 0 4 (nI p)) else if hm.1 0 8 ≤ hm.1 2 0 then some (-1, hm) else some (nI p, qw hm 0 4 (nI p)) := by
  unfold kH
  rw [qj_e, if_pos h.2.2.2.2, h.still (by rw [e]; decide), qb2_s, if_pos e, bad_eq h.2.2.2.2 h.2.2.1, bind_s]
  have e4 : (qw hm 0 4 (nI p)).1 0 4 = nI p := by rw [qrow_at, upd_at]
  simp only [e4, h.2.2.2.2]
/-- the reference's clauses -/
theorem L50_s {h19 : qH} (hf : hm.1 0 4 = -1) (ha : f9_ahead hm = some (115, h19)) : f9_readHall_L50 kH (n + 1) 0 1 hm = (f9_items 115 2 8 0 8 (qw h19 0 3 (h19.1 0 3 + 1))).bind fun h57 => jH n 1 h57 := by
  rw [f9_readHall_L50, if_neg (by decide), if_pos hf, ha, qb2_s]
  rw [qj_e, qj_e, if_pos (by decide), if_pos rfl, qlt_e]
  rfl
theorem L50_t {h19 : qH} {x : Int32} (hf : hm.1 0 4 = -1) (ha : f9_ahead hm = some (116, h19)) (ht : ¬ 8 ≤ h19.1 0 8) : f9_readHall_L50 kH (n + 1) x 1 hm = (f9_items 116 3 16 (2 * (qw h19 0 3 (h19.1 0 3 + 1)).1 0 8) 2 (qw h19 0 3 (h19.1 0 3 + 1))).bind fun h52 => jH n x (qw h52 0 8 (h52.1 0 8 + 1)) := by
  rw [f9_readHall_L50, if_neg (by decide), if_pos hf, ha, qb2_s]
  rw [qj_e, qj_e, if_neg (by decide)]
  simp only [qj_e]
  rw [if_pos trivial, if_neg ht, qlt_e]
  rfl
theorem L50_f {h19 : qH} {x : Int32} (hf : hm.1 0 4 = -1) (ha : f9_ahead hm = some (102, h19)) (ht : ¬ 24 ≤ h19.1 0 9) : f9_readHall_L50 kH (n + 1) x 1 hm = (f9_items 102 4 48 (2 * (qw h19 0 3 (h19.1 0 3 + 1)).1 0 9) 2 (qw h19 0 3 (h19.1 0 3 + 1))).bind fun h52 => jH n x (qw h52 0 9 (h52.1 0 9 + 1)) := by
  rw [f9_readHall_L50, if_neg (by decide), if_pos hf, ha, qb2_s]
  rw [qj_e, qj_e, if_neg (by decide)]
  simp only [qj_e]
  rw [if_neg (by decide), if_pos trivial, if_neg ht, qlt_e]
  rfl
theorem L50_b {h19 : qH} {x z : Int32} (hf : hm.1 0 4 = -1) (ha : f9_ahead hm = some (z, h19)) (c1 : z = 115 → ¬ x = 0) (c2 : z = 116 → 8 ≤ h19.1 0 8) (c3 : z = 102 → 24 ≤ h19.1 0 9) : f9_readHall_L50 kH (n + 1) x 1 hm = (f9_bad h19).bind fun h52 => jH n x h52 := by
  rw [f9_readHall_L50, if_neg (by decide), if_pos hf, ha, qb2_s]
  have st : (if z = (102 : Int32) then (if 24 ≤ h19.1 0 9 then (f9_bad h19).bind fun h44 => jH n x h44 else (f9_items z 4 48 (2 * (qw h19 0 3 (h19.1 0 3 + 1)).1 0 9) 2 (qw h19 0 3 (h19.1 0 3 + 1))).bind fun h46 => jH n x (qw h46 0 9 (h46.1 0 9 + 1))) else (f9_bad h19).bind fun h48 => jH n x h48) = (f9_bad h19).bind fun h52 => jH n x h52 := by
    by_cases e : z = 102
    · rw [if_pos e, if_pos (c3 e)]
    · rw [if_neg e]
  have tail : (if z = (116 : Int32) then (if 8 ≤ h19.1 0 8 then (if z = (102 : Int32) then (if 24 ≤ h19.1 0 9 then (f9_bad h19).bind fun h44 => jH n x h44 else (f9_items z 4 48 (2 * (qw h19 0 3 (h19.1 0 3 + 1)).1 0 9) 2 (qw h19 0 3 (h19.1 0 3 + 1))).bind fun h46 => jH n x (qw h46 0 9 (h46.1 0 9 + 1))) else (f9_bad h19).bind fun h48 => jH n x h48) else (f9_items z 3 16 (2 * (qw h19 0 3 (h19.1 0 3 + 1)).1 0 8) 2 (qw h19 0 3 (h19.1 0 3 + 1))).bind fun h52 => jH n x (qw h52 0 8 (h52.1 0 8 + 1))) else (if z = (102 : Int32) then (if 24 ≤ h19.1 0 9 then (f9_bad h19).bind fun h44 => jH n x h44 else (f9_items z 4 48 (2 * (qw h19 0 3 (h19.1 0 3 + 1)).1 0 9) 2 (qw h19 0 3 (h19.1 0 3 + 1))).bind fun h46 => jH n x (qw h46 0 9 (h46.1 0 9 + 1))) else (f9_bad h19).bind fun h48 => jH n x h48)) = (f9_bad h19).bind fun h52 => jH n x h52 := by
    by_cases e : z = 116
    · rw [if_pos e, if_pos (c2 e)]
      exact st
    · rw [if_neg e]
      exact st
  by_cases e : z = 115
  · rw [qj_e, qj_e, if_pos e, if_neg (c1 e)]
    exact tail
  · rw [qj_e, qj_e, if_neg e]
    exact tail
end PM5
