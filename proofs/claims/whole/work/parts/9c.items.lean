/-! ===== the items of a clause ===== -/
def kc (k : Nat) : Nat := [115, 116, 102].getD k 0
def klo (k : Nat) : Nat := [0, 8, 10].getD k 0
def kn (k : Nat) : Nat := [8, 2, 2].getD k 0
def lowN (j : Nat) : Nat := [4, 1, 4, 1, 1, 1, 1, 1, 0, 0, 0, 1].getD j 0
def highN (j : Nat) : Nat := [10, 3, 16, 6, 9, 5, 99, 99, 99, 99, 7, 9].getD j 0
def defN (j : Nat) : Nat := [8, 1, 8, 4, 3, 1, 20, 30, 0, 0, 0, 1].getD j 0
theorem k3 {k : Nat} (hk : k < 3) : k = 0 ∨ k = 1 ∨ k = 2 := by omega
theorem kb {k : Nat} (hk : k < 3) : 1 ≤ kn k ∧ kn k ≤ 8 ∧ klo k + kn k ≤ 12 := by
  rcases k3 hk with rfl | rfl | rfl <;> decide
theorem st_low : ∀ j, j < 12 → stLows j = nI (lowN j) ∧ stHighs j = nI (highN j) ∧ stDefaults j = nI (defN j) ∧ lowN j < 1000 ∧ highN j < 1000 ∧ lowN j ≤ defN j ∧ defN j ≤ highN j := by decide +kernel
theorem kv {k v : Nat} (hk : k < 3) (hv : v < kn k) : (k = 0 ∧ (v = 0 ∨ v = 1 ∨ v = 2 ∨ v = 3 ∨ v = 4 ∨ v = 5 ∨ v = 6 ∨ v = 7)) ∨ (k = 1 ∧ (v = 0 ∨ v = 1)) ∨ (k = 2 ∧ (v = 0 ∨ v = 1)) := by
  rcases k3 hk with rfl | rfl | rfl
  · have hv : v < 8 := hv
    omega
  · have hv : v < 2 := hv
    omega
  · have hv : v < 2 := hv
    omega
theorem usual_eq {k v : Nat} {h : qH} (hk : k < 3) (hv : v < kn k) : f9_usual (nI (kc k)) (nI v) h = some (nI (defN (klo k + v))) := by
  rcases kv hk hv with ⟨rfl, e⟩ | ⟨rfl, e⟩ | ⟨rfl, e⟩
  · rcases e with rfl | rfl | rfl | rfl | rfl | rfl | rfl | rfl <;> rfl
  · rcases e with rfl | rfl <;> rfl
  · rcases e with rfl | rfl <;> rfl
theorem low_eq {k v : Nat} {h : qH} (hk : k < 3) (hv : v < kn k) : f9_lowest (nI (kc k)) (nI v) h = some (nI (lowN (klo k + v))) := by
  rcases kv hk hv with ⟨rfl, e⟩ | ⟨rfl, e⟩ | ⟨rfl, e⟩
  · rcases e with rfl | rfl | rfl | rfl | rfl | rfl | rfl | rfl <;> rfl
  · rcases e with rfl | rfl <;> rfl
  · rcases e with rfl | rfl <;> rfl
theorem high_eq {k v : Nat} {h : qH} (hk : k < 3) (hv : v < kn k) : f9_highest (nI (kc k)) (nI v) h = some (nI (highN (klo k + v))) := by
  rcases kv hk hv with ⟨rfl, e⟩ | ⟨rfl, e⟩ | ⟨rfl, e⟩
  · rcases e with rfl | rfl | rfl | rfl | rfl | rfl | rfl | rfl <;> rfl
  · rcases e with rfl | rfl <;> rfl
  · rcases e with rfl | rfl <;> rfl
/-- an item's letter -/
def itl (k : Nat) (c : Int32) : Int32 := if k = 0 then (if c = 97 then 5 else if c = 100 then 1 else if c = 103 then 6 else if c = 105 then 7 else if c = 108 then 2 else if c = 109 then 4 else if c = 110 then 0 else if c = 119 then 3 else -1) else if k = 1 then (if c = 107 then 0 else if c = 117 then 1 else -1) else (if c = 116 then 0 else if c = 98 then 1 else -1)
theorem itemOf_eq {k : Nat} {c : Int32} {h : qH} (hk : k < 3) : f9_itemOf (nI (kc k)) c h = some (itl k c) := by
  unfold f9_itemOf itl
  rcases k3 hk with rfl | rfl | rfl
  · rw [if_pos (by decide), if_pos rfl]
    unfold f9_ruleOf
    repeat (split; · rfl)
    rfl
  · rw [if_neg (by decide), if_pos (by decide), if_neg (show ¬ (1 : Nat) = 0 by decide), if_pos (show (1 : Nat) = 1 from rfl)]
    rfl
  · rw [if_neg (by decide), if_neg (by decide), if_neg (show ¬ (2 : Nat) = 0 by decide), if_neg (show ¬ (2 : Nat) = 1 by decide)]
    rfl
theorem it_rel : ∀ (k : Fin 3) (c : Fin 256), (itl k.val (nI c.val) = -1 ∧ (ixl [110, 100, 108, 119, 109, 97, 103, 105, 107, 117, 116, 98] c.val 0 < nI (klo k.val) ∨ nI (klo k.val + kn k.val) ≤ ixl [110, 100, 108, 119, 109, 97, 103, 105, 107, 117, 116, 98] c.val 0)) ∨ ∃ v : Fin 8, v.val < kn k.val ∧ itl k.val (nI c.val) = nI v.val ∧ ixl [110, 100, 108, 119, 109, 97, 103, 105, 107, 117, 116, 98] c.val 0 = nI (klo k.val + v.val) := by decide +kernel
theorem it_none : ∀ k : Fin 3, itl k.val (-1) = -1 ∧ itl k.val 59 = -1 := by decide +kernel
/-- how many are still unset -/
def uns (f : Nat → Bool) : Nat → Nat
  | 0 => 0
  | n + 1 => uns f n + if f n = true then 0 else 1
theorem uns_le (f : Nat → Bool) : ∀ n, uns f n ≤ n
  | 0 => Nat.le_refl _
  | n + 1 => by
    have := uns_le f n
    show uns f n + (if f n = true then 0 else 1) ≤ n + 1
    split <;> omega
theorem uns_same {f g : Nat → Bool} : ∀ n, (∀ i, i < n → f i = g i) → uns f n = uns g n
  | 0, _ => rfl
  | n + 1, h => by
    show uns f n + (if f n = true then 0 else 1) = uns g n + (if g n = true then 0 else 1)
    rw [uns_same n (fun i hi => h i (by omega)), h n (by omega)]
theorem uns_set {f g : Nat → Bool} {v : Nat} (h0 : f v = false) (h1 : g v = true) : ∀ n, v < n → (∀ i, i < n → i ≠ v → g i = f i) → uns f n = uns g n + 1
  | 0, hv, _ => absurd hv (by omega)
  | n + 1, hv, h => by
    show uns f n + (if f n = true then 0 else 1) = uns g n + (if g n = true then 0 else 1) + 1
    by_cases e : v = n
    · subst e
      rw [h0, h1, uns_same (f := f) (g := g) v (fun i hi => (h i (by omega) (by omega)).symm)]
      rfl
    · rw [uns_set h0 h1 n (by omega) (fun i hi hn => h i (by omega) hn), h n (by omega) (fun z => e z.symm)]
      omega
theorem uns_all {f : Nat → Bool} (h : ∀ i, f i = false) : ∀ n, uns f n = n
  | 0 => rfl
  | n + 1 => by
    show uns f n + (if f n = true then 0 else 1) = n + 1
    rw [uns_all h n, h n]
    rfl
section PM3
variable {L p k row np base : Nat} {hx hm : qH}
/-- what the reading of items may change -/
def JX (hx hx' : qH) : Prop := (∀ c, c ≠ 3 → c ≠ 4 → c ≠ 5 → hx'.1 c = hx.1 c) ∧ ∀ j, j ≠ 4 → j ≠ 5 → hx'.1 3 j = hx.1 3 j
def JM (row base n : Nat) (hm hm' : qH) : Prop := (∀ c, c ≠ 0 → c ≠ row → hm'.1 c = hm.1 c) ∧ (∀ j, j ≠ 3 → j ≠ 4 → hm'.1 0 j = hm.1 0 j) ∧ ∀ j, ¬ (base ≤ j ∧ j < base + n) → hm'.1 row j = hm.1 row j
theorem JX.rf {h : qH} : JX h h := ⟨fun _ _ _ _ => rfl, fun _ _ _ => rfl⟩
theorem JM.rf {n : Nat} {h : qH} : JM row base n h h := ⟨fun _ _ _ => rfl, fun _ _ _ => rfl, fun _ _ => rfl⟩
theorem JX.tr {h h1 h2 : qH} (x : JX h h1) (y : JX h1 h2) : JX h h2 := ⟨fun b p q r => (y.1 b p q r).trans (x.1 b p q r), fun j p q => (y.2 j p q).trans (x.2 j p q)⟩
theorem JM.tr {n : Nat} {h h1 h2 : qH} (x : JM row base n h h1) (y : JM row base n h1 h2) : JM row base n h h2 := ⟨fun b p q => (y.1 b p q).trans (x.1 b p q), fun j p q => (y.2.1 j p q).trans (x.2.1 j p q), fun j p => (y.2.2 j p).trans (x.2.2 j p)⟩
theorem RX.jx {h h' : qH} (x : RX h h') : JX h h' := ⟨fun c c1 _ _ => x.1 c c1, x.2.1⟩
theorem RM.jm {n : Nat} {h h' : qH} (hr : row ≠ 0) (x : RM h h') : JM row base n h h' := ⟨fun c c1 _ => x.1 c c1, x.2.1, fun j _ => by rw [x.1 row hr]⟩
theorem JX.w {h : qH} {c j : Nat} {v : Int32} (hc : c = 4 ∨ c = 5) : JX h (qw h c j v) := ⟨fun b _ q r => qrow_ne (by omega), fun j' _ _ => by rw [qrow_ne (by omega)]⟩
theorem JM.w {n j : Nat} {h : qH} {v : Int32} (hr : row ≠ 0) (hj : base ≤ j ∧ j < base + n) : JM row base n h (qw h row j v) := ⟨fun b _ q => qrow_ne q, fun j' _ _ => by rw [qrow_ne (fun e => hr e.symm)], fun i hi => by rw [qrow_at, upd_ne (fun e => hi (by omega))]⟩
theorem RD.wx {c j : Nat} {v : Int32} (h : RD L p hx hm) (hc : c = 4 ∨ c = 5) : RD L p (qw hx c j v) hm := ⟨h.1.cg (by rw [qrow_ne (by omega)]) (qrow_ne (by omega)) rfl rfl, by rw [qrow_ne (by omega)]; exact h.2.1, h.2.2.1, h.2.2.2.1, h.2.2.2.2⟩
theorem RD.wm {j : Nat} {v : Int32} (h : RD L p hx hm) (hr : 2 ≤ row) : RD L p hx (qw hm row j v) := ⟨h.1.cg rfl rfl (by rw [qrow_ne (by omega)]) (qrow_ne (by omega)), h.2.1, by rw [qrow_ne (by omega)]; exact h.2.2.1, h.2.2.2.1, by rw [qrow_ne (by omega)]; exact h.2.2.2.2⟩
/-- the items so far -/
def IT (k row base : Nat) (f : Nat → Bool) (hx hm : qH) : Prop := ∀ v, v < kn k → ∃ w, lowN (klo k + v) ≤ w ∧ w ≤ highN (klo k + v) ∧ hx.1 4 (klo k + v) = nI w ∧ hm.1 row (base + v) = nI w ∧ hx.1 5 (klo k + v) = if f v = true then 1 else 0
theorem IT.rd {f : Nat → Bool} {hx' hm' : qH} (s : IT k row base f hx hm) (hr : row ≠ 0) (x : RX hx hx') (y : RM hm hm') : IT k row base f hx' hm' := by
  unfold IT at s ⊢
  rw [x.1 4 (by omega), x.1 5 (by omega), y.1 row hr]
  exact s
/-- the usual values, the class's side -/
theorem defX (hk : k < 3) {p1 : Int32} : ∀ (d i : Nat) (hx : qH), i + d = klo k + kn k → klo k ≤ i → ∃ hx', JX hx hx' ∧ hx'.1 3 = hx.1 3 ∧ (∀ j, i ≤ j → j < klo k + kn k → hx'.1 4 j = nI (defN j) ∧ hx'.1 5 j = 0) ∧ (∀ j, j < i → hx'.1 4 j = hx.1 4 j ∧ hx'.1 5 j = hx.1 5 j) ∧ ∀ kx m, d < m → f5_readItems_L2 p1 (nI (klo k + kn k)) kx m (nI i) hx = kx (nI (klo k + kn k)) hx' := by
  have kb' := kb hk
  intro d
  induction d with
  | zero =>
    intro i hx hi h1
    refine ⟨hx, JX.rf, rfl, fun j j1 j2 => by omega, fun j _ => ⟨rfl, rfl⟩, fun kx m hm => ?_⟩
    obtain ⟨m, rfl⟩ : ∃ j, m = j + 1 := ⟨m - 1, by omega⟩
    rw [f5_readItems_L2, if_pos (nI_le (by omega) (by omega)), show i = klo k + kn k by omega]
  | succ d ih =>
    intro i hx hi h1
    obtain ⟨hx', a1, a0, a2, a3, a4⟩ := ih (i + 1) (qw (qw hx 4 i (stDefaults i)) 5 i 0) (by omega) (by omega)
    have e4 : (qw (qw hx 4 i (stDefaults i)) 5 i 0).1 4 = upd (hx.1 4) i (stDefaults i) := by rw [qrow_ne (by omega), qrow_at]
    have e5 : (qw (qw hx 4 i (stDefaults i)) 5 i 0).1 5 = upd (hx.1 5) i 0 := by rw [qrow_at, qrow_ne (by omega)]
    refine ⟨hx', ((JX.w (Or.inl rfl)).tr (JX.w (Or.inr rfl))).tr a1, by rw [a0, qrow_ne (by omega), qrow_ne (by omega)], fun j j1 j2 => ?_, fun j hj => ?_, fun kx m hm => ?_⟩
    · by_cases e : j = i
      · subst e
        rw [(a3 j (by omega)).1, (a3 j (by omega)).2, e4, e5, upd_at, upd_at]
        exact ⟨(st_low j (by omega)).2.2.1, rfl⟩
      · exact a2 j (by omega) j2
    · rw [(a3 j (by omega)).1, (a3 j (by omega)).2, e4, e5, upd_ne (by omega), upd_ne (by omega)]
      exact ⟨rfl, rfl⟩
    · obtain ⟨m, rfl⟩ : ∃ j, m = j + 1 := ⟨m - 1, by omega⟩
      rw [f5_readItems_L2, if_neg (nI_ge (by omega) (by omega)), qin_nI (show i < 12 by omega) (by omega), qg_t, qg_t, qlt_e, qg_t, qlt_e, qlt_e, ix_nI (by omega), nI_1]
      exact a4 kx m (by omega)
/-- the usual values, the reference's side -/
theorem defM (hk : k < 3) (hr : row ≠ 0) (hb : base + kn k ≤ np) (hnp : np ≤ 48) : ∀ (d i : Nat) (hm : qH), i + d = kn k → ∃ hm', JM row base (kn k) hm hm' ∧ hm'.1 0 = hm.1 0 ∧ (∀ j, i ≤ j → j < kn k → hm'.1 row (base + j) = nI (defN (klo k + j))) ∧ (∀ j, j < i → hm'.1 row (base + j) = hm.1 row (base + j)) ∧ ∀ kx m, d < m → f9_items_L3 (nI (kc k)) row np (nI base) (nI (kn k)) kx m (nI i) hm = kx (nI (kn k)) hm' := by
  have kb' := kb hk
  intro d
  induction d with
  | zero =>
    intro i hm hi
    refine ⟨hm, JM.rf, rfl, fun j j1 j2 => by omega, fun j _ => rfl, fun kx m h => ?_⟩
    obtain ⟨m, rfl⟩ : ∃ j, m = j + 1 := ⟨m - 1, by omega⟩
    rw [f9_items_L3, if_pos (nI_le (by omega) (by omega)), show i = kn k by omega]
  | succ d ih =>
    intro i hm hi
    obtain ⟨hm', a1, a0, a2, a3, a4⟩ := ih (i + 1) (qw hm row (base + i) (nI (defN (klo k + i)))) (by omega)
    refine ⟨hm', (JM.w hr ⟨by omega, by omega⟩).tr a1, by rw [a0, qrow_ne (fun e => hr e.symm)], fun j j1 j2 => ?_, fun j hj => ?_, fun kx m h => ?_⟩
    · by_cases e : j = i
      · subst e
        rw [a3 j (by omega), qrow_at, upd_at]
      · exact a2 j (by omega) j2
    · rw [a3 j (by omega), qrow_at, upd_ne (by omega)]
    · obtain ⟨m, rfl⟩ : ∃ j, m = j + 1 := ⟨m - 1, by omega⟩
      rw [f9_items_L3, if_neg (nI_ge (by omega) (by omega)), usual_eq hk (by omega), bind_s, nI_add, qin_nI (show base + i < np by omega) (by omega), qg_t, qlt_e, qlt_e, ix_nI (by omega), nI_1]
      exact a4 kx m (by omega)
end PM3
