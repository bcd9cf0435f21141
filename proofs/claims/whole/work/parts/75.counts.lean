/-! how many are asked for; which tape is served next -/
def ak (N : Nat → Int32) (t : Int32) : Nat → Nat
  | 0 => 0
  | f + 1 => ak N t f + if N (48 + f) = t then (if N (144 + f) = 0 then 0 else 1) else 0
theorem ak_le (N : Nat → Int32) (t : Int32) : ∀ n, ak N t n ≤ n
  | 0 => Nat.le_refl _
  | n + 1 => by
    have := ak_le N t n
    simp only [ak]
    split
    · split <;> omega
    · omega
theorem nask_le (N : Nat → Int32) : ∀ n, nask N n ≤ n
  | 0 => Nat.le_refl _
  | n + 1 => by
    have := nask_le N n
    simp only [nask]
    split <;> omega
def fon (N : Nat → Int32) (t : Int32) : Nat → Nat
  | 0 => 0
  | f + 1 => fon N t f + if N (48 + f) = t then 1 else 0
theorem fon_le (N : Nat → Int32) (t : Int32) : ∀ n, fon N t n ≤ n
  | 0 => Nat.le_refl _
  | n + 1 => by
    have := fon_le N t n
    simp only [fon]
    split <;> omega
def sm (f : Nat → Nat) : Nat → Nat
  | 0 => 0
  | n + 1 => sm f n + f n
theorem sm_add (f g : Nat → Nat) : ∀ n, sm (fun t => f t + g t) n = sm f n + sm g n
  | 0 => rfl
  | n + 1 => by
    have := sm_add f g n
    simp only [sm] at this ⊢
    omega
theorem sm_0 {f : Nat → Nat} : ∀ {n : Nat}, (∀ t, t < n → f t = 0) → sm f n = 0
  | 0, _ => rfl
  | n + 1, h => by
    have h1 := sm_0 (n := n) (fun t ht => h t (by omega))
    have h2 := h n (by omega)
    simp only [sm]
    omega
theorem sm_ge {f : Nat → Nat} : ∀ {n t : Nat}, t < n → f t ≤ sm f n
  | 0, _, h => absurd h (by omega)
  | n + 1, t, h => by
    simp only [sm]
    by_cases e : t = n
    · subst e; omega
    · have := sm_ge (f := f) (n := n) (t := t) (by omega)
      omega
theorem sm_one {c : Nat} {g : Nat → Nat} {t0 : Nat} (h1 : g t0 = c) : ∀ {n : Nat}, t0 < n → (∀ t, t < n → t ≠ t0 → g t = 0) → sm g n = c
  | 0, h, _ => absurd h (by omega)
  | n + 1, h, h0 => by
    simp only [sm]
    by_cases e : t0 = n
    · subst e
      have := sm_0 (f := g) (n := t0) (fun t ht => h0 t (by omega) (by omega))
      omega
    · have h2 := sm_one h1 (n := n) (by omega) (fun t ht => h0 t (by omega))
      have h3 := h0 n (by omega) (by omega)
      omega
theorem nI_inj {a b : Nat} (ha : a < 2 ^ 31) (hb : b < 2 ^ 31) (h : nI a = nI b) : a = b := by
  have := congrArg ix h
  rwa [ix_nI ha, ix_nI hb] at this
/-- the best of those that may be: the first that has most -/
def nx (D : Nat → Bool) (k : Nat → Nat) : Nat → Option Nat
  | 0 => none
  | i + 1 => if D i = true ∧ (nx D k i).elim 0 k < k i then some i else nx D k i
def oI : Option Nat → Int32
  | none => -1
  | some b => nI b
theorem nx_some {D : Nat → Bool} {k : Nat → Nat} : ∀ {n b : Nat}, nx D k n = some b → b < n ∧ D b = true ∧ 0 < k b
  | 0, b, h => by simp [nx] at h
  | n + 1, b, h => by
    simp only [nx] at h
    split at h
    · rename_i h1
      cases h
      exact ⟨by omega, h1.1, by omega⟩
    · have := nx_some h
      exact ⟨by omega, this.2⟩
theorem nx_none {D : Nat → Bool} {k : Nat → Nat} : ∀ {n : Nat}, nx D k n = none → ∀ b, b < n → D b = true → k b = 0
  | 0, _, b, hb, _ => absurd hb (by omega)
  | n + 1, h, b, hb, hD => by
    simp only [nx] at h
    split at h
    · cases h
    · rename_i h1
      by_cases e : b = n
      · subst e
        rw [h] at h1
        by_cases h0 : k b = 0
        · exact h0
        · exact absurd ⟨hD, by show 0 < k b; omega⟩ h1
      · exact nx_none h b (by omega) hD
section PO
variable {T B F a : Nat} {r : Nat → Nat} {hx hm : qH}
theorem IN.home {N : Nat → Int32} (h : IN T r B F N) {f : Nat} (hf : f < F) (h0 : ¬ N (144 + f) = 0) : ∃ t, t < T ∧ N (48 + f) = nI t ∧ ix (N (72 + f)) + ix (N (96 + f)) ≤ ix (N (16 + t)) := by
  rcases (h.2.2.2.1 f hf).2.1 with ⟨-, -, h1⟩ | ⟨h1, -⟩
  · exact absurd h1 h0
  · exact h1
theorem IN.sum {N : Nat → Int32} (h : IN T r B F N) (hT : T ≤ 8) : ∀ m, m ≤ F → sm (fun t => ak N (nI t) m) T = nask N m
  | 0, _ => sm_0 (fun _ _ => rfl)
  | m + 1, hm => by
    have ih := IN.sum h hT m (by omega)
    have e := sm_add (fun t => ak N (nI t) m) (fun t => if N (48 + m) = nI t then (if N (144 + m) = 0 then 0 else 1) else 0) T
    show sm (fun t => ak N (nI t) m + if N (48 + m) = nI t then (if N (144 + m) = 0 then 0 else 1) else 0) T = nask N m + if N (144 + m) = 0 then 0 else 1
    rw [e, ih]
    congr 1
    by_cases h0 : N (144 + m) = 0
    · rw [if_pos h0]
      refine sm_0 fun t ht => ?_
      show (if N (48 + m) = nI t then 0 else 0) = 0
      split <;> rfl
    · rw [if_neg h0]
      obtain ⟨t, ht, e1, -⟩ := h.home (f := m) (by omega) h0
      refine sm_one (t0 := t) ?_ ht (fun u hu hne => ?_)
      · simp only [e1, if_true, h0, if_false]
      · simp only [e1]
        rw [if_neg]
        intro e2
        exact hne (nI_inj (by omega) (by omega) e2).symm
theorem QQ.askedOnC (q : QQ T r B F hx a hm) (t : Int32) : f7_askedOn a t hx = some (nI (ak (hm.1 9) t F)) ∧ f9_askedOn t hm = some (nI (ak (hm.1 9) t F)) := by
  have hT := q.t31
  unfold f7_askedOn f9_askedOn
  obtain ⟨s, hI, h1, h2⟩ := up_loop20 (fun m s x => f7_askedOn_L4 a t hx (fun y _ => some y) m s x) (fun m s x => f9_askedOn_L4 t hm (fun y _ => some y) m s x) (fun s _ => some s) (fun s _ => some s) (fun i s => s = nI (ak (hm.1 9) t i)) F (by omega) 0 rfl (fun i s hi hv => by
    have g1 := nI_ge hi (show F < 2 ^ 31 by omega)
    obtain ⟨e7, e8, e9, e10, e11⟩ := q.fl hi
    have hv : s = nI (ak (hm.1 9) t i) := hv
    subst hv
    have hn := q.ask hi
    refine ⟨nI (ak (hm.1 9) t (i + 1)), rfl, fun m => ?_, fun m => ?_⟩
    · show f7_askedOn_L4 a t hx _ (m + 1) _ (nI i) = f7_askedOn_L4 a t hx _ m _ (nI (i + 1))
      simp only [f7_askedOn_L4, q.Fx, g1, q24 (show i < 24 by omega), ix_nI (show i < 2 ^ 31 by omega), e7, e11, qj_e, qlt_e, qg_t, bind_s, nI_1, if_true, if_false, ak]
      by_cases hc : hm.1 9 (48 + i) = t <;> by_cases hd : hm.1 9 (144 + i) = 0 <;> simp [hc, hd, nI_1]
    · show f9_askedOn_L4 t hm _ (m + 1) _ (nI i) = f9_askedOn_L4 t hm _ m _ (nI (i + 1))
      simp only [f9_askedOn_L4, q.Fm, g1, f9_isOn_eq (show i < 24 by omega), hn, la_144, q353 (show 144 + i < 353 by omega), i353 (show 144 + i < 353 by omega), qj_e, qlt_e, qg_t, bind_s, nI_1, if_true, if_false, ak]
      by_cases hc : hm.1 9 (48 + i) = t <;> by_cases hd : hm.1 9 (144 + i) = 0 <;> simp [hc, hd, nI_1]
    ) (fun m s _ => by
    refine ⟨?_, ?_⟩
    · show f7_askedOn_L4 a t hx _ (m + 1) s (nI F) = _
      rw [f7_askedOn_L4, q.Fx, if_pos (nI_le (Nat.le_refl _) (by omega))]
    · show f9_askedOn_L4 t hm _ (m + 1) s (nI F) = _
      rw [f9_askedOn_L4, q.Fm, if_pos (nI_le (Nat.le_refl _) (by omega))])
  rw [hI] at h1 h2
  exact ⟨h1, h2⟩
theorem QQ.filesOnC (q : QQ T r B F hx a hm) (t : Int32) : f7_filesOn a t hx = some (nI (fon (hm.1 9) t F)) ∧ f9_filesOn t hm = some (nI (fon (hm.1 9) t F)) := by
  have hT := q.t31
  rw [f7_filesOn_eq q.Fx hT.2, f9_filesOn_eq q.Fm hT.2]
  rw [qsum_congr (g := fun i => if hm.1 9 (48 + i) = t then 1 else 0) (fun i hi => by rw [(q.fl hi).1])]
  have key : ∀ n : Nat, qsum (fun i => if hm.1 9 (48 + i) = t then 1 else 0) n = nI (fon (hm.1 9) t n) := by
    intro n
    induction n with
    | zero => rfl
    | succ n ih =>
      simp only [qsum, fon, ih]
      by_cases hc : hm.1 9 (48 + n) = t
      · rw [if_pos hc, if_pos hc, nI_1]
      · rw [if_neg hc, if_neg hc]
        simp
  exact ⟨congrArg some (key F), congrArg some (key F)⟩
theorem QQ.askedAll (q : QQ T r B F hx a hm) : f7_askedFiles a hx = some (nI (nask (hm.1 9) F)) ∧ f9_askedOfAll hm = some (nI (nask (hm.1 9) F)) := by
  have hT := q.t31
  constructor
  · unfold f7_askedFiles
    obtain ⟨h1, h2⟩ := up_loop0 (fun m s x => f7_askedFiles_L4 a hx (fun y _ => some y) m s x) (fun s _ => some s) (fun i _ => nI (nask (hm.1 9) (i + 1))) (fun i s => s = nI (nask (hm.1 9) i)) F (by omega) (fun m i s hi hv => ⟨by
      have g1 := nI_ge hi (show F < 2 ^ 31 by omega)
      obtain ⟨e7, e8, e9, e10, e11⟩ := q.fl hi
      have hv : s = nI (nask (hm.1 9) i) := hv
      subst hv
      show f7_askedFiles_L4 a hx _ (m + 1) _ (nI i) = f7_askedFiles_L4 a hx _ m _ (nI (i + 1))
      simp only [f7_askedFiles_L4, q.Fx, g1, q24 (show i < 24 by omega), ix_nI (show i < 2 ^ 31 by omega), e11, qj_e, qlt_e, qg_t, nI_1, if_false, nask]
      by_cases hd : hm.1 9 (144 + i) = 0 <;> simp [hd, nI_1], rfl⟩) (fun m s _ => by
      show f7_askedFiles_L4 a hx _ (m + 1) s (nI F) = _
      rw [f7_askedFiles_L4, q.Fx, if_pos (nI_le (Nat.le_refl _) (by omega))]) 0 rfl
    rw [h2] at h1
    exact h1
  · unfold f9_askedOfAll
    obtain ⟨h1, h2⟩ := up_loop0 (fun m s x => f9_askedOfAll_L4 hm (fun y _ => some y) m s x) (fun s _ => some s) (fun i _ => nI (sm (fun t => ak (hm.1 9) (nI t) F) (i + 1))) (fun i s => s = nI (sm (fun t => ak (hm.1 9) (nI t) F) i)) T (by omega) (fun m i s hi hv => ⟨by
      have g1 := nI_ge hi (show T < 2 ^ 31 by omega)
      have hv : s = nI (sm (fun t => ak (hm.1 9) (nI t) F) i) := hv
      subst hv
      show f9_askedOfAll_L4 hm _ (m + 1) _ (nI i) = f9_askedOfAll_L4 hm _ m _ (nI (i + 1))
      simp only [f9_askedOfAll_L4, q.Tm, g1, (q.askedOnC (nI i)).2, bind_s, qlt_e, nI_1, nI_add, if_false, sm], rfl⟩) (fun m s _ => by
      show f9_askedOfAll_L4 hm _ (m + 1) s (nI T) = _
      rw [f9_askedOfAll_L4, q.Tm, if_pos (nI_le (Nat.le_refl _) (by omega))]) 0 rfl
    rw [h2, q.2.2.2.2.sum hT.1 F (Nat.le_refl _)] at h1
    exact h1
theorem fon_held (N : Nat → Int32) : ∀ n, ∃ c, c + fon N (-1) n = n ∧ qsum (fun i => if N (48 + i) = -1 then 0 else 1) n = nI c
  | 0 => ⟨0, rfl, rfl⟩
  | n + 1 => by
    obtain ⟨c, h1, h2⟩ := fon_held N n
    simp only [fon, qsum, h2]
    by_cases hc : N (48 + n) = -1
    · rw [if_pos hc, if_pos hc]
      exact ⟨c, by omega, by simp⟩
    · rw [if_neg hc, if_neg hc]
      exact ⟨c + 1, by omega, nI_1 c⟩
theorem QQ.held (q : QQ T r B F hx a hm) : ∃ v, f7_filesThere a hx = some v ∧ f9_heldMany hm = some v := by
  have hT := q.t31
  obtain ⟨c, hc, e⟩ := fon_held (hm.1 9) F
  refine ⟨nI c, ?_, ?_⟩
  · unfold f7_filesThere
    rw [(q.filesOnC (-1)).1, bind_s, q.Fx]
    congr 1
    have e2 : nI F = nI c + nI (fon (hm.1 9) (-1) F) := by rw [nI_add, hc]
    rw [e2]
    exact Int32.add_sub_cancel _ _
  · unfold f9_heldMany
    refine ((up_loop0 (fun m s x => f9_heldMany_L4 hm (fun y _ => some y) m s x) (fun s _ => some s) (fun i s => s + if hm.1 9 (48 + i) = -1 then 0 else 1) (fun _ _ => True) F (by omega) (fun m i s hi _ => ⟨?_, trivial⟩) (fun m s _ => ?_) 0 trivial).1).trans ?_
    · have g1 := nI_ge hi (show F < 2 ^ 31 by omega)
      show f9_heldMany_L4 hm _ (m + 1) s (nI i) = f9_heldMany_L4 hm _ m _ (nI (i + 1))
      simp only [f9_heldMany_L4, q.Fm, g1, if_false, la_48, q353 (show 48 + i < 353 by omega), i353 (show 48 + i < 353 by omega), qg_t, qlt_e, nI_1]
    · show f9_heldMany_L4 hm _ (m + 1) s (nI F) = _
      rw [f9_heldMany_L4, q.Fm, if_pos (nI_le (Nat.le_refl _) (by omega))]
    · rw [qit_sum, e]
theorem QQ.nextL (q : QQ T r B F hx a hm) (p : Int32) (D : Nat → Bool) (hD : ∀ t, t < T → (D t = true ↔ p = 1 ∨ ¬ hx.1 (a + 1) t = -1)) (k : Int32 → Int32 → Option Int32) : f9_nextTape_L16 p hm k qN (-1) 0 = k (oI (nx D (fun t => ak (hm.1 9) (nI t) F) T)) (nI T) := by
  have hT := q.t31
  obtain ⟨h1, h2⟩ := up_loop0 (fun m s x => f9_nextTape_L16 p hm k m s x) (fun s x => k s x) (fun i _ => oI (nx D (fun t => ak (hm.1 9) (nI t) F) (i + 1))) (fun i s => s = oI (nx D (fun t => ak (hm.1 9) (nI t) F) i)) T (by omega) (fun m i s hi hv => ⟨by
    have g1 := nI_ge hi (show T < 2 ^ 31 by omega)
    have hv : s = oI (nx D (fun t => ak (hm.1 9) (nI t) F) i) := hv
    have ki := ak_le (hm.1 9) (nI i) F
    show f9_nextTape_L16 p hm k (m + 1) s (nI i) = f9_nextTape_L16 p hm k m (oI (nx D (fun t => ak (hm.1 9) (nI t) F) (i + 1))) (nI (i + 1))
    have hdi := hD i hi
    simp only [f9_nextTape_L16, q.Tm, g1, if_false, (q.askedOnC (nI i)).2, bind_s, qj_e, qlt_e, nI_1, q.dr hi, nx]
    by_cases h0 : ak (hm.1 9) (nI i) F = 0
    · rw [if_pos (show nI (ak (hm.1 9) (nI i) F) ≤ 0 by rw [h0]; decide), if_neg (fun h => absurd h.2 (by rw [h0]; exact Nat.not_lt_zero _)), hv]
    · rw [if_neg (show ¬ nI (ak (hm.1 9) (nI i) F) ≤ 0 from nI_nle (by omega) (by omega))]
      have main : D i = true → ((if s = (-1 : Int32) then f9_nextTape_L16 p hm k m (nI i) (nI (i + 1)) else ((f9_askedOn s hm).bind fun z21 => if nI (ak (hm.1 9) (nI i) F) ≤ z21 then f9_nextTape_L16 p hm k m s (nI (i + 1)) else f9_nextTape_L16 p hm k m (nI i) (nI (i + 1)))) = f9_nextTape_L16 p hm k m (oI (if D i = true ∧ (nx D (fun t => ak (hm.1 9) (nI t) F) i).elim 0 (fun t => ak (hm.1 9) (nI t) F) < ak (hm.1 9) (nI i) F then some i else nx D (fun t => ak (hm.1 9) (nI t) F) i)) (nI (i + 1))) := by
        intro hd
        cases hn : nx D (fun t => ak (hm.1 9) (nI t) F) i with
        | none =>
          rw [hn] at hv
          have hv : s = -1 := hv
          rw [if_pos hv, if_pos ⟨hd, show 0 < ak (hm.1 9) (nI i) F by omega⟩]
          rfl
        | some b =>
          rw [hn] at hv
          have hv : s = nI b := hv
          have hb := nx_some hn
          have kb := ak_le (hm.1 9) (nI b) F
          rw [if_neg (by rw [hv]; exact nI_m1 (by omega)), hv, (q.askedOnC (nI b)).2, bind_s]
          by_cases hlt : ak (hm.1 9) (nI b) F < ak (hm.1 9) (nI i) F
          · rw [if_neg (nI_ge hlt (by omega)), if_pos ⟨hd, hlt⟩]
            rfl
          · rw [if_pos (nI_le (by omega) (by omega)), if_neg (fun h => hlt h.2)]
            rfl
      by_cases hp : p = 1
      · rw [if_pos hp]
        exact main (hdi.2 (Or.inl hp))
      · rw [if_neg hp]
        by_cases hdr : hx.1 (a + 1) i = -1
        · rw [if_pos hdr, if_pos rfl, if_neg (fun h => (hdi.1 h.1).elim hp (fun h => h hdr)), hv]
        · rw [if_neg hdr, if_neg q1f]
          exact main (hdi.2 (Or.inr hdr)), rfl⟩) (fun m s _ => by
    show f9_nextTape_L16 p hm k (m + 1) s (nI T) = _
    rw [f9_nextTape_L16, q.Tm, if_pos (nI_le (Nat.le_refl _) (by omega))]) (-1) rfl
  rw [h2] at h1
  exact h1
end PO
