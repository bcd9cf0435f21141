/-! ===== the files of a tape in their order; copying ===== -/
theorem lq1 {γ σ : Type} (G : Nat → σ → Int32 → γ) (K : σ → Int32 → γ) (I : Nat → σ → Prop) (n : Nat)
    (hs : ∀ i s, i < n → I i s → ∃ s', I (i + 1) s' ∧ ∀ m, G (m + 1) s (nI i) = G m s' (nI (i + 1))) (he : ∀ m s, I n s → G (m + 1) s (nI n) = K s (nI n)) :
    ∀ d i s, i + d = n → I i s → ∃ s', I n s' ∧ ∀ m, d < m → G m s (nI i) = K s' (nI n)
  | 0, i, s, hi, hI => by
    have e : i = n := by omega
    subst e
    refine ⟨s, hI, fun m hm => ?_⟩
    obtain ⟨k, rfl⟩ : ∃ k, m = k + 1 := ⟨m - 1, by omega⟩
    exact he k s hI
  | d + 1, i, s, hi, hI => by
    obtain ⟨s', hI', g1⟩ := hs i s (by omega) hI
    obtain ⟨s2, hI2, g2⟩ := lq1 G K I n hs he d (i + 1) s' (by omega) hI'
    refine ⟨s2, hI2, fun m hm => ?_⟩
    obtain ⟨k, rfl⟩ : ∃ k, m = k + 1 := ⟨m - 1, by omega⟩
    rw [g1]
    exact g2 k (by omega)
theorem lq10 {γ σ : Type} (G : Nat → σ → Int32 → γ) (K : σ → Int32 → γ) (I : Nat → σ → Prop) (n : Nat) (hn : n < 100000) (s : σ) (h0 : I 0 s)
    (hs : ∀ i s, i < n → I i s → ∃ s', I (i + 1) s' ∧ ∀ m, G (m + 1) s (nI i) = G m s' (nI (i + 1))) (he : ∀ m s, I n s → G (m + 1) s (nI n) = K s (nI n)) : ∃ s', I n s' ∧ G qN s 0 = K s' (nI n) := by
  obtain ⟨s', h1, h2⟩ := lq1 G K I n hs he n 0 s (by omega) h0
  exact ⟨s', h1, h2 qN (qN_lt hn)⟩
theorem pigeon : ∀ (F n : Nat) (m : Nat → Nat), (∀ i, i < n → m i < F) → (∀ i j, i < n → j < n → m i = m j → i = j) → n ≤ F
  | 0, n, m, h1, _ => by
    cases n with
    | zero => exact Nat.le_refl _
    | succ n => exact absurd (h1 0 (by omega)) (by omega)
  | F + 1, 0, _, _, _ => Nat.zero_le _
  | F + 1, n + 1, m, h1, h2 => by
    by_cases hF : ∃ i, i < n + 1 ∧ m i = F
    · obtain ⟨i0, hi0, e0⟩ := hF
      have := pigeon F n (fun i => if i = i0 then m n else m i) (fun i hi => by
        show (if i = i0 then m n else m i) < F
        by_cases e : i = i0
        · rw [if_pos e]
          have h3 := h1 n (by omega)
          have : m n ≠ F := fun e2 => by
            have := h2 n i0 (by omega) hi0 (e2.trans e0.symm)
            omega
          omega
        · rw [if_neg e]
          have h3 := h1 i (by omega)
          have : m i ≠ F := fun e2 => e (h2 i i0 (by omega) hi0 (e2.trans e0.symm))
          omega) (fun i j hi hj e => by
        have e : (if i = i0 then m n else m i) = (if j = i0 then m n else m j) := e
        by_cases e1 : i = i0 <;> by_cases e2 : j = i0
        · omega
        · rw [if_pos e1, if_neg e2] at e
          have := h2 n j (by omega) (by omega) e
          omega
        · rw [if_neg e1, if_pos e2] at e
          have := h2 i n (by omega) (by omega) e
          omega
        · rw [if_neg e1, if_neg e2] at e
          exact h2 i j (by omega) (by omega) e)
      omega
    · have := pigeon F (n + 1) m (fun i hi => by
        have h3 := h1 i hi
        have : m i ≠ F := fun e => hF ⟨i, hi, e⟩
        omega) h2
      omega
theorem isN_ltN {x : Int32} (h : isN x) {b : Nat} (hb : b < 2 ^ 31) : (x < nI b) = (ix x < b) := by
  have h1 := isN_lt x
  have h2 : x = nI (ix x) := h
  generalize ix x = k at h1 h2 ⊢
  rw [h2]
  exact propext (nI_ltI h1 hb)
theorem isN_le2 {x y : Int32} (h : isN x) (h' : isN y) : (x ≤ y) = (ix x ≤ ix y) := by
  have h1 := isN_lt x
  have h2 : x = nI (ix x) := h
  have h3 := isN_lt y
  have h4 : y = nI (ix y) := h'
  generalize ix x = k at h1 h2 ⊢
  generalize ix y = j at h3 h4 ⊢
  rw [h2, h4]
  exact propext (nI_leI h1 h3)
theorem isN_lt2 {x y : Int32} (h : isN x) (h' : isN y) : (x < y) = (ix x < ix y) := by
  have h1 := isN_lt x
  have h2 : x = nI (ix x) := h
  have h3 := isN_lt y
  have h4 : y = nI (ix y) := h'
  generalize ix x = k at h1 h2 ⊢
  generalize ix y = j at h3 h4 ⊢
  rw [h2, h4]
  exact propext (nI_ltI h1 h3)
theorem qrow_self (h : qH) (a : Nat) : qrow h a (h.1 a) = h := by
  show ((fun b => if b = a then h.1 a else h.1 b), h.2) = h
  have : (fun b => if b = a then h.1 a else h.1 b) = h.1 := by
    funext b
    by_cases e : b = a
    · subst e; rw [if_pos rfl]
    · rw [if_neg e]
  rw [this]
/-- a cell that stays -/
def FC (c : Nat) (h : qH) (o : Option qH) : Prop := ∀ h', o = some h' → h'.1 c = h.1 c
theorem FC.sm {c : Nat} {h : qH} : FC c h (some h) := fun h' e => by cases e; rfl
theorem FC.qg {c : Nat} {h : qH} {b : Bool} {o : Option qH} (x : FC c h o) : FC c h (qg b o) := fun h' e => x h' (qg_some e).2
theorem FC.lt {c d j : Nat} {h : qH} {v : Int32} {k : qH → Option qH} (hc : c ≠ d) (x : FC c (qw h d j v) (k (qw h d j v))) : FC c h (qlt (qw h d j v) k) := fun h' e => by
  rw [x h' e]
  exact qrow_ne hc
theorem FC.bv {α : Type} {c : Nat} {h : qH} {o : Option α} {k : α → Option qH} (x : ∀ z, FC c h (k z)) : FC c h (o.bind k) := fun h' e => by
  cases o with
  | none => cases e
  | some z => exact x z h' e
theorem FC.bh {c : Nat} {h : qH} {o : Option qH} {k : qH → Option qH} (y : FC c h o) (x : ∀ z, FC c z (k z)) : FC c h (o.bind k) := fun h' e => by
  cases o with
  | none => cases e
  | some z => exact (x z h' e).trans (y z rfl)
theorem FC.ite {c : Nat} {h : qH} {p : Prop} [Decidable p] {o o' : Option qH} (x : FC c h o) (y : FC c h o') : FC c h (if p then o else o') := by
  by_cases e : p
  · rw [if_pos e]; exact x
  · rw [if_neg e]; exact y
theorem FC.arm {c : Nat} {h : qH} {x : Int32} (hc : c ≠ 9) : FC c h (f9_armTo x h) := by
  unfold f9_armTo
  exact FC.bv fun z => FC.lt hc (FC.lt hc FC.sm)
theorem FC.unm {c : Nat} {h : qH} {x : Int32} (hc : c ≠ 9) : FC c h (f9_unmounts x h) := by
  unfold f9_unmounts
  exact FC.qg (FC.bv fun z => FC.lt hc (FC.qg (FC.bh (FC.arm hc) fun h3 => FC.bh (FC.arm hc) fun h4 => FC.qg (FC.lt hc (FC.qg (FC.lt hc FC.sm))))))
theorem FC.mmt {c : Nat} {h : qH} {x y : Int32} (hc : c ≠ 9) (h0 : c ≠ 0) : FC c h (mMt x y h) := by
  unfold mMt
  exact FC.bh (FC.arm hc) fun h3 => FC.bh (FC.arm hc) fun h4 => FC.lt hc (FC.qg (FC.lt hc (FC.qg (FC.lt hc (FC.qg (FC.qg (FC.lt hc (FC.qg (FC.lt hc (FC.lt h0 FC.sm))))))))))
theorem FC.mnt {c : Nat} {h : qH} {x : Int32} (hc : c ≠ 9) (h0 : c ≠ 0) : FC c h (f9_mounts x h) := by
  rw [f9_mounts_eq]
  exact FC.bv fun z => FC.ite (FC.bv fun z2 => FC.bh (FC.unm hc) fun h3 => FC.bv fun z5 => FC.mmt hc h0) (FC.bv fun z5 => FC.mmt hc h0)
theorem FC.brg {c : Nat} {h : qH} {x : Int32} (hc : c ≠ 9) (h0 : c ≠ 0) : FC c h (f9_brings x h) := by
  unfold f9_brings
  exact FC.bv fun z => FC.ite (FC.bh (FC.mnt hc h0) fun h3 => FC.sm) FC.sm
section PQ
variable {T B F a : Nat} {r : Nat → Nat} {hx hm : qH}
theorem QQ.fN (q : QQ T r B F hx a hm) {f : Nat} (hf : f < F) : isN (hm.1 9 (72 + f)) ∧ isN (hm.1 9 (96 + f)) ∧ 1 ≤ ix (hm.1 9 (96 + f)) ∧ ix (hm.1 9 (96 + f)) ≤ 9 := (q.2.2.2.2.2.2.2.1 f hf).1
theorem IN.fit {N : Nat → Int32} (h : IN T r B F N) (hT : T ≤ 8) {f t : Nat} (hf : f < F) (ht : t < 2 ^ 31) (e : N (48 + f) = nI t) : t < T ∧ ix (N (72 + f)) + ix (N (96 + f)) ≤ ix (N (16 + t)) ∧ ix (N (16 + t)) ≤ r 2 * r 3 := by
  rcases (h.2.2.2.1 f hf).2.1 with ⟨j, -⟩ | ⟨⟨u, hu, k1, k2⟩, -⟩
  · exact absurd (e.symm.trans j) (nI_m1 ht)
  · have : u = t := (nI_eq (by omega) ht).mp (k1.symm.trans e)
    subst this
    exact ⟨hu, k2, (h.2.1 u hu).2.1⟩
theorem IN.dis {N : Nat → Int32} (h : IN T r B F N) {f g t : Nat} (hf : f < F) (hg : g < F) (ht : t < 2 ^ 31) (e : N (48 + f) = nI t) (e' : N (48 + g) = nI t) : f = g ∨ ix (N (72 + f)) + ix (N (96 + f)) ≤ ix (N (72 + g)) ∨ ix (N (72 + g)) + ix (N (96 + g)) ≤ ix (N (72 + f)) := by
  by_cases hne : f = g
  · exact Or.inl hne
  · rcases h.2.2.2.2.1 f g hf hg hne (e.trans e'.symm) with h9 | h9
    · exact absurd (e.symm.trans h9) (nI_m1 ht)
    · exact Or.inr h9
/-- the first file of a tape from a block on -/
def FI (N : Nat → Int32) (t b i : Nat) (s : Int32) : Prop := (s = -1 ∧ ∀ g, g < i → N (48 + g) = nI t → ¬ b ≤ ix (N (72 + g))) ∨ ∃ f, f < i ∧ s = nI f ∧ N (48 + f) = nI t ∧ b ≤ ix (N (72 + f)) ∧ ∀ g, g < i → N (48 + g) = nI t → b ≤ ix (N (72 + g)) → ix (N (72 + f)) ≤ ix (N (72 + g))
theorem FI.skip {N : Nat → Int32} {t b i : Nat} {s : Int32} (h : FI N t b i s) (hn : N (48 + i) = nI t → ¬ b ≤ ix (N (72 + i))) : FI N t b (i + 1) s := by
  rcases h with ⟨e, h⟩ | ⟨f, hf, e, h1, h2, h3⟩
  · refine Or.inl ⟨e, fun g hg ho => ?_⟩
    by_cases hgi : g = i
    · subst hgi; exact hn ho
    · exact h g (by omega) ho
  · refine Or.inr ⟨f, by omega, e, h1, h2, fun g hg ho hb => ?_⟩
    by_cases hgi : g = i
    · subst hgi; exact absurd hb (hn ho)
    · exact h3 g (by omega) ho hb
theorem QQ.first (q : QQ T r B F hx a hm) {t b : Nat} (hb : b < 2 ^ 31) : ∃ s : Int32, FI (hm.1 9) t b F s ∧ f7_firstFile a (nI t) (nI b) hx = some s := by
  have hT := q.t31
  unfold f7_firstFile
  exact lq10 (σ := Int32) (fun m s x => f7_firstFile_L5 a (nI t) (nI b) hx (fun x16 _ => some x16) m s x) (fun s _ => some s) (fun i s => FI (hm.1 9) t b i s) F (by omega) (-1) (Or.inl ⟨rfl, fun g hg => by omega⟩) (fun i s hi hv => by
    have g1 := nI_ge hi (show F < 2 ^ 31 by omega)
    obtain ⟨e7, e8, -⟩ := q.fl hi
    have n8 := (q.fN hi).1
    by_cases hon : hm.1 9 (48 + i) = nI t
    · by_cases hlt : hm.1 9 (72 + i) < nI b
      · have hlt' : ix (hm.1 9 (72 + i)) < b := by rw [isN_ltN n8 hb] at hlt; exact hlt
        refine ⟨s, hv.skip (fun _ => by omega), fun m => ?_⟩
        show f7_firstFile_L5 a (nI t) (nI b) hx _ (m + 1) s (nI i) = f7_firstFile_L5 a (nI t) (nI b) hx _ m s (nI (i + 1))
        simp only [f7_firstFile_L5, q.Fx, g1, if_false, q24 (show i < 24 by omega), ix_nI (show i < 2 ^ 31 by omega), qg_t, qj_e, qlt_e, e7, e8, hon, hlt, if_true, nI_1]
      · have hge : b ≤ ix (hm.1 9 (72 + i)) := by rw [isN_ltN n8 hb] at hlt; omega
        rcases hv with ⟨e, hv⟩ | ⟨f, hf, e, h1, h2, h3⟩
        · refine ⟨nI i, Or.inr ⟨i, by omega, rfl, hon, hge, fun g hg ho hb' => ?_⟩, fun m => ?_⟩
          · by_cases hgi : g = i
            · subst hgi; exact Nat.le_refl _
            · exact absurd hb' (hv g (by omega) ho)
          · show f7_firstFile_L5 a (nI t) (nI b) hx _ (m + 1) s (nI i) = f7_firstFile_L5 a (nI t) (nI b) hx _ m (nI i) (nI (i + 1))
            subst e
            simp only [f7_firstFile_L5, q.Fx, g1, if_false, q24 (show i < 24 by omega), ix_nI (show i < 2 ^ 31 by omega), qg_t, qj_e, qlt_e, e7, e8, hon, hlt, if_true, q1f, nI_1]
        · subst e
          have e8f := (q.fl (show f < F by omega)).2.1
          have n8f := (q.fN (show f < F by omega)).1
          have nm := nI_m1 (show f < 2 ^ 31 by omega)
          by_cases hle : hm.1 9 (72 + f) ≤ hm.1 9 (72 + i)
          · have hle' : ix (hm.1 9 (72 + f)) ≤ ix (hm.1 9 (72 + i)) := by rw [isN_le2 n8f n8] at hle; exact hle
            refine ⟨nI f, Or.inr ⟨f, by omega, rfl, h1, h2, fun g hg ho hb' => ?_⟩, fun m => ?_⟩
            · by_cases hgi : g = i
              · subst hgi; exact hle'
              · exact h3 g (by omega) ho hb'
            · show f7_firstFile_L5 a (nI t) (nI b) hx _ (m + 1) (nI f) (nI i) = f7_firstFile_L5 a (nI t) (nI b) hx _ m (nI f) (nI (i + 1))
              simp only [f7_firstFile_L5, q.Fx, g1, if_false, q24 (show i < 24 by omega), ix_nI (show i < 2 ^ 31 by omega), q24 (show f < 24 by omega), ix_nI (show f < 2 ^ 31 by omega), qg_t, qj_e, qlt_e, e7, e8, e8f, hon, hlt, hle, nm, if_true, q1f, nI_1]
          · have hle' : ix (hm.1 9 (72 + i)) ≤ ix (hm.1 9 (72 + f)) := by rw [isN_le2 n8f n8] at hle; omega
            refine ⟨nI i, Or.inr ⟨i, by omega, rfl, hon, hge, fun g hg ho hb' => ?_⟩, fun m => ?_⟩
            · by_cases hgi : g = i
              · subst hgi; exact Nat.le_refl _
              · exact Nat.le_trans hle' (h3 g (by omega) ho hb')
            · show f7_firstFile_L5 a (nI t) (nI b) hx _ (m + 1) (nI f) (nI i) = f7_firstFile_L5 a (nI t) (nI b) hx _ m (nI i) (nI (i + 1))
              simp only [f7_firstFile_L5, q.Fx, g1, if_false, q24 (show i < 24 by omega), ix_nI (show i < 2 ^ 31 by omega), q24 (show f < 24 by omega), ix_nI (show f < 2 ^ 31 by omega), qg_t, qj_e, qlt_e, e7, e8, e8f, hon, hlt, hle, nm, if_true, q1f, nI_1]
    · refine ⟨s, hv.skip (fun h9 => absurd h9 hon), fun m => ?_⟩
      show f7_firstFile_L5 a (nI t) (nI b) hx _ (m + 1) s (nI i) = f7_firstFile_L5 a (nI t) (nI b) hx _ m s (nI (i + 1))
      simp only [f7_firstFile_L5, q.Fx, g1, if_false, q24 (show i < 24 by omega), ix_nI (show i < 2 ^ 31 by omega), qg_t, qj_e, qlt_e, e7, hon, if_true, nI_1]) (fun m s _ => by
    show f7_firstFile_L5 a (nI t) (nI b) hx _ (m + 1) s (nI F) = _
    rw [f7_firstFile_L5, q.Fx, if_pos (nI_le (Nat.le_refl _) (by omega))])
/-- those of a tape's files that P tells, in the order of their starts -/
def ML (N : Nat → Int32) (F t : Nat) (P : Nat → Prop) (n : Nat) (m : Nat → Nat) : Prop :=
  (∀ i, i < n → m i < F ∧ N (48 + m i) = nI t ∧ P (m i)) ∧ (∀ i j, i < j → j < n → ix (N (72 + m i)) < ix (N (72 + m j))) ∧ ∀ f, f < F → N (48 + f) = nI t → P f → ∃ i, i < n ∧ m i = f
theorem ML.to {N : Nat → Int32} {t n : Nat} {P P' : Nat → Prop} {m : Nat → Nat} (h : ML N F t P n m) (hp : ∀ f, f < F → N (48 + f) = nI t → (P f ↔ P' f)) : ML N F t P' n m :=
  ⟨fun i hi => ⟨(h.1 i hi).1, (h.1 i hi).2.1, (hp _ (h.1 i hi).1 (h.1 i hi).2.1).mp (h.1 i hi).2.2⟩, h.2.1, fun f hf ho hP => h.2.2 f hf ho ((hp f hf ho).mpr hP)⟩
theorem ML.le {N : Nat → Int32} {t n : Nat} {P : Nat → Prop} {m : Nat → Nat} (h : ML N F t P n m) : n ≤ F := by
  refine pigeon F n m (fun i hi => (h.1 i hi).1) (fun i j hi hj e => ?_)
  rcases Nat.lt_trichotomy i j with h1 | h1 | h1
  · have := h.2.1 i j h1 hj
    rw [e] at this
    omega
  · exact h1
  · have := h.2.1 j i h1 hi
    rw [e] at this
    omega
theorem ML.push {N : Nat → Int32} {t n f0 : Nat} {P P' : Nat → Prop} {m : Nat → Nat} (h : ML N F t P n m) (hf : f0 < F) (ho : N (48 + f0) = nI t) (hlt : ∀ i, i < n → ix (N (72 + m i)) < ix (N (72 + f0))) (hp : ∀ f, f < F → N (48 + f) = nI t → (P' f ↔ P f ∨ f = f0)) : ML N F t P' (n + 1) (fun i => if i = n then f0 else m i) := by
  refine ⟨fun i hi => ?_, fun i j hij hj => ?_, fun f hf' ho' hP => ?_⟩
  · show (if i = n then f0 else m i) < F ∧ N (48 + if i = n then f0 else m i) = nI t ∧ P' (if i = n then f0 else m i)
    by_cases e : i = n
    · rw [if_pos e]
      exact ⟨hf, ho, (hp f0 hf ho).mpr (Or.inr rfl)⟩
    · rw [if_neg e]
      obtain ⟨h1, h2, h3⟩ := h.1 i (by omega)
      exact ⟨h1, h2, (hp _ h1 h2).mpr (Or.inl h3)⟩
  · show ix (N (72 + if i = n then f0 else m i)) < ix (N (72 + if j = n then f0 else m j))
    rw [if_neg (show ¬ i = n by omega)]
    by_cases e : j = n
    · rw [if_pos e]
      exact hlt i (by omega)
    · rw [if_neg e]
      exact h.2.1 i j hij (by omega)
  · rcases (hp f hf' ho').mp hP with h1 | h1
    · obtain ⟨i, hi, e⟩ := h.2.2 f hf' ho' h1
      exact ⟨i, by omega, by show (if i = n then f0 else m i) = f; rw [if_neg (by omega)]; exact e⟩
    · exact ⟨n, by omega, by show (if n = n then f0 else m n) = f; rw [if_pos rfl]; exact h1.symm⟩
theorem QQ.layIn (q : QQ T r B F hx a hm) {t b n0 : Nat} {m0 : Nat → Nat} {w0 : Nat → Int32} (ht : t < T) (hb : b < 2 ^ 31) (h0 : ML (hm.1 9) F t (fun f => ix (hm.1 9 (72 + f)) < b) n0 m0) (hw : ∀ i, i < n0 → w0 i = nI (m0 i)) : ∃ s : Nat × (Nat → Int32), (∃ m, ML (hm.1 9) F t (fun f => ix (hm.1 9 (72 + f)) < b + 1) s.1 m ∧ ∀ i, i < s.1 → s.2 i = nI (m i)) ∧ ∀ k, f9_layMoved_L20 (nI t) (nI b) k qN (nI n0) 0 (qrow hm 12 w0) = k (nI s.1) (nI F) (qrow hm 12 s.2) := by
  have hT := q.t31
  obtain ⟨s, ⟨m, hI, hw'⟩, h1⟩ := lq10 (σ := Nat × (Nat → Int32)) (γ := (Int32 → Int32 → qH → Option (Int32 × qH)) → Option (Int32 × qH)) (fun m s x k => f9_layMoved_L20 (nI t) (nI b) k m (nI s.1) x (qrow hm 12 s.2)) (fun s x k => k (nI s.1) x (qrow hm 12 s.2)) (fun i s => ∃ m, ML (hm.1 9) F t (fun f => ix (hm.1 9 (72 + f)) < b ∨ ix (hm.1 9 (72 + f)) = b ∧ f < i) s.1 m ∧ ∀ j, j < s.1 → s.2 j = nI (m j)) F (by omega) (n0, w0) ⟨m0, h0.to (fun f _ _ => by constructor <;> intro h <;> omega), hw⟩ (fun i s hi hv => by
    obtain ⟨n, w⟩ := s
    obtain ⟨m, hI, hw'⟩ := hv
    have g1 := nI_ge hi (show F < 2 ^ 31 by omega)
    have n8 := (q.fN hi).1
    have Fm : (qrow hm 12 w).1 9 168 = nI F := by rw [qrow_ne (by omega)]; exact q.Fm
    have e9 : (qrow hm 12 w).1 9 = hm.1 9 := qrow_ne (by omega)
    by_cases hon : hm.1 9 (48 + i) = nI t
    · by_cases hst : hm.1 9 (72 + i) = nI b
      · have hst' : ix (hm.1 9 (72 + i)) = b := by rw [hst, ix_nI hb]
        have hnew : ML (hm.1 9) F t (fun f => ix (hm.1 9 (72 + f)) < b ∨ ix (hm.1 9 (72 + f)) = b ∧ f < i + 1) (n + 1) (fun j => if j = n then i else m j) := by
          refine hI.push hi hon (fun j hj => ?_) (fun f hf ho => ?_)
          · obtain ⟨k1, k2, k3⟩ := hI.1 j hj
            rcases k3 with k3 | ⟨k3, k4⟩
            · omega
            · exfalso
              have p1 := (q.fN k1).2.2.1
              have p2 := (q.fN hi).2.2.1
              rcases q.2.2.2.2.dis k1 hi (by omega) k2 hon with h9 | h9 | h9 <;> omega
          · constructor
            · intro h
              rcases h with h | ⟨h, h'⟩
              · exact Or.inl (Or.inl h)
              · by_cases e : f = i
                · exact Or.inr e
                · exact Or.inl (Or.inr ⟨h, by omega⟩)
            · intro h
              rcases h with (h | h) | h
              · exact Or.inl h
              · exact Or.inr ⟨h.1, by omega⟩
              · subst h; exact Or.inr ⟨hst', by omega⟩
        have hn24 : n < 24 := by have := hnew.le; omega
        refine ⟨(n + 1, upd w n (nI i)), ⟨_, hnew, fun j hj => ?_⟩, fun m' => funext fun k => ?_⟩
        · show upd w n (nI i) j = nI (if j = n then i else m j)
          by_cases e : j = n
          · subst e; rw [upd_at, if_pos rfl]
          · rw [upd_ne e, if_neg e]
            have hj : j < n + 1 := hj
            exact hw' j (by show j < n; omega)
        · show f9_layMoved_L20 (nI t) (nI b) k (m' + 1) (nI n) (nI i) (qrow hm 12 w) = f9_layMoved_L20 (nI t) (nI b) k m' (nI (n + 1)) (nI (i + 1)) (qrow hm 12 (upd w n (nI i)))
          simp only [f9_layMoved_L20, Fm, g1, if_false, f9_isOn_eq (show i < 24 by omega), e9, hon, if_true, bind_s, q1f, la_72, q353 (show 72 + i < 353 by omega), i353 (show 72 + i < 353 by omega), hst, q24 hn24, ix_nI (show n < 2 ^ 31 by omega), qg_t, qj_e, qlt_e, qw, qrow_at, qrow_qrow, nI_1]
      · refine ⟨(n, w), ⟨m, hI.to (fun f hf ho => ?_), hw'⟩, fun m' => funext fun k => ?_⟩
        · constructor
          · intro h
            rcases h with h | ⟨h, h'⟩
            · exact Or.inl h
            · exact Or.inr ⟨h, by omega⟩
          · intro h
            rcases h with h | ⟨h, h'⟩
            · exact Or.inl h
            · by_cases e : f = i
              · subst e
                exfalso
                have h9 : hm.1 9 (72 + f) = nI (ix (hm.1 9 (72 + f))) := n8
                rw [h] at h9
                exact hst h9
              · exact Or.inr ⟨h, by omega⟩
        · show f9_layMoved_L20 (nI t) (nI b) k (m' + 1) (nI n) (nI i) (qrow hm 12 w) = f9_layMoved_L20 (nI t) (nI b) k m' (nI n) (nI (i + 1)) (qrow hm 12 w)
          simp only [f9_layMoved_L20, Fm, g1, if_false, f9_isOn_eq (show i < 24 by omega), e9, hon, if_true, bind_s, q1f, la_72, q353 (show 72 + i < 353 by omega), i353 (show 72 + i < 353 by omega), hst, qg_t, qj_e, qlt_e, nI_1]
    · refine ⟨(n, w), ⟨m, hI.to (fun f hf ho => ?_), hw'⟩, fun m' => funext fun k => ?_⟩
      · have : f ≠ i := fun e => hon (e ▸ ho)
        constructor
        · intro h
          rcases h with h | ⟨h, h'⟩
          · exact Or.inl h
          · exact Or.inr ⟨h, by omega⟩
        · intro h
          rcases h with h | ⟨h, h'⟩
          · exact Or.inl h
          · exact Or.inr ⟨h, by omega⟩
      · show f9_layMoved_L20 (nI t) (nI b) k (m' + 1) (nI n) (nI i) (qrow hm 12 w) = f9_layMoved_L20 (nI t) (nI b) k m' (nI n) (nI (i + 1)) (qrow hm 12 w)
        simp only [f9_layMoved_L20, Fm, g1, if_false, f9_isOn_eq (show i < 24 by omega), e9, hon, if_true, bind_s, qj_e, qlt_e, nI_1]) (fun m s _ => funext fun k => by
    show f9_layMoved_L20 (nI t) (nI b) k (m + 1) (nI s.1) (nI F) (qrow hm 12 s.2) = _
    rw [f9_layMoved_L20, qrow_ne (by omega), q.Fm, if_pos (nI_le (Nat.le_refl _) (by omega))])
  refine ⟨s, ⟨m, hI.to (fun f hf _ => ?_), hw'⟩, fun k => congrFun h1 k⟩
  constructor
  · intro h
    rcases h with h | h <;> omega
  · intro h
    by_cases e : ix (hm.1 9 (72 + f)) = b
    · exact Or.inr ⟨e, hf⟩
    · exact Or.inl (by omega)
theorem QQ.layMoved (q : QQ T r B F hx a hm) {t : Nat} (ht : t < T) : ∃ (n : Nat) (m : Nat → Nat) (w : Nat → Int32), ML (hm.1 9) F t (fun _ => True) n m ∧ (∀ i, i < n → w i = nI (m i)) ∧ f9_layMoved (nI t) hm = some (nI n, qrow hm 12 w) := by
  have hT := q.t31
  have hL := q.L96
  have hE := (q.2.2.2.2.2.1 t ht)
  have hE' : hm.1 9 (16 + t) = nI (ix (hm.1 9 (16 + t))) := hE.1
  unfold f9_layMoved
  obtain ⟨s, ⟨m, hI, hw⟩, h1⟩ := lq10 (σ := Nat × (Nat → Int32)) (fun m s x => f9_layMoved_L4 (nI t) (fun x23 _ h25 => some (x23, h25)) m (nI s.1) x (qrow hm 12 s.2)) (fun s _ => some (nI s.1, qrow hm 12 s.2)) (fun i s => ∃ m, ML (hm.1 9) F t (fun f => ix (hm.1 9 (72 + f)) < i) s.1 m ∧ ∀ j, j < s.1 → s.2 j = nI (m j)) (ix (hm.1 9 (16 + t))) (by omega) (0, hm.1 12) ⟨fun _ => 0, ⟨fun i hi => by omega, fun i j _ hj => by omega, fun f _ _ h => by omega⟩, fun j hj => by omega⟩ (fun i s hi hv => by
    obtain ⟨n, w⟩ := s
    obtain ⟨m, hI, hw'⟩ := hv
    obtain ⟨s', hs', hk⟩ := q.layIn ht (show i < 2 ^ 31 by omega) hI hw'
    refine ⟨s', hs', fun m' => ?_⟩
    show f9_layMoved_L4 (nI t) _ (m' + 1) (nI n) (nI i) (qrow hm 12 w) = f9_layMoved_L4 (nI t) _ m' (nI s'.1) (nI (i + 1)) (qrow hm 12 s'.2)
    have e9 : (qrow hm 12 w).1 9 = hm.1 9 := qrow_ne (by omega)
    have g1 : ¬ hm.1 9 (16 + t) ≤ nI i := by rw [hE']; exact nI_ge hi (by omega)
    simp only [f9_layMoved_L4, e9, la_16, q353 (show 16 + t < 353 by omega), i353 (show 16 + t < 353 by omega), qg_t, g1, if_false, hk, qlt_e, nI_1]) (fun m s _ => by
    show f9_layMoved_L4 (nI t) _ (m + 1) (nI s.1) (nI (ix (hm.1 9 (16 + t)))) (qrow hm 12 s.2) = _
    have e9 : (qrow hm 12 s.2).1 9 = hm.1 9 := qrow_ne (by omega)
    have g1 : hm.1 9 (16 + t) ≤ nI (ix (hm.1 9 (16 + t))) := by
      rw [isN_le2 hE.1 (isN_nI (isN_lt _)), ix_nI (isN_lt _)]
      exact Nat.le_refl _
    rw [f9_layMoved_L4, e9, la_16, q353 (show 16 + t < 353 by omega), qg_t, i353 (show 16 + t < 353 by omega), if_pos g1])
  refine ⟨s.1, m, s.2, hI.to (fun f hf ho => ⟨fun _ => trivial, fun _ => ?_⟩), hw, ?_⟩
  · have h9 := q.2.2.2.2.fit hT.1 hf (show t < 2 ^ 31 by omega) ho
    have h8 := (q.fN hf).2.2.1
    show ix (hm.1 9 (72 + f)) < ix (hm.1 9 (16 + t))
    omega
  · have e0 : qrow hm 12 (hm.1 12) = hm := qrow_self hm 12
    have h1' : f9_layMoved_L4 (nI t) (fun x23 _ h25 => some (x23, h25)) qN (nI 0) 0 (qrow hm 12 (hm.1 12)) = some (nI s.1, qrow hm 12 s.2) := h1
    rw [e0] at h1'
    exact h1'
end PQ
