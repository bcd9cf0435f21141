/-- the gathered row tells every asked file once -/
theorem GA.en {N : Nat → Int32} {F t C : Nat} {g : Nat → Nat} {h : qH} (ga : GA N F t C g h) (hF : F ≤ 24) : EN C g (lsA N F t) := by
  refine ⟨fun k hk => ?_, fun i j hi hj e => ga.inj hi hj e, fun f _ hA => ?_⟩
  · obtain ⟨-, -, -, -, a1, a2⟩ := ga.2.1 k hk
    refine ⟨by omega, ?_⟩
    unfold lsA
    rw [decide_eq_true a1, a2]
    rfl
  · unfold lsA at hA
    rw [Bool.and_eq_true, decide_eq_true_iff] at hA
    exact ga.2.2.2 f hA.1 hA.2
/-- the last line of the class's table, with the blocks: the least of all -/
theorem GA.least {N : Nat → Int32} {F t C p0 : Nat} {r g : Nat → Nat} {h : qH} (ga : GA N F t C g h) (hF : F ≤ 24) : lsV N r F t p0 = ((mo C (fun _ => true) (fun k => tv (fun f => skn r p0 (stF N f)) (fun e f => skn r (enF N e) (stF N f)) C g (2 ^ C - 1) k)).map (· + smn (lsA N F t) (blF N F) 24)).getD 0 := by
  have e := ga.en hF
  unfold lsV
  rw [e.fin, ← mo_add]
  congr 1
  refine mo_cg (fun f hf hq => ?_)
  have l := cdn_le (P := dl (lsA N F t) f) 24
  exact VV_bl 24 (lsA N F t) f hf hq l
