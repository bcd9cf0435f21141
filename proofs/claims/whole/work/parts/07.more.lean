section QM
variable {ρ : Type} {U : List qS} {RO : qRO} {l : Launch} {R : Room} {cc : ByteArray} {nL : Nat} {ret : Option FieldType} {own : String} {E : ρ → Option Value × qH} {pc pc' : Nat} {ls ls' : List (Option Value)} {st : List Value} {h : qH} {r : Option ρ}
def q1b (ls : List (Option Value)) (i : Nat) : Bool := match i with
  | 0 => true
  | j + 1 => match ls[j]? with
    | some (some v) => v.category == 1
    | _ => true
theorem q1_of {i : Nat} (hq : q1b ls i = true) : q1 ls i := by
  intro j v hj hv
  subst hj
  simp only [q1b, hv] at hq
  simpa using hq
theorem blt_of {i n : Nat} (hq : Nat.blt i n = true) : i < n := by simpa [Nat.blt_eq] using hq
theorem p_is_n {k0 : Fin 4} {x : Int32} (hd : decode cc pc = .ok (.istore_n k0, 1)) (hp : pc + 1 = pc') (hi : Nat.blt (k0 : Nat) nL = true) (h1 : q1b ls (k0 : Nat) = true) (hl : ls.set (k0 : Nat) (some (.int x)) = ls') (k : PW U RO l R cc nL ret own E pc' ls' st h r) : PW U RO l R cc nL ret own E pc ls (.int x :: st) h r := p_istore_n hd hp (blt_of hi) (q1_of h1) (hl ▸ k)
theorem p_is {i : Nat} {x : Int32} (hd : decode cc pc = .ok (.istore i, 2)) (hp : pc + 2 = pc') (hi : Nat.blt i nL = true) (h1 : q1b ls i = true) (hl : ls.set i (some (.int x)) = ls') (k : PW U RO l R cc nL ret own E pc' ls' st h r) : PW U RO l R cc nL ret own E pc ls (.int x :: st) h r := p_istore hd hp (blt_of hi) (q1_of h1) (hl ▸ k)
theorem p_as_n {k0 : Fin 4} {x : Nat} (hd : decode cc pc = .ok (.astore_n k0, 1)) (hp : pc + 1 = pc') (hi : Nat.blt (k0 : Nat) nL = true) (h1 : q1b ls (k0 : Nat) = true) (hl : ls.set (k0 : Nat) (some (.ref x)) = ls') (k : PW U RO l R cc nL ret own E pc' ls' st h r) : PW U RO l R cc nL ret own E pc ls (.ref x :: st) h r := p_astore_n hd hp (blt_of hi) (q1_of h1) (hl ▸ k)
theorem p_isN_n {k0 : Fin 4} {x : Int32} {lf : Int32 → List (Option Value)} {kk : Int32 → Option ρ} (hd : decode cc pc = .ok (.istore_n k0, 1)) (hp : pc + 1 = pc') (hi : Nat.blt (k0 : Nat) nL = true) (h1 : q1b ls (k0 : Nat) = true) (hl : ∀ y, ls.set (k0 : Nat) (some (.int y)) = lf y) (k : ∀ y, PW U RO l R cc nL ret own E pc' (lf y) st h (kk y)) : PW U RO l R cc nL ret own E pc ls (.int x :: st) h (qlt x kk) := p_istore_n hd hp (blt_of hi) (q1_of h1) (hl x ▸ k x)
theorem p_isN {i : Nat} {x : Int32} {lf : Int32 → List (Option Value)} {kk : Int32 → Option ρ} (hd : decode cc pc = .ok (.istore i, 2)) (hp : pc + 2 = pc') (hi : Nat.blt i nL = true) (h1 : q1b ls i = true) (hl : ∀ y, ls.set i (some (.int y)) = lf y) (k : ∀ y, PW U RO l R cc nL ret own E pc' (lf y) st h (kk y)) : PW U RO l R cc nL ret own E pc ls (.int x :: st) h (qlt x kk) := p_istore hd hp (blt_of hi) (q1_of h1) (hl x ▸ k x)
theorem p_iiN {i : Nat} {n : Int} {x v : Int32} {lf : Int32 → List (Option Value)} {kk : Int32 → Option ρ} (hv : Int32.ofInt n = v) (hd : decode cc pc = .ok (.iinc i n, 3)) (hp : pc + 3 = pc') (hg : ls[i]? = some (some (.int x))) (hi : Nat.blt i nL = true) (h1 : q1b ls i = true) (hl : ∀ y, ls.set i (some (.int y)) = lf y) (k : ∀ y, PW U RO l R cc nL ret own E pc' (lf y) st h (kk y)) : PW U RO l R cc nL ret own E pc ls st h (qlt (x + v) kk) := p_iinc hv hd hp hg (blt_of hi) (q1_of h1) (hl (x + v) ▸ k (x + v))
/-- an element at a known place -/
theorem p_ialdK {a : Nat} {L : Nat ⊕ Nat} {rs : List Nat} {i : Int32} {j : Nat} (hs : U[a]? = some (.inr (0, L, rs))) (hj : ix i = j) (hq : qin i (qlen h L) = true) (hd : decode cc pc = .ok (.iaload, 1)) (hp : pc + 1 = pc') (kk : PW U RO l R cc nL ret own E pc' ls (.int (h.1 a j) :: st) h r) : PW U RO l R cc nL ret own E pc ls (.int i :: .ref a :: st) h r := by
  subst hj
  have := p_iald (r := r) hs hd hp (fun _ => kk)
  rw [hq] at this
  exact this
theorem p_iastK {a : Nat} {L : Nat ⊕ Nat} {rs : List Nat} {i x : Int32} {j : Nat} (hU : qok U) (hs : U[a]? = some (.inr (0, L, rs))) (hj : ix i = j) (hq : qin i (qlen h L) = true) (hd : decode cc pc = .ok (.iastore, 1)) (hp : pc + 1 = pc') (kk : PW U RO l R cc nL ret own E pc' ls st (qw h a j x) r) : PW U RO l R cc nL ret own E pc ls (.int x :: .int i :: .ref a :: st) h r := by
  subst hj
  have := p_iast (r := r) hU hs hd hp (fun _ => kk)
  rw [hq] at this
  exact this
def qb2 {ρ : Type} (f : Option (Int32 × qH)) (k : Int32 → qH → Option ρ) : Option ρ := f.bind fun z => k z.1 z.2
theorem p_cVw {f : qH → Option (Int32 × qH)} {kk : Int32 → qH → Option ρ} {y : MethodName} {cy : ByteArray} {nLy n idx ci b : Nat} {ry : Option FieldType} {rm : Room} (as : List Value) {fs : List qF} (hRO : qRok RO) (hm : qMet U RO l y (qws y cy nLy ry) rm (.ref b :: as) f qEw) (hc : qCalV own idx y cy nLy ry n) (hs : U[b]? = some (.inl (ci, fs))) (hci : (vwCl[ci]?).map (fun q => q.1) = some y.cls) (hn : as.length = n) (hrm : rm.cells = 0 ∧ rm.slots = 0) (hR : rm.frames + 1 ≤ R.frames ∧ 8 + (nLy + 11) + rm.locals ≤ R.locals) (hcat : (st.map fun v => v.category).sum ≤ 8) (hd : decode cc pc = .ok (.invokevirtual idx, 3)) (hp : pc + 3 = pc')
    (k : ∀ (z : Int32) (h1 : qH), PW U RO l R cc nL ret own E pc' ls (.int z :: st) h1 (kk z h1)) : PW U RO l R cc nL ret own E pc ls (as.reverse ++ .ref b :: st) h (qb2 (f h) kk) := p_callV hRO hm hc hs hci hn hrm hR hcat hd hp fun z => k z.1 z.2
/-- loops: the fuel -/
theorem qN_ex : ∃ n : Nat, 100000 ≤ n := ⟨100000, Nat.le_refl _⟩
/-- (chosen, so that no checker counts it down) -/
noncomputable def qN : Nat := Classical.choose qN_ex
theorem qN_ge : 100000 ≤ qN := Classical.choose_spec qN_ex
theorem qN_le {n : Nat} (h : n ≤ 100000) : n ≤ qN := Nat.le_trans h qN_ge
theorem qN_lt {n : Nat} (h : n < 100000) : n < qN := Nat.lt_of_lt_of_le h qN_ge
theorem p_none : PW U RO l R cc nL ret own E pc ls st h (none : Option ρ) := fun z hz => by cases hz
end QM
