/-! ===== the law from its entry ===== -/
def fs8 : List qF := [.inr none, .inr none, .inr none, .inr none, .inr none, .inr none, .inl 0, .inr none, .inr none, .inr none, .inr none, .inr none, .inl 0, .inr none, .inr none, .inr none, .inr none, .inl 0, .inr none, .inl 1]
def fs9 : List qF := [.inl 0, .inr none, .inl 0, .inl 0, .inl 0, .inr none, .inr none, .inr none, .inl 0, .inl 0, .inr none, .inr none, .inl 0, .inr none, .inr none, .inl 0, .inr none, .inr none, .inl 0, .inr none, .inl 0, .inr none, .inr none, .inl 0, .inl 1, .inr none, .inr none, .inr none, .inl 0, .inl 0, .inl 0, .inl 0, .inr none, .inr none, .inl 0]
theorem um_eq : ([] ++ [.inl (9, [.inl 0, .inr (some (0 + 1)), .inl 0, .inl 0, .inl 0, .inr (some (0 + 2)), .inr (some (0 + 3)), .inr (some (0 + 4)), .inl 0, .inl 0, .inr (some (0 + 5)), .inr (some (0 + 6)), .inl 0, .inr (some (0 + 7)), .inr (some (0 + 8)), .inl 0, .inr (some (0 + 9)), .inr (some (0 + 10)), .inl 0, .inr (some (0 + 11)), .inl 0, .inr (some (0 + 12)), .inr (some (0 + 13)), .inl 0, .inl 1, .inr (some (0 + 14)), .inr (some (0 + 15)), .inr (some (0 + 16)), .inl 0, .inl 0, .inl 0, .inl 0, .inr (some (0 + 17)), .inr (some (0 + 18)), .inl 0]), .inr (0, .inl 240, []), .inr (0, .inl 8, []), .inr (0, .inl 16, []), .inr (0, .inl 48, []), .inr (0, .inl 8, []), .inr (0, .inl 8, []), .inr (0, .inl 240, []), .inr (0, .inl 5, []), .inr (0, .inl 353, []), .inr (0, .inl 4, []), .inr (0, .inl 24, []), .inr (0, .inl 24, []), .inr (0, .inl 14120, []), .inr (0, .inl 172, []), .inr (0, .inl 49152, []), .inr (0, .inl 12, []), .inr (0, .inl 172, []), .inr (0, .inl 353, [])] : List qS) = UM := by decide +kernel
theorem um_gi (l : Launch) : qMetG l yX9_init (qws yX9_init cX9_init 1 none) Rg9 [.ref 0] [.inl (9, fs9)] UM 18 64959 := qMetG_to um_eq (gi9 l [] 0 rfl)
theorem li_cl8 : Cond.classLink RL 8 RX8 ∈ qTT := qTT_in 150 (by decide +kernel) rfl
theorem li_cl9 : Cond.classLink RL 16 RX9 ∈ qTT := qTT_in 1281 (by decide +kernel) rfl
theorem li_in8 : Cond.initialized RX8 ∈ qTT := qTT_in 128 (by decide +kernel) rfl
theorem li_in9 : Cond.initialized RX9 ∈ qTT := qTT_in 137 (by decide +kernel) rfl
theorem li_c8 : Cond.code yX8_init cX8_init 2 none ∈ qTT ∧ Cond.methodLink RL 15 yX8_init ∈ qTT ∧ Cond.instanceMethod yX8_init ∈ qTT := ⟨qTT_in 154 (by decide +kernel) rfl, qTT_in 152 (by decide +kernel) rfl, qTT_in 153 (by decide +kernel) rfl⟩
theorem li_c9 : Cond.code yX9_init cX9_init 1 none ∈ qTT ∧ Cond.methodLink RL 18 yX9_init ∈ qTT ∧ Cond.instanceMethod yX9_init ∈ qTT := ⟨qTT_in 1285 (by decide +kernel) rfl, qTT_in 1283 (by decide +kernel) rfl, qTT_in 1284 (by decide +kernel) rfl⟩
theorem qpic_z {cs : Nat → ClassId} {ad : Nat → Nat} : qpic UXz cs ad q00 = qpic UX cs ad q00 := by
  apply List.ext_getElem?
  intro k
  simp only [qpic, UXz, List.getElem?_mapIdx]
  by_cases hk : k = 50
  · subst hk
    rfl
  · rw [List.getElem?_set_ne (Ne.symm hk)]
theorem df8 : ∀ j, j < 20 → defaultValue (tyX8 j) = vp_V (fs8.mapIdx (qfv (fun _ => 0) (fun _ => 0) 0)) j := by decide +kernel
theorem df9 : ∀ j, j < 35 → defaultValue (tyX9 j) = vp_V (fs9.mapIdx (qfv (fun _ => 0) (fun _ => 0) 0)) j := by decide +kernel
section LS
variable {p : Program} {l : Launch} {e : Env} {s : State} {m : MethodId} {below : List Frame} {meth : Method} {c : Code} {b L : Nat} {xs : Nat → Int32} {D : va_G} {cs : Nat → ClassId} {Q : State → Prop}
theorem lw_ctor {y : MethodName} {cy : ByteArray} {nLy idx kc ks pc cells slots : Nat} {rm : Room} {U Uf : List qS} {ad : Nat → Nat} {H : Heap} {locs : List Loc} {la : Array Slot} {rest : List Value} (hm : qMetG l y (qws y cy nLy none) rm [.ref 0] U Uf kc ks) (hwf : U.all (qsw U.length) = true) (hc : Cond.code y cy nLy none ∈ qTT ∧ Cond.methodLink RL idx y ∈ qTT ∧ Cond.instanceMethod y ∈ qTT) (hini : Cond.initialized y.cls ∈ qTT) (hy : y.name = "<init>") (hd0 : y.cls ≠ "java/lang/invoke/MethodHandle" ∧ y.cls ≠ "java/lang/invoke/VarHandle" ∧ (parseMethodDescriptor y.desc).map (fun d => d.parameters.length) = some 0) (hrm : rm.cells = kc ∧ rm.slots = ks) (hR : rm.frames + 1 ≤ room_1.frames ∧ 8 + (nLy + 11) + rm.locals ≤ room_1.locals) (K : LC p l s m meth c b L xs D cs) (hao : va_AO "SpoolHall$Script" s)
    (hP : va_P D vwCl (qpic U cs ad q00) H) (hD : va_D (lA s) (qpic U cs ad q00)) (hS : va_S (lA s) s.heap H locs) (hfit : cells + kc ≤ 601024 ∧ slots + ks ≤ 7293034) (hla : la.size = 7) (hcat : (rest.map fun v => v.category).sum ≤ 8) (hd : decode code pc = .ok (.invokespecial idx, 3))
    (kk : ∀ (ad' : Nat → Nat) (H1 : Heap) (locs1 : List Loc), (∀ k, k < U.length → ad' k = ad k) → va_P D vwCl (qpic Uf cs ad' q00) H1 → va_D (va_A (qpic U cs ad q00) H.size) (qpic Uf cs ad' q00) → (∀ q : Nat, q < H.size → ¬ va_A (qpic U cs ad q00) H.size q → H1[q]? = H[q]?) → va_S (lA s) s.heap H1 locs1 → W p l e room_1 s m #[Value.ref b] below meth c H1 locs1 (cells + kc) (slots + ks) Q (F0 m (pc + 3) la rest)) : W p l e room_1 s m #[Value.ref b] below meth c H locs cells slots Q (F0 m pc la (.ref (ad 0) :: rest)) := by
  obtain ⟨hA, hpre⟩ := lw_pre (RO := ROM) qRokM K hP hD hS trivial
  have hts := K.tt
  have hM := hm hwf D cs ad H.size
  have hps : PreS s H (va_Pc ([Value.ref 0].map (qv ad)) (qPreG U D cs ad H.size)) [.ref (ad 0)] := ⟨qPreG_blind, fun S hSh hw => ⟨rfl, hpre S hSh hw, va_AO.moved hw.alike hao⟩⟩
  have hr := va_runI (n := 0) (As := []) (rest := rest) (e := e) (below := below) (meth := meth) (locs := locs) (cells := cells) (slots := slots) (g := F0 m pc la (.ref (ad 0) :: rest)) ⟨K.1.1, K.1.2.1, K.1.2.2.1, K.1.2.2.2, hts⟩ hM ⟨callB_of 0 hts (qws_good hc.1) rfl hrm.1 hrm.2 (hts _ hini) (hts _ hc.2.1) hd0 hR, hy, hts _ hc.2.2⟩ hps rfl rfl hla rfl (by show 2 * 0 + _ ≤ 8; omega) hd hfit
  refine q_call hr hS (fun q _ hq => hA q hq) hA fun t H1 locs1 ht hvm hB hz1 hk1 hS1 => ?_
  obtain ⟨ad', hag, b1, -, b3⟩ := hB
  rw [ht] at b1
  exact kk ad' H1 locs1 hag b1 b3 hk1 hS1
set_option maxHeartbeats 4000000 in
set_option maxRecDepth 100000 in
theorem whole_start (l : Launch) (hflags : l.flags = flags0) {b L : Nat} {xs : Nat → Int32} (hL : L ≤ 3072) (C0 : lw_At p s m meth c b L xs) : W p l e room_1 s m #[Value.ref b] below meth c s.heap [] 0 0 (lw_Z below #[Value.ref b] s) (entryFrame m ([Value.ref b] : List Value).toArray 7) := by
  obtain ⟨D, cs, rx, K, hRO⟩ := law_init hflags hL C0
  have hao : va_AO "SpoolHall$Script" s := va_AO.of (K.2.1 _ ovS)
  have hts := K.tt
  have hA : ∀ q : Nat, s.heap.size ≤ q → lA s q := fun _ h => h
  have hl := lv_entry ([.ref b]) (n := 7) (Nat.le_of_ble_eq_true rfl)
  rw [lg_entry_eq]
  generalize (lg_sl ([.ref b]) ++ List.replicate (7 - (lg_sl ([.ref b])).length) Slot.unset).toArray = la at hl ⊢
  have hl : lv_has la 7 [(0, .ref b)] := hl
  have hP0 : va_P D vwCl [] s.heap := fun k q h => by simp at h
  have hD0 : va_D (lA s) [] := ⟨fun i j p q h => by simp at h, fun k q h => by simp at h⟩
  refine va_new (ci := 8) (C := RX8) (T := TX8) (N := 20) (fs := fs8.mapIdx (qfv (fun _ => 0) (fun _ => 0) 0)) K.1.1 K.1.2.1 hts inq8 tyX8 tyX8_ok K.1.2.2.2 (hts _ li_cl8) (hts _ ins8) (hts _ li_in8) K.2.2.2.1 hP0 hD0 va_S.rf hA rfl df8 (Nat.le_of_ble_eq_true rfl) (Nat.le_of_ble_eq_true rfl) dL_law_0 (fun q0 H1 hP1 hD1 hS1 => ?_)
  refine lv_dup K.1.1 K.1.2.1 dL_law_3 rfl ?_
  obtain ⟨ad0, ha0⟩ : ∃ ad0 : Nat → Nat, ad0 0 = q0 := ⟨fun _ => q0, rfl⟩
  have hpic0 : ([] ++ [(q0, .inr (8, fs8.mapIdx (qfv (fun _ => 0) (fun _ => 0) 0)))] : va_W) = qpic [.inl (8, fs8)] cs ad0 q00 := by
    rw [← ha0]
    show [(ad0 0, Sum.inr (8, fs8.mapIdx (qfv (fun _ => 0) (fun _ => 0) 0)))] = [(ad0 0, Sum.inr (8, fs8.mapIdx (qfv ad0 (fun _ => 0) 0)))]
    rw [qfls_ad (n := 0) (ad := ad0) (ad' := fun _ => 0) (fun k hk => absurd hk (Nat.not_lt_zero k)) (by decide +kernel)]
  rw [hpic0] at hP1 hD1
  rw [← ha0]
  refine lw_ctor (gi8 l) (by decide +kernel) li_c8 li_in8 rfl ⟨by decide, by decide, by decide +kernel⟩ ⟨rfl, rfl⟩ ⟨Nat.le_of_ble_eq_true rfl, Nat.le_of_ble_eq_true rfl⟩ K hao hP1 hD1 hS1 ⟨Nat.le_of_ble_eq_true rfl, Nat.le_of_ble_eq_true rfl⟩ hl.1 (Nat.le_of_ble_eq_true rfl) dL_law_4 (fun ad1 H2 locs2 hag hP2 hD2 hk2 hS2 => ?_)
  have hA1 := (lw_pre (RO := ROM) qRokM K hP1 hD1 hS1 trivial).1
  obtain ⟨adx, hx1, hx2⟩ : ∃ adx : Nat → Nat, (∀ k, k < 85 → adx k = ad1 k) ∧ ∀ k, 200 ≤ k → adx k = rx k := ⟨fun k => if k < 200 then ad1 k else rx k, fun k hk => if_pos (by omega), fun k hk => if_neg (by omega)⟩
  have hpx : qpic UXz cs ad1 q00 = qpic UX cs adx q00 := by
    rw [← qpic_z, qpic_ad (U := UXz) hx1 (by decide +kernel) (by decide +kernel)]
  rw [hpx] at hP2 hD2
  have e0 : adx 0 = ad0 0 := (hx1 0 (by decide)).trans (hag 0 (by decide))
  replace hD2 := hD2.weaken (fun _ q _ h9 => hA1 q.1 h9)
  rw [← e0]
  refine lv_astore_n (lv' := [(1, .ref (adx 0)), (0, .ref b)]) K.1.1 K.1.2.1 dL_law_7 rfl hl (by decide) rfl (fun la hl => ?_)
  refine va_new (ci := 9) (C := RX9) (T := TX9) (N := 35) (fs := fs9.mapIdx (qfv (fun _ => 0) (fun _ => 0) 0)) K.1.1 K.1.2.1 hts inq9 tyX9 tyX9_ok K.1.2.2.2 (hts _ li_cl9) (hts _ ins9) (hts _ li_in9) K.2.2.2.1 hP2 hD2 hS2 hA rfl df9 (Nat.le_of_ble_eq_true rfl) (Nat.le_of_ble_eq_true rfl) dL_law_8 (fun q1 H3 hP3 hD3 hS3 => ?_)
  refine lv_dup K.1.1 K.1.2.1 dL_law_11 rfl ?_
  obtain ⟨ad2, ha2⟩ : ∃ ad2 : Nat → Nat, ad2 0 = q1 := ⟨fun _ => q1, rfl⟩
  have hpic1 : ([(q1, .inr (9, fs9.mapIdx (qfv (fun _ => 0) (fun _ => 0) 0)))] : va_W) = qpic [.inl (9, fs9)] cs ad2 q00 := by
    rw [← ha2]
    show [(ad2 0, Sum.inr (9, fs9.mapIdx (qfv (fun _ => 0) (fun _ => 0) 0)))] = [(ad2 0, Sum.inr (9, fs9.mapIdx (qfv ad2 (fun _ => 0) 0)))]
    rw [qfls_ad (n := 0) (ad := ad2) (ad' := fun _ => 0) (fun k hk => absurd hk (Nat.not_lt_zero k)) (by decide +kernel)]
  rw [hpic1] at hP3 hD3
  rw [← ha2]
  have hA3 := (lw_pre (RO := ROM) qRokM K (va_Pr hP3) (va_Dr hD3) hS3 trivial).1
  refine lw_ctor (um_gi l) (by decide +kernel) li_c9 li_in9 rfl ⟨by decide, by decide, by decide +kernel⟩ ⟨rfl, rfl⟩ ⟨Nat.le_of_ble_eq_true rfl, Nat.le_of_ble_eq_true rfl⟩ K hao (va_Pr hP3) (va_Dr hD3) hS3 ⟨Nat.le_of_ble_eq_true rfl, Nat.le_of_ble_eq_true rfl⟩ hl.1 (Nat.le_of_ble_eq_true rfl) dL_law_12 (fun adm H4 locs4 hag4 hP4 hD4 hk4 hS4 => ?_)
  have em : adm 0 = ad2 0 := hag4 0 (by decide)
  have hdis : dis (qpic [.inl (9, fs9)] cs ad2 q00) (qpic UX cs adx q00) := (va_Dd hD3).symm
  have hPx4 : va_P D vwCl (qpic UX cs adx q00) H4 := fr_P (va_Pl hP3) hdis hk4
  have hdm : dis (qpic UX cs adx q00) (qpic UM cs adm q00) := (fr_dis (va_Pl hP3) hdis hD4).symm
  replace hD4 := hD4.weaken (fun _ q _ h9 => hA3 q.1 h9)
  rw [← em]
  refine lv_astore_n (lv' := [(2, .ref (adm 0)), (1, .ref (adx 0)), (0, .ref b)]) K.1.1 K.1.2.1 dL_law_15 rfl hl (by decide) rfl (fun la hl => ?_)
  refine lv_iconst (v := 1) K.1.1 K.1.2.1 dL_law_16 (by decide) ?_
  refine va_newa (atype := .long) K.1.1 K.1.2.1 (hts _ arrJ) rfl K.2.2.2.1 (va_P.app hPx4 hP4) (va_Dapp (va_Dl hD3) hD4 hdm) hS4 hA (n := 1) (N' := 1) (a0 := (1, .inr (.inl fun _ => 0))) (fun _ => rfl) (by decide) (by decide) (Nat.le_of_ble_eq_true rfl) (Nat.le_of_ble_eq_true rfl) (Nat.le_of_ble_eq_true rfl) dL_law_17 fun o cA H5 hK5 hP5 hD5 hS5 => ?_
  have e1 := (K.2.2.2.1.2 3 (cs 3, .long) rfl).2
  have e2 := (hK5.2 4 (cA, .long) rfl).2
  have hcA : cA = cs 3 := Option.some.inj (Eq.trans (Eq.symm e2) e1)
  subst hcA
  refine lv_astore_n (lv' := [(3, .ref o), (2, .ref (adm 0)), (1, .ref (adx 0)), (0, .ref b)]) K.1.1 K.1.2.1 dL_law_19 rfl hl (by decide) rfl (fun la hl => ?_)
  refine lv_iconst (v := 0) K.1.1 K.1.2.1 dL_law_20 (by decide) ?_
  refine lv_istore (lv' := [(4, .int 0), (3, .ref o), (2, .ref (adm 0)), (1, .ref (adx 0)), (0, .ref b)]) K.1.1 K.1.2.1 dL_law_21 hl (by decide) rfl (fun la hl => ?_)
  have hdo := va_Dd hD5
  refine law_loop K (L / 6 + 1) 0 q00 q00 (fun _ => 0) SB (by omega) (by omega) WW.first ⟨0, by omega, rfl⟩ (by show SB ≤ SB + 0 + _; omega) adx adm o H5 locs4 _ _ la ⟨⟨va_Pl (va_Pl hP5), va_Dl (va_Dl hD5)⟩, ⟨va_Pr (va_Pl hP5), va_Dr (va_Dl hD5)⟩, ⟨va_Pr hP5, va_Dr hD5⟩, ⟨hdm, fun i j p q hi hj e => hdo i j p q (by rw [List.getElem?_append_left (List.getElem?_eq_some_iff.mp hi).1]; exact hi) hj e, fun i j p q hi hj e => hdo ((qpic UX cs adx q00).length + i) j p q (by rw [List.getElem?_append_right (Nat.le_add_right _ _), Nat.add_sub_cancel_left]; exact hi) hj e⟩, hS5, hRO adx hx2⟩ ⟨hl.1, hl.2.1, fun q hq => hl.2.2 q (by
    simp only [List.append_nil, List.mem_cons, List.not_mem_nil, or_false] at hq ⊢
    rcases hq with h | h | h | h | h <;> simp [h] <;> rfl)⟩ (Nat.le_of_ble_eq_true rfl) (Nat.le_of_ble_eq_true rfl)
end LS
