def UX : List qS := [.inl (8, [.inr (some 1), .inr (some 3), .inr (some 6), .inr (some 14), .inr (some 22), .inr (some 39), .inl 0, .inr (some 43), .inr (some 51), .inr (some 63), .inr (some 75), .inr (some 76), .inl 0, .inr (some 77), .inr (some 79), .inr (some 81), .inr (some 82), .inl 0, .inr (some 84), .inl 1]),
  .inl (0, [.inr (some 2), .inl 0]),
  .inr (0, .inl 240, []),
  .inl (5, [.inr (some 1), .inr (some 4), .inr (some 5), .inl 0, .inl 0, .inl 0]),
  .inr (0, .inl 12, []),
  .inr (1, .inl 12, []),
  .inl (4, [.inr (some 7), .inl 0, .inr (some 8), .inr (some 9), .inl 0, .inr (some 10), .inr (some 11), .inl 0, .inr (some 12), .inr (some 13)]),
  .inr (0, .inl 8, []),
  .inr (0, .inl 8, []),
  .inr (0, .inl 8, []),
  .inr (0, .inl 24, []),
  .inr (0, .inl 24, []),
  .inr (0, .inl 96, []),
  .inr (0, .inl 96, []),
  .inl (4, [.inr (some 15), .inl 0, .inr (some 16), .inr (some 17), .inl 0, .inr (some 18), .inr (some 19), .inl 0, .inr (some 20), .inr (some 21)]),
  .inr (0, .inl 8, []),
  .inr (0, .inl 8, []),
  .inr (0, .inl 8, []),
  .inr (0, .inl 24, []),
  .inr (0, .inl 24, []),
  .inr (0, .inl 96, []),
  .inr (0, .inl 96, []),
  .inr (2, .inl 4, [23, 27, 31, 35]),
  .inl (6, [.inr (some 24), .inr (some 25), .inr (some 26), .inl 0]),
  .inr (0, .inl 16, []),
  .inr (0, .inl 16, []),
  .inr (0, .inl 16, []),
  .inl (6, [.inr (some 28), .inr (some 29), .inr (some 30), .inl 0]),
  .inr (0, .inl 16, []),
  .inr (0, .inl 16, []),
  .inr (0, .inl 16, []),
  .inl (6, [.inr (some 32), .inr (some 33), .inr (some 34), .inl 0]),
  .inr (0, .inl 16, []),
  .inr (0, .inl 16, []),
  .inr (0, .inl 16, []),
  .inl (6, [.inr (some 36), .inr (some 37), .inr (some 38), .inl 0]),
  .inr (0, .inl 16, []),
  .inr (0, .inl 16, []),
  .inr (0, .inl 16, []),
  .inl (6, [.inr (some 40), .inr (some 41), .inr (some 42), .inl 0]),
  .inr (0, .inl 16, []),
  .inr (0, .inl 16, []),
  .inr (0, .inl 16, []),
  .inl (2, [.inr (some 6), .inl 0, .inl 0, .inr (some 44), .inr (some 45), .inr (some 46), .inr (some 47), .inr (some 48), .inr (some 49), .inr (some 50)]),
  .inr (0, .inl 12, []),
  .inr (0, .inl 12, []),
  .inr (0, .inl 12, []),
  .inr (0, .inl 12, []),
  .inr (0, .inl 12, []),
  .inr (0, .inl 144, []),
  .inr (0, .inr 100, []),
  .inl (7, [.inr (some 6), .inr (some 43), .inl 0, .inl 0, .inl 0, .inl 0, .inl 0, .inr (some 52), .inr (some 53), .inr (some 54), .inr (some 55), .inr (some 56), .inr (some 57), .inr (some 58), .inr (some 59), .inr (some 60), .inr (some 61), .inr (some 62)]),
  .inr (0, .inl 8, []),
  .inr (0, .inl 8, []),
  .inr (0, .inl 8, []),
  .inr (0, .inl 8, []),
  .inr (0, .inl 8, []),
  .inr (0, .inl 8, []),
  .inr (0, .inl 24, []),
  .inr (0, .inl 24, []),
  .inr (0, .inl 24, []),
  .inr (0, .inl 24, []),
  .inr (0, .inl 24, []),
  .inl (7, [.inr (some 6), .inr (some 43), .inl 0, .inl 0, .inl 0, .inl 0, .inl 0, .inr (some 64), .inr (some 65), .inr (some 66), .inr (some 67), .inr (some 68), .inr (some 69), .inr (some 70), .inr (some 71), .inr (some 72), .inr (some 73), .inr (some 74)]),
  .inr (0, .inl 8, []),
  .inr (0, .inl 8, []),
  .inr (0, .inl 8, []),
  .inr (0, .inl 8, []),
  .inr (0, .inl 8, []),
  .inr (0, .inl 8, []),
  .inr (0, .inl 24, []),
  .inr (0, .inl 24, []),
  .inr (0, .inl 24, []),
  .inr (0, .inl 24, []),
  .inr (0, .inl 24, []),
  .inr (0, .inl 172, []),
  .inr (0, .inl 8, []),
  .inl (3, [.inr (some 78), .inl 0, .inl 0]),
  .inr (0, .inl 6880, []),
  .inl (1, [.inr (some 80), .inl 0]),
  .inr (0, .inl 300, []),
  .inr (0, .inl 172, []),
  .inl (1, [.inr (some 83), .inl 0]),
  .inr (0, .inl 300, []),
  .inr (0, .inl 4, [])]
theorem uX_0 : UX[0]? = some (.inl (8, [.inr (some 1), .inr (some 3), .inr (some 6), .inr (some 14), .inr (some 22), .inr (some 39), .inl 0, .inr (some 43), .inr (some 51), .inr (some 63), .inr (some 75), .inr (some 76), .inl 0, .inr (some 77), .inr (some 79), .inr (some 81), .inr (some 82), .inl 0, .inr (some 84), .inl 1])) := rfl
theorem uX_1 : UX[1]? = some (.inl (0, [.inr (some 2), .inl 0])) := rfl
theorem uX_2 : UX[2]? = some (.inr (0, .inl 240, [])) := rfl
theorem uX_3 : UX[3]? = some (.inl (5, [.inr (some 1), .inr (some 4), .inr (some 5), .inl 0, .inl 0, .inl 0])) := rfl
theorem uX_4 : UX[4]? = some (.inr (0, .inl 12, [])) := rfl
theorem uX_5 : UX[5]? = some (.inr (1, .inl 12, [])) := rfl
theorem uX_6 : UX[6]? = some (.inl (4, [.inr (some 7), .inl 0, .inr (some 8), .inr (some 9), .inl 0, .inr (some 10), .inr (some 11), .inl 0, .inr (some 12), .inr (some 13)])) := rfl
theorem uX_7 : UX[7]? = some (.inr (0, .inl 8, [])) := rfl
theorem uX_8 : UX[8]? = some (.inr (0, .inl 8, [])) := rfl
theorem uX_9 : UX[9]? = some (.inr (0, .inl 8, [])) := rfl
theorem uX_10 : UX[10]? = some (.inr (0, .inl 24, [])) := rfl
theorem uX_11 : UX[11]? = some (.inr (0, .inl 24, [])) := rfl
theorem uX_12 : UX[12]? = some (.inr (0, .inl 96, [])) := rfl
theorem uX_13 : UX[13]? = some (.inr (0, .inl 96, [])) := rfl
theorem uX_14 : UX[14]? = some (.inl (4, [.inr (some 15), .inl 0, .inr (some 16), .inr (some 17), .inl 0, .inr (some 18), .inr (some 19), .inl 0, .inr (some 20), .inr (some 21)])) := rfl
theorem uX_15 : UX[15]? = some (.inr (0, .inl 8, [])) := rfl
theorem uX_16 : UX[16]? = some (.inr (0, .inl 8, [])) := rfl
theorem uX_17 : UX[17]? = some (.inr (0, .inl 8, [])) := rfl
theorem uX_18 : UX[18]? = some (.inr (0, .inl 24, [])) := rfl
theorem uX_19 : UX[19]? = some (.inr (0, .inl 24, [])) := rfl
theorem uX_20 : UX[20]? = some (.inr (0, .inl 96, [])) := rfl
theorem uX_21 : UX[21]? = some (.inr (0, .inl 96, [])) := rfl
theorem uX_22 : UX[22]? = some (.inr (2, .inl 4, [23, 27, 31, 35])) := rfl
theorem uX_23 : UX[23]? = some (.inl (6, [.inr (some 24), .inr (some 25), .inr (some 26), .inl 0])) := rfl
theorem uX_24 : UX[24]? = some (.inr (0, .inl 16, [])) := rfl
theorem uX_25 : UX[25]? = some (.inr (0, .inl 16, [])) := rfl
theorem uX_26 : UX[26]? = some (.inr (0, .inl 16, [])) := rfl
theorem uX_27 : UX[27]? = some (.inl (6, [.inr (some 28), .inr (some 29), .inr (some 30), .inl 0])) := rfl
theorem uX_28 : UX[28]? = some (.inr (0, .inl 16, [])) := rfl
theorem uX_29 : UX[29]? = some (.inr (0, .inl 16, [])) := rfl
theorem uX_30 : UX[30]? = some (.inr (0, .inl 16, [])) := rfl
theorem uX_31 : UX[31]? = some (.inl (6, [.inr (some 32), .inr (some 33), .inr (some 34), .inl 0])) := rfl
theorem uX_32 : UX[32]? = some (.inr (0, .inl 16, [])) := rfl
theorem uX_33 : UX[33]? = some (.inr (0, .inl 16, [])) := rfl
theorem uX_34 : UX[34]? = some (.inr (0, .inl 16, [])) := rfl
theorem uX_35 : UX[35]? = some (.inl (6, [.inr (some 36), .inr (some 37), .inr (some 38), .inl 0])) := rfl
theorem uX_36 : UX[36]? = some (.inr (0, .inl 16, [])) := rfl
theorem uX_37 : UX[37]? = some (.inr (0, .inl 16, [])) := rfl
theorem uX_38 : UX[38]? = some (.inr (0, .inl 16, [])) := rfl
theorem uX_39 : UX[39]? = some (.inl (6, [.inr (some 40), .inr (some 41), .inr (some 42), .inl 0])) := rfl
theorem uX_40 : UX[40]? = some (.inr (0, .inl 16, [])) := rfl
theorem uX_41 : UX[41]? = some (.inr (0, .inl 16, [])) := rfl
theorem uX_42 : UX[42]? = some (.inr (0, .inl 16, [])) := rfl
theorem uX_43 : UX[43]? = some (.inl (2, [.inr (some 6), .inl 0, .inl 0, .inr (some 44), .inr (some 45), .inr (some 46), .inr (some 47), .inr (some 48), .inr (some 49), .inr (some 50)])) := rfl
theorem uX_44 : UX[44]? = some (.inr (0, .inl 12, [])) := rfl
theorem uX_45 : UX[45]? = some (.inr (0, .inl 12, [])) := rfl
theorem uX_46 : UX[46]? = some (.inr (0, .inl 12, [])) := rfl
theorem uX_47 : UX[47]? = some (.inr (0, .inl 12, [])) := rfl
theorem uX_48 : UX[48]? = some (.inr (0, .inl 12, [])) := rfl
theorem uX_49 : UX[49]? = some (.inr (0, .inl 144, [])) := rfl
theorem uX_50 : UX[50]? = some (.inr (0, .inr 100, [])) := rfl
theorem uX_51 : UX[51]? = some (.inl (7, [.inr (some 6), .inr (some 43), .inl 0, .inl 0, .inl 0, .inl 0, .inl 0, .inr (some 52), .inr (some 53), .inr (some 54), .inr (some 55), .inr (some 56), .inr (some 57), .inr (some 58), .inr (some 59), .inr (some 60), .inr (some 61), .inr (some 62)])) := rfl
theorem uX_52 : UX[52]? = some (.inr (0, .inl 8, [])) := rfl
theorem uX_53 : UX[53]? = some (.inr (0, .inl 8, [])) := rfl
theorem uX_54 : UX[54]? = some (.inr (0, .inl 8, [])) := rfl
theorem uX_55 : UX[55]? = some (.inr (0, .inl 8, [])) := rfl
theorem uX_56 : UX[56]? = some (.inr (0, .inl 8, [])) := rfl
theorem uX_57 : UX[57]? = some (.inr (0, .inl 8, [])) := rfl
theorem uX_58 : UX[58]? = some (.inr (0, .inl 24, [])) := rfl
theorem uX_59 : UX[59]? = some (.inr (0, .inl 24, [])) := rfl
theorem uX_60 : UX[60]? = some (.inr (0, .inl 24, [])) := rfl
theorem uX_61 : UX[61]? = some (.inr (0, .inl 24, [])) := rfl
theorem uX_62 : UX[62]? = some (.inr (0, .inl 24, [])) := rfl
theorem uX_63 : UX[63]? = some (.inl (7, [.inr (some 6), .inr (some 43), .inl 0, .inl 0, .inl 0, .inl 0, .inl 0, .inr (some 64), .inr (some 65), .inr (some 66), .inr (some 67), .inr (some 68), .inr (some 69), .inr (some 70), .inr (some 71), .inr (some 72), .inr (some 73), .inr (some 74)])) := rfl
theorem uX_64 : UX[64]? = some (.inr (0, .inl 8, [])) := rfl
theorem uX_65 : UX[65]? = some (.inr (0, .inl 8, [])) := rfl
theorem uX_66 : UX[66]? = some (.inr (0, .inl 8, [])) := rfl
theorem uX_67 : UX[67]? = some (.inr (0, .inl 8, [])) := rfl
theorem uX_68 : UX[68]? = some (.inr (0, .inl 8, [])) := rfl
theorem uX_69 : UX[69]? = some (.inr (0, .inl 8, [])) := rfl
theorem uX_70 : UX[70]? = some (.inr (0, .inl 24, [])) := rfl
theorem uX_71 : UX[71]? = some (.inr (0, .inl 24, [])) := rfl
theorem uX_72 : UX[72]? = some (.inr (0, .inl 24, [])) := rfl
theorem uX_73 : UX[73]? = some (.inr (0, .inl 24, [])) := rfl
theorem uX_74 : UX[74]? = some (.inr (0, .inl 24, [])) := rfl
theorem uX_75 : UX[75]? = some (.inr (0, .inl 172, [])) := rfl
theorem uX_76 : UX[76]? = some (.inr (0, .inl 8, [])) := rfl
theorem uX_77 : UX[77]? = some (.inl (3, [.inr (some 78), .inl 0, .inl 0])) := rfl
theorem uX_78 : UX[78]? = some (.inr (0, .inl 6880, [])) := rfl
theorem uX_79 : UX[79]? = some (.inl (1, [.inr (some 80), .inl 0])) := rfl
theorem uX_80 : UX[80]? = some (.inr (0, .inl 300, [])) := rfl
theorem uX_81 : UX[81]? = some (.inr (0, .inl 172, [])) := rfl
theorem uX_82 : UX[82]? = some (.inl (1, [.inr (some 83), .inl 0])) := rfl
theorem uX_83 : UX[83]? = some (.inr (0, .inl 300, [])) := rfl
theorem uX_84 : UX[84]? = some (.inr (0, .inl 4, [])) := rfl
theorem qokX_b : UX.all (fun s => match s with
  | .inr (_, .inr a, _) => decide (UX.length ≤ a)
  | _ => true) = true := by decide +kernel
theorem qokX : qok UX := by
  intro k t a rs hk
  have h1 := List.all_eq_true.mp qokX_b _ (List.mem_of_getElem? hk)
  simpa using h1
def UM : List qS := [.inl (9, [.inl 0, .inr (some 1), .inl 0, .inl 0, .inl 0, .inr (some 2), .inr (some 3), .inr (some 4), .inl 0, .inl 0, .inr (some 5), .inr (some 6), .inl 0, .inr (some 7), .inr (some 8), .inl 0, .inr (some 9), .inr (some 10), .inl 0, .inr (some 11), .inl 0, .inr (some 12), .inr (some 13), .inl 0, .inl 1, .inr (some 14), .inr (some 15), .inr (some 16), .inl 0, .inl 0, .inl 0, .inl 0, .inr (some 17), .inr (some 18), .inl 0]),
  .inr (0, .inl 240, []),
  .inr (0, .inl 8, []),
  .inr (0, .inl 16, []),
  .inr (0, .inl 48, []),
  .inr (0, .inl 8, []),
  .inr (0, .inl 8, []),
  .inr (0, .inl 240, []),
  .inr (0, .inl 5, []),
  .inr (0, .inl 353, []),
  .inr (0, .inl 4, []),
  .inr (0, .inl 24, []),
  .inr (0, .inl 24, []),
  .inr (0, .inl 14120, []),
  .inr (0, .inl 172, []),
  .inr (0, .inl 49152, []),
  .inr (0, .inl 12, []),
  .inr (0, .inl 172, []),
  .inr (0, .inl 353, [])]
theorem uM_0 : UM[0]? = some (.inl (9, [.inl 0, .inr (some 1), .inl 0, .inl 0, .inl 0, .inr (some 2), .inr (some 3), .inr (some 4), .inl 0, .inl 0, .inr (some 5), .inr (some 6), .inl 0, .inr (some 7), .inr (some 8), .inl 0, .inr (some 9), .inr (some 10), .inl 0, .inr (some 11), .inl 0, .inr (some 12), .inr (some 13), .inl 0, .inl 1, .inr (some 14), .inr (some 15), .inr (some 16), .inl 0, .inl 0, .inl 0, .inl 0, .inr (some 17), .inr (some 18), .inl 0])) := rfl
theorem uM_1 : UM[1]? = some (.inr (0, .inl 240, [])) := rfl
theorem uM_2 : UM[2]? = some (.inr (0, .inl 8, [])) := rfl
theorem uM_3 : UM[3]? = some (.inr (0, .inl 16, [])) := rfl
theorem uM_4 : UM[4]? = some (.inr (0, .inl 48, [])) := rfl
theorem uM_5 : UM[5]? = some (.inr (0, .inl 8, [])) := rfl
theorem uM_6 : UM[6]? = some (.inr (0, .inl 8, [])) := rfl
theorem uM_7 : UM[7]? = some (.inr (0, .inl 240, [])) := rfl
theorem uM_8 : UM[8]? = some (.inr (0, .inl 5, [])) := rfl
theorem uM_9 : UM[9]? = some (.inr (0, .inl 353, [])) := rfl
theorem uM_10 : UM[10]? = some (.inr (0, .inl 4, [])) := rfl
theorem uM_11 : UM[11]? = some (.inr (0, .inl 24, [])) := rfl
theorem uM_12 : UM[12]? = some (.inr (0, .inl 24, [])) := rfl
theorem uM_13 : UM[13]? = some (.inr (0, .inl 14120, [])) := rfl
theorem uM_14 : UM[14]? = some (.inr (0, .inl 172, [])) := rfl
theorem uM_15 : UM[15]? = some (.inr (0, .inl 49152, [])) := rfl
theorem uM_16 : UM[16]? = some (.inr (0, .inl 12, [])) := rfl
theorem uM_17 : UM[17]? = some (.inr (0, .inl 172, [])) := rfl
theorem uM_18 : UM[18]? = some (.inr (0, .inl 353, [])) := rfl
theorem qokM_b : UM.all (fun s => match s with
  | .inr (_, .inr a, _) => decide (UM.length ≤ a)
  | _ => true) = true := by decide +kernel
theorem qokM : qok UM := by
  intro k t a rs hk
  have h1 := List.all_eq_true.mp qokM_b _ (List.mem_of_getElem? hk)
  simpa using h1
def kPlan (a : Nat) : Prop := a = 6 ∨ a = 14
theorem kPlan_6 : kPlan 6 := Or.inl rfl
theorem kPlan_14 : kPlan 14 := Or.inr (rfl)
theorem uX_Plan {a : Nat} (h : kPlan a) : UX[a]? = some (.inl (4, [.inr (some (a + 1)), .inl 0, .inr (some (a + 2)), .inr (some (a + 3)), .inl 0, .inr (some (a + 4)), .inr (some (a + 5)), .inl 0, .inr (some (a + 6)), .inr (some (a + 7))])) := by rcases h with rfl | rfl <;> rfl
theorem uX_Plan_1 {a : Nat} (h : kPlan a) : UX[a + 1]? = some (.inr (0, .inl 8, [])) := by rcases h with rfl | rfl <;> rfl
theorem uX_Plan_2 {a : Nat} (h : kPlan a) : UX[a + 2]? = some (.inr (0, .inl 8, [])) := by rcases h with rfl | rfl <;> rfl
theorem uX_Plan_3 {a : Nat} (h : kPlan a) : UX[a + 3]? = some (.inr (0, .inl 8, [])) := by rcases h with rfl | rfl <;> rfl
theorem uX_Plan_4 {a : Nat} (h : kPlan a) : UX[a + 4]? = some (.inr (0, .inl 24, [])) := by rcases h with rfl | rfl <;> rfl
theorem uX_Plan_5 {a : Nat} (h : kPlan a) : UX[a + 5]? = some (.inr (0, .inl 24, [])) := by rcases h with rfl | rfl <;> rfl
theorem uX_Plan_6 {a : Nat} (h : kPlan a) : UX[a + 6]? = some (.inr (0, .inl 96, [])) := by rcases h with rfl | rfl <;> rfl
theorem uX_Plan_7 {a : Nat} (h : kPlan a) : UX[a + 7]? = some (.inr (0, .inl 96, [])) := by rcases h with rfl | rfl <;> rfl
def kScript (a : Nat) : Prop := a = 23 ∨ a = 27 ∨ a = 31 ∨ a = 35 ∨ a = 39
theorem kScript_23 : kScript 23 := Or.inl rfl
theorem kScript_27 : kScript 27 := Or.inr (Or.inl rfl)
theorem kScript_31 : kScript 31 := Or.inr (Or.inr (Or.inl rfl))
theorem kScript_35 : kScript 35 := Or.inr (Or.inr (Or.inr (Or.inl rfl)))
theorem kScript_39 : kScript 39 := Or.inr (Or.inr (Or.inr (Or.inr (rfl))))
theorem uX_Script {a : Nat} (h : kScript a) : UX[a]? = some (.inl (6, [.inr (some (a + 1)), .inr (some (a + 2)), .inr (some (a + 3)), .inl 0])) := by rcases h with rfl | rfl | rfl | rfl | rfl <;> rfl
theorem uX_Script_1 {a : Nat} (h : kScript a) : UX[a + 1]? = some (.inr (0, .inl 16, [])) := by rcases h with rfl | rfl | rfl | rfl | rfl <;> rfl
theorem uX_Script_2 {a : Nat} (h : kScript a) : UX[a + 2]? = some (.inr (0, .inl 16, [])) := by rcases h with rfl | rfl | rfl | rfl | rfl <;> rfl
theorem uX_Script_3 {a : Nat} (h : kScript a) : UX[a + 3]? = some (.inr (0, .inl 16, [])) := by rcases h with rfl | rfl | rfl | rfl | rfl <;> rfl
def kStage (a : Nat) : Prop := a = 51 ∨ a = 63
theorem kStage_51 : kStage 51 := Or.inl rfl
theorem kStage_63 : kStage 63 := Or.inr (rfl)
theorem uX_Stage {a : Nat} (h : kStage a) : UX[a]? = some (.inl (7, [.inr (some 6), .inr (some 43), .inl 0, .inl 0, .inl 0, .inl 0, .inl 0, .inr (some (a + 1)), .inr (some (a + 2)), .inr (some (a + 3)), .inr (some (a + 4)), .inr (some (a + 5)), .inr (some (a + 6)), .inr (some (a + 7)), .inr (some (a + 8)), .inr (some (a + 9)), .inr (some (a + 10)), .inr (some (a + 11))])) := by rcases h with rfl | rfl <;> rfl
theorem uX_Stage_1 {a : Nat} (h : kStage a) : UX[a + 1]? = some (.inr (0, .inl 8, [])) := by rcases h with rfl | rfl <;> rfl
theorem uX_Stage_2 {a : Nat} (h : kStage a) : UX[a + 2]? = some (.inr (0, .inl 8, [])) := by rcases h with rfl | rfl <;> rfl
theorem uX_Stage_3 {a : Nat} (h : kStage a) : UX[a + 3]? = some (.inr (0, .inl 8, [])) := by rcases h with rfl | rfl <;> rfl
theorem uX_Stage_4 {a : Nat} (h : kStage a) : UX[a + 4]? = some (.inr (0, .inl 8, [])) := by rcases h with rfl | rfl <;> rfl
theorem uX_Stage_5 {a : Nat} (h : kStage a) : UX[a + 5]? = some (.inr (0, .inl 8, [])) := by rcases h with rfl | rfl <;> rfl
theorem uX_Stage_6 {a : Nat} (h : kStage a) : UX[a + 6]? = some (.inr (0, .inl 8, [])) := by rcases h with rfl | rfl <;> rfl
theorem uX_Stage_7 {a : Nat} (h : kStage a) : UX[a + 7]? = some (.inr (0, .inl 24, [])) := by rcases h with rfl | rfl <;> rfl
theorem uX_Stage_8 {a : Nat} (h : kStage a) : UX[a + 8]? = some (.inr (0, .inl 24, [])) := by rcases h with rfl | rfl <;> rfl
theorem uX_Stage_9 {a : Nat} (h : kStage a) : UX[a + 9]? = some (.inr (0, .inl 24, [])) := by rcases h with rfl | rfl <;> rfl
theorem uX_Stage_10 {a : Nat} (h : kStage a) : UX[a + 10]? = some (.inr (0, .inl 24, [])) := by rcases h with rfl | rfl <;> rfl
theorem uX_Stage_11 {a : Nat} (h : kStage a) : UX[a + 11]? = some (.inr (0, .inl 24, [])) := by rcases h with rfl | rfl <;> rfl
def kLog (a : Nat) : Prop := a = 79 ∨ a = 82
theorem kLog_79 : kLog 79 := Or.inl rfl
theorem kLog_82 : kLog 82 := Or.inr (rfl)
theorem uX_Log {a : Nat} (h : kLog a) : UX[a]? = some (.inl (1, [.inr (some (a + 1)), .inl 0])) := by rcases h with rfl | rfl <;> rfl
theorem uX_Log_1 {a : Nat} (h : kLog a) : UX[a + 1]? = some (.inr (0, .inl 300, [])) := by rcases h with rfl | rfl <;> rfl
theorem kScript_at {i : Int32} (h : qin i 4 = true) : kScript ([23, 27, 31, 35].getD (ix i) 0) := by
  simp only [qin, Bool.and_eq_true, decide_eq_true_eq] at h
  have h2 := h.2
  generalize hx : ix i = x at *
  have h3 : x < 4 := by rw [← hx]; exact h.2
  rcases (show x = 0 ∨ x = 1 ∨ x = 2 ∨ x = 3 by omega) with rfl | rfl | rfl | rfl
  · exact kScript_23
  · exact kScript_27
  · exact kScript_31
  · exact kScript_35
/-! what is only read: tables, texts -/
def stL : List (String × List Int32) := [("ITEM_LOWS", [4, 1, 4, 1, 1, 1, 1, 1, 0, 0, 0, 1]), ("ITEM_HIGHS", [10, 3, 16, 6, 9, 5, 99, 99, 99, 99, 7, 9]), ("ITEM_DEFAULTS", [8, 1, 8, 4, 3, 1, 20, 30, 0, 0, 0, 1]), ("CLAUSE_ITEMS", [0, 8, 10, 12]), ("STEP_FORMS", [1, 0, 3, 1, 2, 2, 3, 0, 2, 1, 0])]
def stLows (j : Nat) : Int32 := [4, 1, 4, 1, 1, 1, 1, 1, 0, 0, 0, 1].getD j 0
def stHighs (j : Nat) : Int32 := [10, 3, 16, 6, 9, 5, 99, 99, 99, 99, 7, 9].getD j 0
def stDefaults (j : Nat) : Int32 := [8, 1, 8, 4, 3, 1, 20, 30, 0, 0, 0, 1].getD j 0
def stClauses (j : Nat) : Int32 := [0, 8, 10, 12].getD j 0
def stForms (j : Nat) : Int32 := [1, 0, 3, 1, 2, 2, 3, 0, 2, 1, 0].getD j 0
def skL : List (Nat × String) := [(55, "stf"), (93, "ndlwmagikutb"), (116, "aswdmuclrpx")]
def skB : List (List Int32) := [[115, 116, 102], [110, 100, 108, 119, 109, 97, 103, 105, 107, 117, 116, 98], [97, 115, 119, 100, 109, 117, 99, 108, 114, 112, 120]]
/-- the class's tables -/
def ROt (ad : Nat → Nat) (A : Nat → Prop) (s : State) : Prop := ∀ (k : Nat) (nm : String) (xs : List Int32), stL[k]? = some (nm, xs) → va_Z "SpoolHall" nm "[I" (.ref (ad (200 + k))) A s s.heap ∧ va_T .int (ad (200 + k)) xs.length (fun j => .int (xs.getD j 0)) A s s.heap
/-- its texts -/
def ROs (ad : Nat → Nat) (A : Nat → Prop) (s : State) : Prop := (∀ (k i : Nat) (tx : String), skL[k]? = some (i, tx) → vk_R "SpoolHall$Reader" i tx (ad (210 + k)) s) ∧ vk_S 3 [3, 12, 11] skB (fun i => ad (210 + i)) (fun i => ad (220 + i)) A s s.heap ∧ va_Z "java/lang/String" "COMPACT_STRINGS" "Z" (.int 1) A s s.heap
def ROX : qRO := fun ad A s => ROt ad A s ∧ ROs ad A s
def ROM : qRO := fun _ _ _ => True
theorem qRokM : qRok ROM := ⟨fun _ _ _ _ _ _ => trivial, fun _ _ _ _ _ _ _ => trivial⟩
theorem qRokX : qRok ROX := by
  refine ⟨fun ad A B s hAB h => ?_, fun ad A s U hq hW h => ?_⟩
  · refine ⟨fun k nm xs hk => ?_, h.2.1, h.2.2.1.narrow hAB, h.2.2.2.narrow hAB⟩
    obtain ⟨h1, h2⟩ := h.1 k nm xs hk
    exact ⟨h1.narrow hAB, h2.narrow hAB⟩
  · refine ⟨fun k nm xs hk => ?_, fun k i tx hk => (h.2.1 k i tx hk).warm hW, (h.2.2.1.kept hq).moved hW.alike, (h.2.2.2.kept hq).moved hW.alike⟩
    obtain ⟨h1, h2⟩ := h.1 k nm xs hk
    exact ⟨(h1.kept hq).moved hW.alike, (h2.kept hq).moved hW.alike⟩
/-- arraycopy out of a table whose length is only known from below -/
theorem cpT {p : Program} {l : Launch} {e : Env} {R : Room} {s : State} {m : MethodId} {args : Array Value} {below : List Frame} {meth : Method} {c : Code} {H : Heap} {locs : List Loc} {cells slots : Nat} {Q : State → Prop} {D : va_G} {cl : List vw_C} {tys : List (ClassId × FieldType)} {ws : va_W} {A : Nat → Prop} {a pc : Nat} {ls : Array Slot} {rest : List Value} {cc : ByteArray} (hexec : p.tables.exec = Jvm.exec) (hb : c.code = cc) (hml : c.maxLocals = ls.size) {own : String} {index : Nat} (hown : s.vm.findClass own = some m.cls) (hlink : (Cond.methodLink own index arraycopyName).before args s = true) (hnat : (Cond.native arraycopyName).before args s = true) (hstat : (Cond.static arraycopyName).before args s = true) (hini : (Cond.initialized "java/lang/System").before args s = true)
    (hK : va_K D cl tys s) (hP : va_P D cl ws H) (hD : va_D A ws) (hS : va_S A s.heap H locs) {b0 n0 : Nat} {f : Nat → Int32} (hX : va_T .int b0 n0 (fun j => .int (f j)) A s s.heap) (q1 t1 : Nat) {c1 : ClassId} {n1 : Nat} {g : Nat → Int32} (ha1 : ws[q1]? = some (a, .inl (c1, n1, .inl g))) (ht1 : tys[t1]? = some (c1, .int))
    {sp dp n : Int32} (h1 : ¬ sp < 0) (h2 : ¬ dp < 0) (h3 : ¬ n < 0) (h4 : sp.toNatClampNeg + n.toNatClampNeg ≤ n0) (h5 : dp.toNatClampNeg + n.toNatClampNeg ≤ n1)
    (hframes : 1 ≤ R.frames) (hlocals : (rest.map fun v => v.category).sum + (nativeFrameWords "java/lang/System" "arraycopy" 5 + 11) ≤ R.locals) (hdg : decode cc pc = .ok (.invokestatic index, 3))
    (kk : ∀ (H1 : Heap) (locs1 : List Loc), va_P D cl (ws.set q1 (a, .inl (c1, n1, .inl (va_cpy f g sp.toNatClampNeg dp.toNatClampNeg n.toNatClampNeg)))) H1 → va_D A (ws.set q1 (a, .inl (c1, n1, .inl (va_cpy f g sp.toNatClampNeg dp.toNatClampNeg n.toNatClampNeg)))) → va_S A s.heap H1 locs1 → W p l e R s m args below meth c H1 locs1 cells slots Q (F0 m (pc + 3) ls rest)) : W p l e R s m args below meth c H locs cells slots Q (F0 m pc ls (.int n :: .int dp :: .ref a :: .int sp :: .ref b0 :: rest)) := by
  have nn : ∀ z : Int32, ¬ z < 0 → z.toInt = (z.toNatClampNeg : Int) := by
    intro z hz
    have hz0 : (0 : Int) ≤ z.toInt := by
      have := Int32.not_lt.mp hz
      simpa using Int32.le_iff_toInt_le.mp this
    show z.toInt = ((z.toInt.toNat : Nat) : Int)
    omega
  intro T hT X
  obtain ⟨scr, hs1, hs2, hs3, hs4, -, hs5, hbA⟩ := hX
  have hc0 : H[b0]? = some scr := by rw [hS.2.1 b0 (Array.getElem?_eq_some_iff.mp hs1).1 hbA]; exact hs1
  have hc1 : H[a]? = some (vp_cell c1 (n1, .inl g)) := hP q1 _ ha1
  obtain ⟨hs6, k0, hk0, cm0, hkk0⟩ := hs2
  obtain ⟨-, k1, hk1, cm1, hkk1⟩ := (hK.2 t1 _ ht1).1 n1 (fun j => .int (g j))
  obtain ⟨vm', X', step⟩ := X.arraycopy hexec hown hlink hnat hstat hini (src := b0) (dst := a) (cs := scr) (cd := vp_cell c1 (n1, .inl g)) (srcPos := sp) (destPos := dp) (n := n) (by rw [hT]; exact hc0) (by rw [hT]; exact hc1)
    hs6 (fun _ h => by cases h) hs3 (fun h => by cases h) hk0 hk1 hkk0 hkk1 (by simp [refKind]) h1 h2 h3
    (by rw [nn sp h1, nn n h3]; omega)
    (by rw [nn dp h2, nn n h3]; show ¬ _ > ((arrV c1 n1 (fun j => .int (g j))).slots.size : Int); rw [arrV_size]; omega)
    (fun vm₁ _ i hi => by
      have e : scr.slots.getD (sp.toNatClampNeg + i) .null = .int (f (sp.toNatClampNeg + i)) := by
        rw [Array.getD_eq_getD_getElem?, hs5 _ (by omega)]
        rfl
      rw [e]
      exact ⟨rfl, trivial⟩)
    (g := F0 m pc ls (.int n :: .int dp :: .ref a :: .int sp :: .ref b0 :: rest)) rfl (by rw [hml]) (rest := rest) rfl (by rw [hb]; exact hdg) hframes (by show 2 * 0 + _ + _ ≤ _; omega)
  have e1 : copied scr (vp_cell c1 (n1, .inl g)) sp dp n = vp_cell c1 (n1, .inl (va_cpy f g sp.toNatClampNeg dp.toNatClampNeg n.toNatClampNeg)) := va_copiedX (fun z => .int z) scr c1 f g hs5 h4
  rw [e1] at X' step
  generalize hce : vp_cell c1 (n1, .inl (va_cpy f g sp.toNatClampNeg dp.toNatClampNeg n.toNatClampNeg)) = ce at X' step e1
  have hl : a < H.size := (Array.getElem?_eq_some_iff.mp hc1).1
  have hheap : ((T.setVm vm').setCell a ce).heap = H.setIfInBounds a ce := by rw [← hT]; rfl
  have oq : ∀ q : Nat, q ≠ a → (H.setIfInBounds a ce)[q]? = H[q]? := fun q hq => by simp [Array.getElem?_setIfInBounds, Ne.symm hq]
  obtain ⟨t, a1, b1⟩ := kk (H.setIfInBounds a ce) _ (hP.set hD ha1 (show (H.setIfInBounds a ce)[a]? = some _ by rw [hce]; simp [Array.getElem?_setIfInBounds, hl]) oq) (hD.set ha1) ⟨by simp; exact hS.1, fun q g1 g2 => by
      rw [oq q (fun e => g2 (by rw [e]; exact hD.2 q1 _ ha1))]
      exact hS.2.1 q g1 g2, fun q hq => by
      rcases List.mem_append.mp hq with h | h
      · exact hS.2.2 q h
      · obtain ⟨z, -, hz⟩ := List.mem_map.mp h
        rw [← hz]
        exact hD.2 q1 _ ha1⟩ _ hheap X'
  exact ⟨t, step t a1, b1⟩
section QU
variable {ρ : Type} {l : Launch} {R : Room} {cc : ByteArray} {nL : Nat} {ret : Option FieldType} {own : String} {E : ρ → Option Value × qH} {pc pc' : Nat} {ls : List (Option Value)} {st : List Value} {h : qH} {r : Option ρ}
def qGst (own : String) (idx k : Nat) : Prop := ∃ (nm : String) (xs : List Int32), stL[k]? = some (nm, xs) ∧ (Cond.fieldLink own idx "SpoolHall" nm "[I" ∈ qTT ∨ ∃ host : String, Cond.fieldLinkNest own idx "SpoolHall" nm "[I" host ∈ qNT)
theorem p_gst {idx k : Nat} (hg : qGst own idx k) (hd : decode cc pc = .ok (.getstatic idx, 3)) (hp : pc + 3 = pc') (kk : PW UX ROX l R cc nL ret own E pc' ls (.ref (200 + k) :: st) h r) : PW UX ROX l R cc nL ret own E pc ls st h r := by
  subst hp
  intro z hz p e s m args below meth c D cs ad A H locs cells slots la hC hW hL
  have w := kk z hz p e s m args below meth c D cs ad A H locs cells slots la hC hW hL
  obtain ⟨nm, xs, hk, hlk⟩ := hg
  obtain ⟨h1, -⟩ := hW.2.2.2.2.2.1.1 k nm xs hk
  rcases hlk with hlk | ⟨host, hlk⟩
  · exact va_gets hC.1 hC.2.1 h1 hW.2.2.2.1 hC.2.2.2.2.1 (hC.2.2.2.2.2.1 _ hlk) (fun _ h9 => h9) hd w
  · exact va_getsN hC.1 hC.2.1 h1 hW.2.2.2.1 hC.2.2.2.2.1 (va_Nw.use rfl (hC.2.2.2.2.2.2.1 _ hlk)) (fun _ h9 => h9) hd w
def qSt (k n : Nat) (f : Nat → Int32) : Prop := ∃ (nm : String) (xs : List Int32), stL[k]? = some (nm, xs) ∧ xs.length = n ∧ f = fun j => xs.getD j 0
theorem p_sald {k n : Nat} {f : Nat → Int32} {i : Int32} (hs : qSt k n f) (hd : decode cc pc = .ok (.iaload, 1)) (hp : pc + 1 = pc') (kk : qin i n = true → PW UX ROX l R cc nL ret own E pc' ls (.int (f (ix i)) :: st) h r) : PW UX ROX l R cc nL ret own E pc ls (.int i :: .ref (200 + k) :: st) h (qg (qin i n) r) := by
  subst hp
  intro z hz p e s m args below meth c D cs ad A H locs cells slots la hC hW hL
  obtain ⟨h1, h2⟩ := qg_some hz
  obtain ⟨nm, xs, hk, rfl, rfl⟩ := hs
  obtain ⟨-, g2⟩ := hW.2.2.2.2.2.1.1 k nm xs hk
  exact va_ti hC.1 hC.2.1 g2 hW.2.2.2.1 (qin_vp h1) rfl hd (kk h1 z h2 p e s m args below meth c D cs ad A H locs cells slots la hC hW hL)
theorem p_copyS {idx k n0 a : Nat} {f : Nat → Int32} {L1 : Nat ⊕ Nat} {rs1 : List Nat} {sp dp n : Int32} (hU : qok UX) (hm : qCpy own idx) (hs0 : qSt k n0 f) (hs1 : UX[a]? = some (.inr (0, L1, rs1))) (hR : 1 ≤ R.frames ∧ (st.map fun v => v.category).sum + (nativeFrameWords "java/lang/System" "arraycopy" 5 + 11) ≤ R.locals) (hd : decode cc pc = .ok (.invokestatic idx, 3)) (hp : pc + 3 = pc')
    (kk : PW UX ROX l R cc nL ret own E pc' ls st (qrow h a (va_cpy f (h.1 a) (ix sp) (ix dp) (ix n))) r) : PW UX ROX l R cc nL ret own E pc ls (.int n :: .int dp :: .ref a :: .int sp :: .ref (200 + k) :: st) h (qg (qcp sp dp n n0 (qlen h L1)) r) := by
  subst hp
  intro z hz p e s m args below meth c D cs ad A H locs cells slots la hC hW hL
  obtain ⟨h1, h2⟩ := qg_some hz
  simp only [qcp, Bool.and_eq_true, decide_eq_true_eq] at h1
  obtain ⟨⟨⟨⟨g1, g2⟩, g3⟩, g4⟩, g5⟩ := h1
  obtain ⟨nm, xs, hk, rfl, rfl⟩ := hs0
  obtain ⟨-, e2⟩ := hW.2.2.2.2.2.1.1 k nm xs hk
  have hts := hC.2.2.2.2.2.1
  refine cpT hC.1 hC.2.1 (hC.2.2.1.trans hL.1.symm) hC.2.2.2.2.1 (hts _ hm.1) (hts _ hm.2.1) (hts _ hm.2.2.1) (hts _ hm.2.2.2) hW.2.2.1 hW.1 hW.2.1 hW.2.2.2.1 e2 a 0 (qpic_arr hs1 (by decide)) rfl g1 g2 g3 g4 g5 hR.1 (by rw [qv_cats]; exact hR.2) hd fun H1 locs1 f1 f2 f3 => ?_
  rw [← qcell_arr (cs := cs) (ad := ad) (h := h) hU hs1 (by decide), qpic_row hU hs1] at f1 f2
  exact kk z h2 p e s m args below meth c D cs ad A H1 locs1 cells slots la hC ⟨f1, f2, hW.2.2.1, f3, hW.2.2.2.2⟩ hL
def qKs (own : String) (idx k : Nat) : Prop := own = "SpoolHall$Reader" ∧ ∃ tx : String, skL[k]? = some (idx, tx)
theorem p_ldcS {idx k q : Nat} (hg : qKs own idx k) (hq : q = 210 + k) (hd : decode cc pc = .ok (.ldc idx, 2)) (hp : pc + 2 = pc') (kk : PW UX ROX l R cc nL ret own E pc' ls (.ref q :: st) h r) : PW UX ROX l R cc nL ret own E pc ls st h r := by
  subst hp
  subst hq
  intro z hz p e s m args below meth c D cs ad A H locs cells slots la hC hW hL
  have w := kk z hz p e s m args below meth c D cs ad A H locs cells slots la hC hW hL
  obtain ⟨rfl, tx, hk⟩ := hg
  exact va_ldcS hC.1 hC.2.1 hC.2.2.2.2.1 (hW.2.2.2.2.2.1.2.1 k idx tx hk) hd w
theorem p_sv {U : List qS} {RO : qRO} {pcJ : Nat} {stJ : List Value} (k1 : PW U RO l R cc nL ret own E pcJ ls stJ h r) (k2 : PW U RO l R cc nL ret own E pcJ ls stJ h r → PW U RO l R cc nL ret own E pc ls st h r) : PW U RO l R cc nL ret own E pc ls st h r := k2 k1
end QU
