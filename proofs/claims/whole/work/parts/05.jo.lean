def SH : List Shp := [.inr (11, [4, 5, 34, 40, 42, 46, 64, 114, 117, 124, 125, 126, 2, 0, 0]), .inl (1, 1600), .inr (5, [6, 8, 9, 2, 0, 0, 0]), .inr (9, [2, 0, 0, 0, 0, 0]), .inl (1, 0), .inl (0, 6), .inl (0, 6), .inr (10, [11, 12, 13, 14, 15, 16, 17, 18, 19, 24, 29, 0, 0, 0, 0]), .inl (0, 6), .inl (0, 6), .inl (0, 6), .inl (0, 6), .inl (0, 6), .inl (0, 6), .inl (0, 6), .inl (0, 36), .inr (2, [20, 21, 22, 23, 0, 0, 0, 0]), .inl (0, 270), .inl (0, 270), .inl (0, 32), .inl (0, 30), .inr (2, [25, 26, 27, 28, 0, 0, 0, 0]), .inl (0, 270), .inl (0, 270), .inl (0, 32), .inl (0, 30), .inr (2, [30, 31, 32, 33, 0, 0, 0, 0]), .inl (0, 270), .inl (0, 270), .inl (0, 32), .inl (0, 30), .inr (7, [35, 36, 37, 38, 39, 0, 0, 0]), .inl (0, 6), .inl (0, 6), .inl (0, 6), .inl (0, 6), .inl (0, 36), .inr (3, [41, 0, 0]), .inl (0, 2583), .inr (0, [43, 44, 45]), .inl (0, 7), .inl (0, 6), .inl (0, 6), .inr (1, [47, 51, 57, 63, 0, 0]), .inr (0, [48, 49, 50]), .inl (0, 7), .inl (0, 6), .inl (0, 6), .inr (7, [52, 53, 54, 55, 56, 0, 0, 0]), .inl (0, 6), .inl (0, 6), .inl (0, 6), .inl (0, 6), .inl (0, 36), .inr (7, [58, 59, 60, 61, 62, 0, 0, 0]), .inl (0, 6), .inl (0, 6), .inl (0, 6), .inl (0, 6), .inl (0, 36), .inl (0, 60), .inr (4, [65, 69, 70, 0, 0, 71, 0]), .inr (0, [66, 67, 68]), .inl (0, 7), .inl (0, 6), .inl (0, 6), .inl (4, 7), .inl (0, 6), .inl (0, 6), .inr (7, [73, 74, 75, 76, 77, 0, 0, 0]), .inl (0, 6), .inl (0, 6), .inl (0, 6), .inl (0, 6), .inl (0, 36), .inr (7, [79, 80, 81, 82, 83, 0, 0, 0]), .inl (0, 6), .inl (0, 6), .inl (0, 6), .inl (0, 6), .inl (0, 36), .inr (7, [85, 86, 87, 88, 89, 0, 0, 0]), .inl (0, 6), .inl (0, 6), .inl (0, 6), .inl (0, 6), .inl (0, 36), .inr (7, [91, 92, 93, 94, 95, 0, 0, 0]), .inl (0, 6), .inl (0, 6), .inl (0, 6), .inl (0, 6), .inl (0, 36), .inr (7, [97, 98, 99, 100, 101, 0, 0, 0]), .inl (0, 6), .inl (0, 6), .inl (0, 6), .inl (0, 6), .inl (0, 36), .inr (7, [103, 104, 105, 106, 107, 0, 0, 0]), .inl (0, 6), .inl (0, 6), .inl (0, 6), .inl (0, 6), .inl (0, 36), .inr (7, [109, 110, 111, 112, 113, 0, 0, 0]), .inl (0, 6), .inl (0, 6), .inl (0, 6), .inl (0, 6), .inl (0, 36), .inr (6, [115, 0, 116, 0, 0, 0]), .inl (0, 6), .inl (0, 6), .inr (8, [118, 119, 120, 121, 122, 123, 0, 0, 0, 0]), .inl (0, 30), .inl (0, 30), .inl (0, 30), .inl (0, 30), .inl (0, 30), .inl (0, 144), .inl (0, 189), .inl (2, 3), .inl (0, 6), .inr (10, [128, 129, 130, 131, 132, 133, 134, 135, 136, 141, 146, 0, 0, 0, 0]), .inl (0, 6), .inl (0, 6), .inl (0, 6), .inl (0, 6), .inl (0, 6), .inl (0, 6), .inl (0, 6), .inl (0, 36), .inr (2, [137, 138, 139, 140, 0, 0, 0, 0]), .inl (0, 270), .inl (0, 270), .inl (0, 32), .inl (0, 30), .inr (2, [142, 143, 144, 145, 0, 0, 0, 0]), .inl (0, 270), .inl (0, 270), .inl (0, 32), .inl (0, 30), .inr (2, [147, 148, 149, 150, 0, 0, 0, 0]), .inl (0, 270), .inl (0, 270), .inl (0, 32), .inl (0, 30), .inr (12, [1004, 0, 0, 0, 0, 0, 0, 0, 0, 1, 1005, 1006, 1007, 1008, 1009, 1010, 1011, 1012, 1013, 0, 0, 0, 0, 0, 0, 1014, 1015, 1016, 1017, 1018, 1019, 1020, 1021, 1022, 1023, 1024, 1025, 1026, 1027, 1028, 1029, 1030, 0, 0, 0, 0, 0, 0, 0, 0, 0, 0, 0, 0, 0, 1031, 1032, 1033, 1034, 1035, 1036, 1037, 0, 0, 1038, 1039, 1040, 1041, 1042, 0, 0, 1043, 1044, 1045, 0, 0, 1046, 1047, 0, 0, 0, 1048, 1049, 1050, 1051, 1052, 0, 0, 1053, 1054]), .inl (0, 1600), .inl (3, 6), .inl (0, 960), .inl (0, 960), .inl (0, 3), .inl (0, 960), .inl (0, 960), .inl (0, 3), .inl (0, 160), .inl (0, 64), .inl (0, 7), .inl (0, 6), .inl (0, 6), .inl (0, 6), .inl (0, 6), .inl (0, 6), .inl (0, 6), .inl (0, 6), .inl (0, 36), .inl (0, 6), .inl (0, 6), .inl (0, 6), .inl (0, 6), .inl (0, 6), .inl (0, 6), .inl (0, 6), .inl (0, 36), .inl (0, 64), .inl (0, 6), .inl (0, 6), .inl (0, 6), .inl (0, 6), .inl (0, 36), .inl (0, 6), .inl (2, 6), .inl (2, 6), .inl (2, 6), .inl (0, 6), .inl (0, 2560), .inl (0, 6), .inl (0, 6), .inl (0, 8), .inl (0, 8), .inl (0, 8), .inl (0, 30), .inl (0, 30), .inl (0, 30), .inl (0, 30), .inl (0, 30), .inl (2, 3), .inl (0, 192)]
def isTown (o : Nat) : Prop := o = 7 ∨ o = 124
def isState (o : Nat) : Prop := o = 31 ∨ o = 48 ∨ o = 54 ∨ o = 69 ∨ o = 75 ∨ o = 81 ∨ o = 87 ∨ o = 93 ∨ o = 99 ∨ o = 105
def isForm (o : Nat) : Prop := o = 16 ∨ o = 21 ∨ o = 26 ∨ o = 133 ∨ o = 138 ∨ o = 143
def isClock (o : Nat) : Prop := o = 39 ∨ o = 44 ∨ o = 62
theorem shTown {o : Nat} (h : isTown o) : ∃ fk, shat SH o = some (.inr (10, fk)) := by
  rcases h with rfl | rfl <;> exact ⟨_, rfl⟩
theorem fkTown_door {o : Nat} (h : isTown o) : fkind SH o 0 = some (10, o + 1 + 3) := by
  rcases h with rfl | rfl <;> rfl
theorem akTown_door {o : Nat} (h : isTown o) : akind SH (o + 1) = some (0, 6) := by
  rcases h with rfl | rfl <;> rfl
theorem fkTown_from {o : Nat} (h : isTown o) : fkind SH o 1 = some (10, o + 2 + 3) := by
  rcases h with rfl | rfl <;> rfl
theorem akTown_from {o : Nat} (h : isTown o) : akind SH (o + 2) = some (0, 6) := by
  rcases h with rfl | rfl <;> rfl
theorem fkTown_to {o : Nat} (h : isTown o) : fkind SH o 2 = some (10, o + 3 + 3) := by
  rcases h with rfl | rfl <;> rfl
theorem akTown_to {o : Nat} (h : isTown o) : akind SH (o + 3) = some (0, 6) := by
  rcases h with rfl | rfl <;> rfl
theorem fkTown_chairs {o : Nat} (h : isTown o) : fkind SH o 3 = some (10, o + 4 + 3) := by
  rcases h with rfl | rfl <;> rfl
theorem akTown_chairs {o : Nat} (h : isTown o) : akind SH (o + 4) = some (0, 6) := by
  rcases h with rfl | rfl <;> rfl
theorem fkTown_rest {o : Nat} (h : isTown o) : fkind SH o 4 = some (10, o + 5 + 3) := by
  rcases h with rfl | rfl <;> rfl
theorem akTown_rest {o : Nat} (h : isTown o) : akind SH (o + 5) = some (0, 6) := by
  rcases h with rfl | rfl <;> rfl
theorem fkTown_price {o : Nat} (h : isTown o) : fkind SH o 5 = some (10, o + 6 + 3) := by
  rcases h with rfl | rfl <;> rfl
theorem akTown_price {o : Nat} (h : isTown o) : akind SH (o + 6) = some (0, 6) := by
  rcases h with rfl | rfl <;> rfl
theorem fkTown_coin {o : Nat} (h : isTown o) : fkind SH o 6 = some (10, o + 7 + 3) := by
  rcases h with rfl | rfl <;> rfl
theorem akTown_coin {o : Nat} (h : isTown o) : akind SH (o + 7) = some (0, 6) := by
  rcases h with rfl | rfl <;> rfl
theorem fkTown_debt {o : Nat} (h : isTown o) : fkind SH o 7 = some (10, o + 8 + 3) := by
  rcases h with rfl | rfl <;> rfl
theorem akTown_debt {o : Nat} (h : isTown o) : akind SH (o + 8) = some (0, 36) := by
  rcases h with rfl | rfl <;> rfl
theorem fkTown_law {o : Nat} (h : isTown o) : fkind SH o 8 = some (10, o + 9 + 3) := by
  rcases h with rfl | rfl <;> rfl
theorem inTown_law {o : Nat} (h : isTown o) : isForm (o + 9) := by
  unfold isForm
  rcases h with rfl | rfl <;> decide
theorem fkTown_interest {o : Nat} (h : isTown o) : fkind SH o 9 = some (10, o + 14 + 3) := by
  rcases h with rfl | rfl <;> rfl
theorem inTown_interest {o : Nat} (h : isTown o) : isForm (o + 14) := by
  unfold isForm
  rcases h with rfl | rfl <;> decide
theorem fkTown_rain {o : Nat} (h : isTown o) : fkind SH o 10 = some (10, o + 19 + 3) := by
  rcases h with rfl | rfl <;> rfl
theorem inTown_rain {o : Nat} (h : isTown o) : isForm (o + 19) := by
  unfold isForm
  rcases h with rfl | rfl <;> decide
theorem fkTown_day {o : Nat} (h : isTown o) : fkind SH o 11 = some (10, 0) := by
  rcases h with rfl | rfl <;> rfl
theorem fkTown_people {o : Nat} (h : isTown o) : fkind SH o 12 = some (10, 0) := by
  rcases h with rfl | rfl <;> rfl
theorem fkTown_debts {o : Nat} (h : isTown o) : fkind SH o 13 = some (10, 0) := by
  rcases h with rfl | rfl <;> rfl
theorem fkTown_units {o : Nat} (h : isTown o) : fkind SH o 14 = some (10, 0) := by
  rcases h with rfl | rfl <;> rfl
theorem shState {o : Nat} (h : isState o) : ∃ fk, shat SH o = some (.inr (7, fk)) := by
  rcases h with rfl | rfl | rfl | rfl | rfl | rfl | rfl | rfl | rfl | rfl <;> exact ⟨_, rfl⟩
theorem fkState_place {o : Nat} (h : isState o) : fkind SH o 0 = some (7, o + 1 + 3) := by
  rcases h with rfl | rfl | rfl | rfl | rfl | rfl | rfl | rfl | rfl | rfl <;> rfl
theorem akState_place {o : Nat} (h : isState o) : akind SH (o + 1) = some (0, 6) := by
  rcases h with rfl | rfl | rfl | rfl | rfl | rfl | rfl | rfl | rfl | rfl <;> rfl
theorem fkState_aim {o : Nat} (h : isState o) : fkind SH o 1 = some (7, o + 2 + 3) := by
  rcases h with rfl | rfl | rfl | rfl | rfl | rfl | rfl | rfl | rfl | rfl <;> rfl
theorem akState_aim {o : Nat} (h : isState o) : akind SH (o + 2) = some (0, 6) := by
  rcases h with rfl | rfl | rfl | rfl | rfl | rfl | rfl | rfl | rfl | rfl <;> rfl
theorem fkState_stand {o : Nat} (h : isState o) : fkind SH o 2 = some (7, o + 3 + 3) := by
  rcases h with rfl | rfl | rfl | rfl | rfl | rfl | rfl | rfl | rfl | rfl <;> rfl
theorem akState_stand {o : Nat} (h : isState o) : akind SH (o + 3) = some (0, 6) := by
  rcases h with rfl | rfl | rfl | rfl | rfl | rfl | rfl | rfl | rfl | rfl <;> rfl
theorem fkState_coin {o : Nat} (h : isState o) : fkind SH o 3 = some (7, o + 4 + 3) := by
  rcases h with rfl | rfl | rfl | rfl | rfl | rfl | rfl | rfl | rfl | rfl <;> rfl
theorem akState_coin {o : Nat} (h : isState o) : akind SH (o + 4) = some (0, 6) := by
  rcases h with rfl | rfl | rfl | rfl | rfl | rfl | rfl | rfl | rfl | rfl <;> rfl
theorem fkState_debt {o : Nat} (h : isState o) : fkind SH o 4 = some (7, o + 5 + 3) := by
  rcases h with rfl | rfl | rfl | rfl | rfl | rfl | rfl | rfl | rfl | rfl <;> rfl
theorem akState_debt {o : Nat} (h : isState o) : akind SH (o + 5) = some (0, 36) := by
  rcases h with rfl | rfl | rfl | rfl | rfl | rfl | rfl | rfl | rfl | rfl <;> rfl
theorem fkState_date {o : Nat} (h : isState o) : fkind SH o 5 = some (7, 0) := by
  rcases h with rfl | rfl | rfl | rfl | rfl | rfl | rfl | rfl | rfl | rfl <;> rfl
theorem fkState_hour {o : Nat} (h : isState o) : fkind SH o 6 = some (7, 0) := by
  rcases h with rfl | rfl | rfl | rfl | rfl | rfl | rfl | rfl | rfl | rfl <;> rfl
theorem fkState_past {o : Nat} (h : isState o) : fkind SH o 7 = some (7, 0) := by
  rcases h with rfl | rfl | rfl | rfl | rfl | rfl | rfl | rfl | rfl | rfl <;> rfl
theorem shForm {o : Nat} (h : isForm o) : ∃ fk, shat SH o = some (.inr (2, fk)) := by
  rcases h with rfl | rfl | rfl | rfl | rfl | rfl <;> exact ⟨_, rfl⟩
theorem fkForm_operation {o : Nat} (h : isForm o) : fkind SH o 0 = some (2, o + 1 + 3) := by
  rcases h with rfl | rfl | rfl | rfl | rfl | rfl <;> rfl
theorem akForm_operation {o : Nat} (h : isForm o) : akind SH (o + 1) = some (0, 270) := by
  rcases h with rfl | rfl | rfl | rfl | rfl | rfl <;> rfl
theorem fkForm_operand {o : Nat} (h : isForm o) : fkind SH o 1 = some (2, o + 2 + 3) := by
  rcases h with rfl | rfl | rfl | rfl | rfl | rfl <;> rfl
theorem akForm_operand {o : Nat} (h : isForm o) : akind SH (o + 2) = some (0, 270) := by
  rcases h with rfl | rfl | rfl | rfl | rfl | rfl <;> rfl
theorem fkForm_stack {o : Nat} (h : isForm o) : fkind SH o 2 = some (2, o + 3 + 3) := by
  rcases h with rfl | rfl | rfl | rfl | rfl | rfl <;> rfl
theorem akForm_stack {o : Nat} (h : isForm o) : akind SH (o + 3) = some (0, 32) := by
  rcases h with rfl | rfl | rfl | rfl | rfl | rfl <;> rfl
theorem fkForm_numberAt {o : Nat} (h : isForm o) : fkind SH o 3 = some (2, o + 4 + 3) := by
  rcases h with rfl | rfl | rfl | rfl | rfl | rfl <;> rfl
theorem akForm_numberAt {o : Nat} (h : isForm o) : akind SH (o + 4) = some (0, 30) := by
  rcases h with rfl | rfl | rfl | rfl | rfl | rfl <;> rfl
theorem fkForm_length {o : Nat} (h : isForm o) : fkind SH o 4 = some (2, 0) := by
  rcases h with rfl | rfl | rfl | rfl | rfl | rfl <;> rfl
theorem fkForm_isTold {o : Nat} (h : isForm o) : fkind SH o 5 = some (2, 0) := by
  rcases h with rfl | rfl | rfl | rfl | rfl | rfl <;> rfl
theorem fkForm_asksWet {o : Nat} (h : isForm o) : fkind SH o 6 = some (2, 0) := by
  rcases h with rfl | rfl | rfl | rfl | rfl | rfl <;> rfl
theorem fkForm_numbers {o : Nat} (h : isForm o) : fkind SH o 7 = some (2, 0) := by
  rcases h with rfl | rfl | rfl | rfl | rfl | rfl <;> rfl
theorem shClock {o : Nat} (h : isClock o) : ∃ fk, shat SH o = some (.inr (0, fk)) := by
  rcases h with rfl | rfl | rfl <;> exact ⟨_, rfl⟩
theorem fkClock_given {o : Nat} (h : isClock o) : fkind SH o 0 = some (0, o + 1 + 3) := by
  rcases h with rfl | rfl | rfl <;> rfl
theorem akClock_given {o : Nat} (h : isClock o) : akind SH (o + 1) = some (0, 7) := by
  rcases h with rfl | rfl | rfl <;> rfl
theorem fkClock_crowd {o : Nat} (h : isClock o) : fkind SH o 1 = some (0, o + 2 + 3) := by
  rcases h with rfl | rfl | rfl <;> rfl
theorem akClock_crowd {o : Nat} (h : isClock o) : akind SH (o + 2) = some (0, 6) := by
  rcases h with rfl | rfl | rfl <;> rfl
theorem fkClock_paid {o : Nat} (h : isClock o) : fkind SH o 2 = some (0, o + 3 + 3) := by
  rcases h with rfl | rfl | rfl <;> rfl
theorem akClock_paid {o : Nat} (h : isClock o) : akind SH (o + 3) = some (0, 6) := by
  rcases h with rfl | rfl | rfl <;> rfl
theorem shX11 : ∃ fk, shat SH 0 = some (.inr (11, fk)) := ⟨_, rfl⟩
theorem fkX11_tape : fkind SH 0 0 = some (11, 4) := rfl
theorem akX11_tape : akind SH 1 = some (1, 1600) := rfl
theorem fkX11_reader : fkind SH 0 1 = some (11, 5) := rfl
theorem fkX11_now : fkind SH 0 2 = some (11, 34) := rfl
theorem fkX11_history : fkind SH 0 3 = some (11, 40) := rfl
theorem fkX11_clock : fkind SH 0 4 = some (11, 42) := rfl
theorem fkX11_foresight : fkind SH 0 5 = some (11, 46) := rfl
theorem fkX11_planner : fkind SH 0 6 = some (11, 64) := rfl
theorem fkX11_ringFinder : fkind SH 0 7 = some (11, 114) := rfl
theorem fkX11_steps : fkind SH 0 8 = some (11, 117) := rfl
theorem fkX11_boxRows : fkind SH 0 9 = some (11, 124) := rfl
theorem akX11_boxRows : akind SH 121 = some (0, 189) := rfl
theorem fkX11_boxFilled : fkind SH 0 10 = some (11, 125) := rfl
theorem akX11_boxFilled : akind SH 122 = some (2, 3) := rfl
theorem fkX11_lying : fkind SH 0 11 = some (11, 126) := rfl
theorem akX11_lying : akind SH 123 = some (0, 6) := rfl
theorem fkX11_told : fkind SH 0 12 = some (11, 2) := rfl
theorem fkX11_tapeLength : fkind SH 0 13 = some (11, 0) := rfl
theorem fkX11_lyingCount : fkind SH 0 14 = some (11, 0) := rfl
theorem shX5 : ∃ fk, shat SH 2 = some (.inr (5, fk)) := ⟨_, rfl⟩
theorem fkX5_tokens : fkind SH 2 0 = some (5, 6) := rfl
theorem fkX5_nameStart : fkind SH 2 1 = some (5, 8) := rfl
theorem akX5_nameStart : akind SH 5 = some (0, 6) := rfl
theorem fkX5_nameEnd : fkind SH 2 2 = some (5, 9) := rfl
theorem akX5_nameEnd : akind SH 6 = some (0, 6) := rfl
theorem fkX5_town : fkind SH 2 3 = some (5, 2) := rfl
theorem fkX5_unitsOfFormula : fkind SH 2 4 = some (5, 0) := rfl
theorem fkX5_fault : fkind SH 2 5 = some (5, 0) := rfl
theorem fkX5_faultPlace : fkind SH 2 6 = some (5, 0) := rfl
theorem shX9 : ∃ fk, shat SH 3 = some (.inr (9, fk)) := ⟨_, rfl⟩
theorem fkX9_text : fkind SH 3 0 = some (9, 2) := rfl
theorem fkX9_textLength : fkind SH 3 1 = some (9, 0) := rfl
theorem fkX9_kind : fkind SH 3 2 = some (9, 0) := rfl
theorem fkX9_start : fkind SH 3 3 = some (9, 0) := rfl
theorem fkX9_end : fkind SH 3 4 = some (9, 0) := rfl
theorem fkX9_number : fkind SH 3 5 = some (9, 0) := rfl
theorem shX3 : ∃ fk, shat SH 37 = some (.inr (3, fk)) := ⟨_, rfl⟩
theorem fkX3_rows : fkind SH 37 0 = some (3, 41) := rfl
theorem akX3_rows : akind SH 38 = some (0, 2583) := rfl
theorem fkX3_done : fkind SH 37 1 = some (3, 0) := rfl
theorem fkX3_kept : fkind SH 37 2 = some (3, 0) := rfl
theorem shX1 : ∃ fk, shat SH 43 = some (.inr (1, fk)) := ⟨_, rfl⟩
theorem fkX1_clock : fkind SH 43 0 = some (1, 47) := rfl
theorem fkX1_trial : fkind SH 43 1 = some (1, 51) := rfl
theorem fkX1_start : fkind SH 43 2 = some (1, 57) := rfl
theorem fkX1_rolls : fkind SH 43 3 = some (1, 63) := rfl
theorem akX1_rolls : akind SH 60 = some (0, 60) := rfl
theorem fkX1_found : fkind SH 43 4 = some (1, 0) := rfl
theorem fkX1_foundBy : fkind SH 43 5 = some (1, 0) := rfl
theorem shX4 : ∃ fk, shat SH 61 = some (.inr (4, fk)) := ⟨_, rfl⟩
theorem fkX4_clock : fkind SH 61 0 = some (4, 65) := rfl
theorem fkX4_behind : fkind SH 61 1 = some (4, 69) := rfl
theorem akX4_behind : akind SH 66 = some (4, 7) := rfl
theorem fkX4_order : fkind SH 61 2 = some (4, 70) := rfl
theorem akX4_order : akind SH 67 = some (0, 6) := rfl
theorem fkX4_person : fkind SH 61 3 = some (4, 0) := rfl
theorem fkX4_soonest : fkind SH 61 4 = some (4, 0) := rfl
theorem fkX4_best : fkind SH 61 5 = some (4, 71) := rfl
theorem akX4_best : akind SH 68 = some (0, 6) := rfl
theorem fkX4_creditors : fkind SH 61 6 = some (4, 0) := rfl
theorem shX6 : ∃ fk, shat SH 111 = some (.inr (6, fk)) := ⟨_, rfl⟩
theorem fkX6_row : fkind SH 111 0 = some (6, 115) := rfl
theorem akX6_row : akind SH 112 = some (0, 6) := rfl
theorem fkX6_bestLeast : fkind SH 111 1 = some (6, 0) := rfl
theorem fkX6_best : fkind SH 111 2 = some (6, 116) := rfl
theorem akX6_best : akind SH 113 = some (0, 6) := rfl
theorem fkX6_bestLength : fkind SH 111 3 = some (6, 0) := rfl
theorem fkX6_frees : fkind SH 111 4 = some (6, 0) := rfl
theorem fkX6_count : fkind SH 111 5 = some (6, 0) := rfl
theorem shX8 : ∃ fk, shat SH 114 = some (.inr (8, fk)) := ⟨_, rfl⟩
theorem fkX8_person : fkind SH 114 0 = some (8, 118) := rfl
theorem akX8_person : akind SH 115 = some (0, 30) := rfl
theorem fkX8_hour : fkind SH 114 1 = some (8, 119) := rfl
theorem akX8_hour : akind SH 116 = some (0, 30) := rfl
theorem fkX8_place : fkind SH 114 2 = some (8, 120) := rfl
theorem akX8_place : akind SH 117 = some (0, 30) := rfl
theorem fkX8_toldAt : fkind SH 114 3 = some (8, 121) := rfl
theorem akX8_toldAt : akind SH 118 = some (0, 30) := rfl
theorem fkX8_untoldAt : fkind SH 114 4 = some (8, 122) := rfl
theorem akX8_untoldAt : akind SH 119 = some (0, 30) := rfl
theorem fkX8_ways : fkind SH 114 5 = some (8, 123) := rfl
theorem akX8_ways : akind SH 120 = some (0, 144) := rfl
theorem fkX8_count : fkind SH 114 6 = some (8, 0) := rfl
theorem fkX8_time : fkind SH 114 7 = some (8, 0) := rfl
theorem fkX8_hourToAsk : fkind SH 114 8 = some (8, 0) := rfl
theorem fkX8_leftAtMost : fkind SH 114 9 = some (8, 0) := rfl
theorem shX12 : ∃ fk, shat SH 1000 = some (.inr (12, fk)) := ⟨_, rfl⟩
theorem fkX12_tape : fkind SH 1000 0 = some (12, 1004) := rfl
theorem akX12_tape : akind SH 1001 = some (0, 1600) := rfl
theorem fkX12_taped : fkind SH 1000 1 = some (12, 0) := rfl
theorem fkX12_fault : fkind SH 1000 2 = some (12, 0) := rfl
theorem fkX12_faultPlace : fkind SH 1000 3 = some (12, 0) := rfl
theorem fkX12_at : fkind SH 1000 4 = some (12, 0) := rfl
theorem fkX12_size : fkind SH 1000 5 = some (12, 0) := rfl
theorem fkX12_sort : fkind SH 1000 6 = some (12, 0) := rfl
theorem fkX12_place : fkind SH 1000 7 = some (12, 0) := rfl
theorem fkX12_number : fkind SH 1000 8 = some (12, 0) := rfl
theorem fkX12_word : fkind SH 1000 9 = some (12, 1) := rfl
theorem fkX12_nName : fkind SH 1000 10 = some (12, 1005) := rfl
theorem akX12_nName : akind SH 1002 = some (3, 6) := rfl
theorem fkX12_nStep : fkind SH 1000 11 = some (12, 1006) := rfl
theorem akX12_nStep : akind SH 1003 = some (0, 960) := rfl
theorem fkX12_nArg : fkind SH 1000 12 = some (12, 1007) := rfl
theorem akX12_nArg : akind SH 1004 = some (0, 960) := rfl
theorem fkX12_nMany : fkind SH 1000 13 = some (12, 1008) := rfl
theorem akX12_nMany : akind SH 1005 = some (0, 3) := rfl
theorem fkX12_step : fkind SH 1000 14 = some (12, 1009) := rfl
theorem akX12_step : akind SH 1006 = some (0, 960) := rfl
theorem fkX12_arg : fkind SH 1000 15 = some (12, 1010) := rfl
theorem akX12_arg : akind SH 1007 = some (0, 960) := rfl
theorem fkX12_many : fkind SH 1000 16 = some (12, 1011) := rfl
theorem akX12_many : akind SH 1008 = some (0, 3) := rfl
theorem fkX12_open : fkind SH 1000 17 = some (12, 1012) := rfl
theorem akX12_open : akind SH 1009 = some (0, 160) := rfl
theorem fkX12_values : fkind SH 1000 18 = some (12, 1013) := rfl
theorem akX12_values : akind SH 1010 = some (0, 64) := rfl
theorem fkX12_form : fkind SH 1000 19 = some (12, 0) := rfl
theorem fkX12_opens : fkind SH 1000 20 = some (12, 0) := rfl
theorem fkX12_nUnits : fkind SH 1000 21 = some (12, 0) := rfl
theorem fkX12_units : fkind SH 1000 22 = some (12, 0) := rfl
theorem fkX12_ownUnits : fkind SH 1000 23 = some (12, 0) := rfl
theorem fkX12_deep : fkind SH 1000 24 = some (12, 0) := rfl
theorem fkX12_asks : fkind SH 1000 25 = some (12, 1014) := rfl
theorem akX12_asks : akind SH 1011 = some (0, 7) := rfl
theorem fkX12_nDoor : fkind SH 1000 26 = some (12, 1015) := rfl
theorem akX12_nDoor : akind SH 1012 = some (0, 6) := rfl
theorem fkX12_nFrom : fkind SH 1000 27 = some (12, 1016) := rfl
theorem akX12_nFrom : akind SH 1013 = some (0, 6) := rfl
theorem fkX12_nUntil : fkind SH 1000 28 = some (12, 1017) := rfl
theorem akX12_nUntil : akind SH 1014 = some (0, 6) := rfl
theorem fkX12_nChairs : fkind SH 1000 29 = some (12, 1018) := rfl
theorem akX12_nChairs : akind SH 1015 = some (0, 6) := rfl
theorem fkX12_nRest : fkind SH 1000 30 = some (12, 1019) := rfl
theorem akX12_nRest : akind SH 1016 = some (0, 6) := rfl
theorem fkX12_nPrice : fkind SH 1000 31 = some (12, 1020) := rfl
theorem akX12_nPrice : akind SH 1017 = some (0, 6) := rfl
theorem fkX12_nCoin : fkind SH 1000 32 = some (12, 1021) := rfl
theorem akX12_nCoin : akind SH 1018 = some (0, 6) := rfl
theorem fkX12_nOwed : fkind SH 1000 33 = some (12, 1022) := rfl
theorem akX12_nOwed : akind SH 1019 = some (0, 36) := rfl
theorem fkX12_door : fkind SH 1000 34 = some (12, 1023) := rfl
theorem akX12_door : akind SH 1020 = some (0, 6) := rfl
theorem fkX12_from : fkind SH 1000 35 = some (12, 1024) := rfl
theorem akX12_from : akind SH 1021 = some (0, 6) := rfl
theorem fkX12_until : fkind SH 1000 36 = some (12, 1025) := rfl
theorem akX12_until : akind SH 1022 = some (0, 6) := rfl
theorem fkX12_chairs : fkind SH 1000 37 = some (12, 1026) := rfl
theorem akX12_chairs : akind SH 1023 = some (0, 6) := rfl
theorem fkX12_rest : fkind SH 1000 38 = some (12, 1027) := rfl
theorem akX12_rest : akind SH 1024 = some (0, 6) := rfl
theorem fkX12_price : fkind SH 1000 39 = some (12, 1028) := rfl
theorem akX12_price : akind SH 1025 = some (0, 6) := rfl
theorem fkX12_coinTold : fkind SH 1000 40 = some (12, 1029) := rfl
theorem akX12_coinTold : akind SH 1026 = some (0, 6) := rfl
theorem fkX12_owedTold : fkind SH 1000 41 = some (12, 1030) := rfl
theorem akX12_owedTold : akind SH 1027 = some (0, 36) := rfl
theorem fkX12_nPeople : fkind SH 1000 42 = some (12, 0) := rfl
theorem fkX12_nDebts : fkind SH 1000 43 = some (12, 0) := rfl
theorem fkX12_nDay : fkind SH 1000 44 = some (12, 0) := rfl
theorem fkX12_people : fkind SH 1000 45 = some (12, 0) := rfl
theorem fkX12_day : fkind SH 1000 46 = some (12, 0) := rfl
theorem fkX12_nHasDay : fkind SH 1000 47 = some (12, 0) := rfl
theorem fkX12_nHasLine : fkind SH 1000 48 = some (12, 0) := rfl
theorem fkX12_nHasLaw : fkind SH 1000 49 = some (12, 0) := rfl
theorem fkX12_nHasInterest : fkind SH 1000 50 = some (12, 0) := rfl
theorem fkX12_nHasRain : fkind SH 1000 51 = some (12, 0) := rfl
theorem fkX12_hasLaw : fkind SH 1000 52 = some (12, 0) := rfl
theorem fkX12_hasInterest : fkind SH 1000 53 = some (12, 0) := rfl
theorem fkX12_hasRain : fkind SH 1000 54 = some (12, 0) := rfl
theorem fkX12_now : fkind SH 1000 55 = some (12, 1031) := rfl
theorem akX12_now : akind SH 1028 = some (0, 64) := rfl
theorem fkX12_stand : fkind SH 1000 56 = some (12, 1032) := rfl
theorem akX12_stand : akind SH 1029 = some (0, 6) := rfl
theorem fkX12_aim : fkind SH 1000 57 = some (12, 1033) := rfl
theorem akX12_aim : akind SH 1030 = some (0, 6) := rfl
theorem fkX12_whom : fkind SH 1000 58 = some (12, 1034) := rfl
theorem akX12_whom : akind SH 1031 = some (0, 6) := rfl
theorem fkX12_coin : fkind SH 1000 59 = some (12, 1035) := rfl
theorem akX12_coin : akind SH 1032 = some (0, 6) := rfl
theorem fkX12_owed : fkind SH 1000 60 = some (12, 1036) := rfl
theorem akX12_owed : akind SH 1033 = some (0, 36) := rfl
theorem fkX12_openFrom : fkind SH 1000 61 = some (12, 1037) := rfl
theorem akX12_openFrom : akind SH 1034 = some (0, 6) := rfl
theorem fkX12_date : fkind SH 1000 62 = some (12, 0) := rfl
theorem fkX12_hour : fkind SH 1000 63 = some (12, 0) := rfl
theorem fkX12_meets : fkind SH 1000 64 = some (12, 1038) := rfl
theorem akX12_meets : akind SH 1035 = some (2, 6) := rfl
theorem fkX12_went : fkind SH 1000 65 = some (12, 1039) := rfl
theorem akX12_went : akind SH 1036 = some (2, 6) := rfl
theorem fkX12_waits : fkind SH 1000 66 = some (12, 1040) := rfl
theorem akX12_waits : akind SH 1037 = some (2, 6) := rfl
theorem fkX12_paid : fkind SH 1000 67 = some (12, 1041) := rfl
theorem akX12_paid : akind SH 1038 = some (0, 6) := rfl
theorem fkX12_were : fkind SH 1000 68 = some (12, 1042) := rfl
theorem akX12_were : akind SH 1039 = some (0, 2560) := rfl
theorem fkX12_acts : fkind SH 1000 69 = some (12, 0) := rfl
theorem fkX12_undone : fkind SH 1000 70 = some (12, 0) := rfl
theorem fkX12_creditors : fkind SH 1000 71 = some (12, 1043) := rfl
theorem akX12_creditors : akind SH 1040 = some (0, 6) := rfl
theorem fkX12_order : fkind SH 1000 72 = some (12, 1044) := rfl
theorem akX12_order : akind SH 1041 = some (0, 6) := rfl
theorem fkX12_lies : fkind SH 1000 73 = some (12, 1045) := rfl
theorem akX12_lies : akind SH 1042 = some (0, 8) := rfl
theorem fkX12_creditorMany : fkind SH 1000 74 = some (12, 0) := rfl
theorem fkX12_lain : fkind SH 1000 75 = some (12, 0) := rfl
theorem fkX12_row : fkind SH 1000 76 = some (12, 1046) := rfl
theorem akX12_row : akind SH 1043 = some (0, 8) := rfl
theorem fkX12_best : fkind SH 1000 77 = some (12, 1047) := rfl
theorem akX12_best : akind SH 1044 = some (0, 8) := rfl
theorem fkX12_ringMany : fkind SH 1000 78 = some (12, 0) := rfl
theorem fkX12_bestFrees : fkind SH 1000 79 = some (12, 0) := rfl
theorem fkX12_bestSize : fkind SH 1000 80 = some (12, 0) := rfl
theorem fkX12_trackOf : fkind SH 1000 81 = some (12, 1048) := rfl
theorem akX12_trackOf : akind SH 1045 = some (0, 30) := rfl
theorem fkX12_trackHour : fkind SH 1000 82 = some (12, 1049) := rfl
theorem akX12_trackHour : akind SH 1046 = some (0, 30) := rfl
theorem fkX12_trackPlace : fkind SH 1000 83 = some (12, 1050) := rfl
theorem akX12_trackPlace : akind SH 1047 = some (0, 30) := rfl
theorem fkX12_trackTold : fkind SH 1000 84 = some (12, 1051) := rfl
theorem akX12_trackTold : akind SH 1048 = some (0, 30) := rfl
theorem fkX12_trackUntold : fkind SH 1000 85 = some (12, 1052) := rfl
theorem akX12_trackUntold : akind SH 1049 = some (0, 30) := rfl
theorem fkX12_tracks : fkind SH 1000 86 = some (12, 0) := rfl
theorem fkX12_time : fkind SH 1000 87 = some (12, 0) := rfl
theorem fkX12_hasBox : fkind SH 1000 88 = some (12, 1053) := rfl
theorem akX12_hasBox : akind SH 1050 = some (2, 3) := rfl
theorem fkX12_boxes : fkind SH 1000 89 = some (12, 1054) := rfl
theorem akX12_boxes : akind SH 1051 = some (0, 192) := rfl

def bv {α β : Type} (a : α) (f : α → β) : β := f a
def ib (i : Int32) (n : Nat) : Bool := decide (0 ≤ i) && decide (i.toNatClampNeg < n)
theorem ib_in {i : Int32} {n : Nat} (h : ib i n = true) : vp_in i n := by
  simp only [ib, Bool.and_eq_true, decide_eq_true_eq] at h
  rintro (z | z)
  · exact absurd z (Int32.not_lt.mpr h.1)
  · omega
def cpok (sp dp n : Int32) (n0 n1 : Nat) : Bool := decide (0 ≤ sp) && decide (0 ≤ dp) && decide (0 ≤ n) && decide (sp.toNatClampNeg + n.toNatClampNeg ≤ n0) && decide (dp.toNatClampNeg + n.toNatClampNeg ≤ n1)
def rI (x : Int32 × Mem) : Option Value × Mem := (some (.int x.1), x.2)
def rV (x : Mem) : Option Value × Mem := (none, x)
def rR (G : JG) (x : Nat × Mem) : Option Value × Mem := (some (.ref (G.1 + off x.1)), x.2)
def JO {α : Type} (G : JG) (y : MI) (d pc : Nat) (L : List (Option Value)) (S : List Value) (σ : Mem) (ι : α → Option Value × Mem) (r : Option α) : Prop :=
  ∀ v, r = some v → J G y d 0 0 SH 0 0 pc L S σ (fun q sh σ' => sh = SH ∧ (q, σ') = ι v)
def JS {α : Type} (G : JG) (y : MI) (d : Nat) (avs : List Value) (σ : Mem) (ι : α → Option Value × Mem) (r : Option α) : Prop :=
  ∀ v, r = some v → JM G y d 0 0 SH avs σ (fun q sh σ' => sh = SH ∧ (q, σ') = ι v)
theorem JS_of {α : Type} {G : JG} {y : MI} {d : Nat} {avs : List Value} {σ : Mem} {ι : α → Option Value × Mem} {r : Option α} (k : Nat) (hy : plainName y.1.cls = true) (hn : (lg_sl avs).length ≤ y.2.2.1) {L : List (Option Value)} (hL : l_ent avs ++ List.replicate k none = L) (h : JO G y d 0 L [] σ ι r) : JS G y d avs σ ι r := fun v hv => JM_of k hy hn (by rw [hL]; exact h v hv)
section JORows
variable {α : Type} {G : JG} {y : MI} {d pc : Nat} {L : List (Option Value)} {S : List Value} {σ : Mem} {ι : α → Option Value × Mem} {r r1 r2 : Option α}
theorem JO_none : JO G y d pc L S σ ι (none : Option α) := fun v hv => by cases hv
theorem JO_sub {A : List (Option Value)} (hs : l_sub A L) (h : JO G y d pc A S σ ι r) : JO G y d pc L S σ ι r := fun v hv => J_sub hs (h v hv)
theorem JO_nm {a : Int32} {f : Int32 → Option α} (h : ∀ x : Int32, JO G y d pc L (.int x :: S) σ ι (f x)) : JO G y d pc L (.int a :: S) σ ι (bv a f) := h a
theorem JO_nml {a : Int64} {f : Int64 → Option α} (h : ∀ x : Int64, JO G y d pc L (.long x :: S) σ ι (f x)) : JO G y d pc L (.long a :: S) σ ι (bv a f) := h a

theorem JO_iadd {a b : Int32} (hd : decode y.2.1 pc = .ok (.iadd, 1)) (h : JO G y d (pc + 1) L (.int (a + b) :: S) σ ι r) : JO G y d pc L (.int b :: .int a :: S) σ ι r := fun v hv => J_iadd hd (h v hv)
theorem JO_isub {a b : Int32} (hd : decode y.2.1 pc = .ok (.isub, 1)) (h : JO G y d (pc + 1) L (.int (a - b) :: S) σ ι r) : JO G y d pc L (.int b :: .int a :: S) σ ι r := fun v hv => J_isub hd (h v hv)
theorem JO_imul {a b : Int32} (hd : decode y.2.1 pc = .ok (.imul, 1)) (h : JO G y d (pc + 1) L (.int (a * b) :: S) σ ι r) : JO G y d pc L (.int b :: .int a :: S) σ ι r := fun v hv => J_imul hd (h v hv)
theorem JO_iand {a b : Int32} (hd : decode y.2.1 pc = .ok (.iand, 1)) (h : JO G y d (pc + 1) L (.int (a &&& b) :: S) σ ι r) : JO G y d pc L (.int b :: .int a :: S) σ ι r := fun v hv => J_iand hd (h v hv)
theorem JO_ior {a b : Int32} (hd : decode y.2.1 pc = .ok (.ior, 1)) (h : JO G y d (pc + 1) L (.int (a ||| b) :: S) σ ι r) : JO G y d pc L (.int b :: .int a :: S) σ ι r := fun v hv => J_ior hd (h v hv)
theorem JO_ishl {a b : Int32} (hd : decode y.2.1 pc = .ok (.ishl, 1)) (h : JO G y d (pc + 1) L (.int (a <<< (b &&& 31)) :: S) σ ι r) : JO G y d pc L (.int b :: .int a :: S) σ ι r := fun v hv => J_ishl hd (h v hv)
theorem JO_ishr {a b : Int32} (hd : decode y.2.1 pc = .ok (.ishr, 1)) (h : JO G y d (pc + 1) L (.int (a >>> (b &&& 31)) :: S) σ ι r) : JO G y d pc L (.int b :: .int a :: S) σ ι r := fun v hv => J_ishr hd (h v hv)
theorem JO_iushr {a b : Int32} (hd : decode y.2.1 pc = .ok (.iushr, 1)) (h : JO G y d (pc + 1) L (.int ((a.toUInt32 >>> (b.toUInt32 &&& Int32.toUInt32 31)).toInt32) :: S) σ ι r) : JO G y d pc L (.int b :: .int a :: S) σ ι r := fun v hv => J_iushr hd (h v hv)
theorem JO_i2l {a : Int32} (hd : decode y.2.1 pc = .ok (.i2l, 1)) (h : JO G y d (pc + 1) L (.long a.toInt64 :: S) σ ι r) : JO G y d pc L (.int a :: S) σ ι r := fun v hv => J_i2l hd (h v hv)
theorem JO_i2b {a : Int32} (hd : decode y.2.1 pc = .ok (.i2b, 1)) (h : JO G y d (pc + 1) L (.int a.toInt8.toInt32 :: S) σ ι r) : JO G y d pc L (.int a :: S) σ ι r := fun v hv => J_i2b hd (h v hv)
theorem JO_i2c {a : Int32} (hd : decode y.2.1 pc = .ok (.i2c, 1)) (h : JO G y d (pc + 1) L (.int (a.toUInt32 % 65536).toInt32 :: S) σ ι r) : JO G y d pc L (.int a :: S) σ ι r := fun v hv => J_i2c hd (h v hv)
theorem JO_lshl {a : Int64} {b : Int32} (hd : decode y.2.1 pc = .ok (.lshl, 1)) (h : JO G y d (pc + 1) L (.long (a <<< (b.toInt64 &&& 63)) :: S) σ ι r) : JO G y d pc L (.int b :: .long a :: S) σ ι r := fun v hv => J_lshl hd (h v hv)
theorem JO_lor {a b : Int64} (hd : decode y.2.1 pc = .ok (.lor, 1)) (h : JO G y d (pc + 1) L (.long (a ||| b) :: S) σ ι r) : JO G y d pc L (.long b :: .long a :: S) σ ι r := fun v hv => J_lor hd (h v hv)
theorem JO_lcmp {a b : Int64} (hd : decode y.2.1 pc = .ok (.lcmp, 1)) (h : JO G y d (pc + 1) L (.int (lg_cmp a b) :: S) σ ι r) : JO G y d pc L (.long b :: .long a :: S) σ ι r := fun v hv => J_lcmp hd (h v hv)
theorem JO_dup {u : Value} (hd : decode y.2.1 pc = .ok (.dup, 1)) (hu : u.category = 1) (h : JO G y d (pc + 1) L (u :: u :: S) σ ι r) : JO G y d pc L (u :: S) σ ι r := fun v hv => J_dup hd hu (h v hv)
theorem JO_pop {u : Value} (hd : decode y.2.1 pc = .ok (.pop, 1)) (hu : u.category = 1) (h : JO G y d (pc + 1) L S σ ι r) : JO G y d pc L (u :: S) σ ι r := fun v hv => J_pop hd hu (h v hv)
theorem JO_dup2 {t u : Value} (hd : decode y.2.1 pc = .ok (.dup2, 1)) (ht : t.category = 1) (hu : u.category = 1) (h : JO G y d (pc + 1) L (t :: u :: t :: u :: S) σ ι r) : JO G y d pc L (t :: u :: S) σ ι r := fun v hv => J_dup2 hd ht hu (h v hv)
theorem JO_iconst {n : Int} {a : Int32} (hd : decode y.2.1 pc = .ok (.iconst n, 1)) (ha : Int32.ofInt n = a) (h : JO G y d (pc + 1) L (.int a :: S) σ ι r) : JO G y d pc L S σ ι r := fun v hv => J_iconst hd ha (h v hv)
theorem JO_bipush {n : Int} {a : Int32} (hd : decode y.2.1 pc = .ok (.bipush n, 2)) (ha : (Int8.ofInt n).toInt32 = a) (h : JO G y d (pc + 2) L (.int a :: S) σ ι r) : JO G y d pc L S σ ι r := fun v hv => J_bipush hd ha (h v hv)
theorem JO_sipush {n : Int} {a : Int32} (hd : decode y.2.1 pc = .ok (.sipush n, 3)) (ha : (Int16.ofInt n).toInt32 = a) (h : JO G y d (pc + 3) L (.int a :: S) σ ι r) : JO G y d pc L S σ ι r := fun v hv => J_sipush hd ha (h v hv)
theorem JO_lconst {n : Fin 2} {a : Int64} (hd : decode y.2.1 pc = .ok (.lconst n, 1)) (ha : Int64.ofNat (n : Nat) = a) (h : JO G y d (pc + 1) L (.long a :: S) σ ι r) : JO G y d pc L S σ ι r := fun v hv => J_lconst hd ha (h v hv)
theorem JO_iload_n {n : Fin 4} {a : Int32} (hd : decode y.2.1 pc = .ok (.iload_n n, 1)) (ha : L[(n : Nat)]? = some (some (.int a))) (h : JO G y d (pc + 1) L (.int a :: S) σ ι r) : JO G y d pc L S σ ι r := fun v hv => J_iload_n hd ha (h v hv)
theorem JO_iload {n : Nat} {a : Int32} (hd : decode y.2.1 pc = .ok (.iload n, 2)) (ha : L[n]? = some (some (.int a))) (h : JO G y d (pc + 2) L (.int a :: S) σ ι r) : JO G y d pc L S σ ι r := fun v hv => J_iload hd ha (h v hv)
theorem JO_lload_n {n : Fin 4} {a : Int64} (hd : decode y.2.1 pc = .ok (.lload_n n, 1)) (ha : L[(n : Nat)]? = some (some (.long a))) (h : JO G y d (pc + 1) L (.long a :: S) σ ι r) : JO G y d pc L S σ ι r := fun v hv => J_lload_n hd ha (h v hv)
theorem JO_aload_n {n : Fin 4} {a : Nat} (hd : decode y.2.1 pc = .ok (.aload_n n, 1)) (ha : L[(n : Nat)]? = some (some (.ref a))) (h : JO G y d (pc + 1) L (.ref a :: S) σ ι r) : JO G y d pc L S σ ι r := fun v hv => J_aload_n hd ha (h v hv)
theorem JO_aload {n : Nat} {a : Nat} (hd : decode y.2.1 pc = .ok (.aload n, 2)) (ha : L[n]? = some (some (.ref a))) (h : JO G y d (pc + 2) L (.ref a :: S) σ ι r) : JO G y d pc L S σ ι r := fun v hv => J_aload hd ha (h v hv)
theorem JO_istore_n {n : Fin 4} {a : Int32} {L' : List (Option Value)} (hd : decode y.2.1 pc = .ok (.istore_n n, 1)) (hb : Nat.blt (n : Nat) y.2.2.1 = true) (hn : l_nl L (n : Nat) = true) (hL : L.set (n : Nat) (some (.int a)) = L') (h : JO G y d (pc + 1) L' S σ ι r) : JO G y d pc L (.int a :: S) σ ι r := fun v hv => J_istore_n hd hb hn hL (h v hv)
theorem JO_istore {n : Nat} {a : Int32} {L' : List (Option Value)} (hd : decode y.2.1 pc = .ok (.istore n, 2)) (hb : Nat.blt n y.2.2.1 = true) (hn : l_nl L n = true) (hL : L.set n (some (.int a)) = L') (h : JO G y d (pc + 2) L' S σ ι r) : JO G y d pc L (.int a :: S) σ ι r := fun v hv => J_istore hd hb hn hL (h v hv)
theorem JO_astore_n {n : Fin 4} {a : Nat} {L' : List (Option Value)} (hd : decode y.2.1 pc = .ok (.astore_n n, 1)) (hb : Nat.blt (n : Nat) y.2.2.1 = true) (hn : l_nl L (n : Nat) = true) (hL : L.set (n : Nat) (some (.ref a)) = L') (h : JO G y d (pc + 1) L' S σ ι r) : JO G y d pc L (.ref a :: S) σ ι r := fun v hv => J_astore_n hd hb hn hL (h v hv)
theorem JO_astore {n : Nat} {a : Nat} {L' : List (Option Value)} (hd : decode y.2.1 pc = .ok (.astore n, 2)) (hb : Nat.blt n y.2.2.1 = true) (hn : l_nl L n = true) (hL : L.set n (some (.ref a)) = L') (h : JO G y d (pc + 2) L' S σ ι r) : JO G y d pc L (.ref a :: S) σ ι r := fun v hv => J_astore hd hb hn hL (h v hv)
theorem JO_iinc {n : Nat} {i : Int} {a b : Int32} {f : Int32 → Option α} (hd : decode y.2.1 pc = .ok (.iinc n i, 3)) (hb : Nat.blt n y.2.2.1 = true) (ha : L[n]? = some (some (.int a))) (hi : Int32.ofInt i = b) (hn : l_nl L n = true) (h : ∀ x : Int32, JO G y d (pc + 3) (L.set n (some (.int x))) S σ ι (f x)) : JO G y d pc L S σ ι (bv (a + b) f) := fun v hv => J_iinc (v' := a + b) hd hb ha (by rw [hi]) hn rfl (h (a + b) v hv)
theorem JO_if_eq {a : Int32} {off' : Int} {tgt : Nat} (hd : decode y.2.1 pc = .ok (.ifCond .eq off', 3)) (ht : (pc : Int) + off' = (tgt : Int)) (hT : JO G y d tgt L S σ ι r1) (hF : JO G y d (pc + 3) L S σ ι r2) : JO G y d pc L (.int a :: S) σ ι (if a = 0 then r1 else r2) := fun v hv => J_if_eq hd ht (fun z => hT v (by rw [if_pos z] at hv; exact hv)) (fun z => hF v (by rw [if_neg z] at hv; exact hv))
theorem JO_if_ne {a : Int32} {off' : Int} {tgt : Nat} (hd : decode y.2.1 pc = .ok (.ifCond .ne off', 3)) (ht : (pc : Int) + off' = (tgt : Int)) (hT : JO G y d tgt L S σ ι r1) (hF : JO G y d (pc + 3) L S σ ι r2) : JO G y d pc L (.int a :: S) σ ι (if a = 0 then r2 else r1) := fun v hv => J_if_ne hd ht (fun z => hT v (by rw [if_neg z] at hv; exact hv)) (fun z => hF v (by rw [if_pos z] at hv; exact hv))
theorem JO_if_lt {a : Int32} {off' : Int} {tgt : Nat} (hd : decode y.2.1 pc = .ok (.ifCond .lt off', 3)) (ht : (pc : Int) + off' = (tgt : Int)) (hT : JO G y d tgt L S σ ι r1) (hF : JO G y d (pc + 3) L S σ ι r2) : JO G y d pc L (.int a :: S) σ ι (if a < 0 then r1 else r2) := fun v hv => J_if_lt hd ht (fun z => hT v (by rw [if_pos z] at hv; exact hv)) (fun z => hF v (by rw [if_neg z] at hv; exact hv))
theorem JO_if_ge {a : Int32} {off' : Int} {tgt : Nat} (hd : decode y.2.1 pc = .ok (.ifCond .ge off', 3)) (ht : (pc : Int) + off' = (tgt : Int)) (hT : JO G y d tgt L S σ ι r1) (hF : JO G y d (pc + 3) L S σ ι r2) : JO G y d pc L (.int a :: S) σ ι (if 0 ≤ a then r1 else r2) := fun v hv => J_if_ge hd ht (fun z => hT v (by rw [if_pos z] at hv; exact hv)) (fun z => hF v (by rw [if_neg z] at hv; exact hv))
theorem JO_if_gt {a : Int32} {off' : Int} {tgt : Nat} (hd : decode y.2.1 pc = .ok (.ifCond .gt off', 3)) (ht : (pc : Int) + off' = (tgt : Int)) (hT : JO G y d tgt L S σ ι r1) (hF : JO G y d (pc + 3) L S σ ι r2) : JO G y d pc L (.int a :: S) σ ι (if 0 < a then r1 else r2) := fun v hv => J_if_gt hd ht (fun z => hT v (by rw [if_pos z] at hv; exact hv)) (fun z => hF v (by rw [if_neg z] at hv; exact hv))
theorem JO_if_le {a : Int32} {off' : Int} {tgt : Nat} (hd : decode y.2.1 pc = .ok (.ifCond .le off', 3)) (ht : (pc : Int) + off' = (tgt : Int)) (hT : JO G y d tgt L S σ ι r1) (hF : JO G y d (pc + 3) L S σ ι r2) : JO G y d pc L (.int a :: S) σ ι (if a ≤ 0 then r1 else r2) := fun v hv => J_if_le hd ht (fun z => hT v (by rw [if_pos z] at hv; exact hv)) (fun z => hF v (by rw [if_neg z] at hv; exact hv))
theorem JO_icmp_eq {a b : Int32} {off' : Int} {tgt : Nat} (hd : decode y.2.1 pc = .ok (.if_icmp .eq off', 3)) (ht : (pc : Int) + off' = (tgt : Int)) (hT : JO G y d tgt L S σ ι r1) (hF : JO G y d (pc + 3) L S σ ι r2) : JO G y d pc L (.int b :: .int a :: S) σ ι (if a = b then r1 else r2) := fun v hv => J_icmp_eq hd ht (fun z => hT v (by rw [if_pos z] at hv; exact hv)) (fun z => hF v (by rw [if_neg z] at hv; exact hv))
theorem JO_icmp_ne {a b : Int32} {off' : Int} {tgt : Nat} (hd : decode y.2.1 pc = .ok (.if_icmp .ne off', 3)) (ht : (pc : Int) + off' = (tgt : Int)) (hT : JO G y d tgt L S σ ι r1) (hF : JO G y d (pc + 3) L S σ ι r2) : JO G y d pc L (.int b :: .int a :: S) σ ι (if a = b then r2 else r1) := fun v hv => J_icmp_ne hd ht (fun z => hT v (by rw [if_neg z] at hv; exact hv)) (fun z => hF v (by rw [if_pos z] at hv; exact hv))
theorem JO_icmp_lt {a b : Int32} {off' : Int} {tgt : Nat} (hd : decode y.2.1 pc = .ok (.if_icmp .lt off', 3)) (ht : (pc : Int) + off' = (tgt : Int)) (hT : JO G y d tgt L S σ ι r1) (hF : JO G y d (pc + 3) L S σ ι r2) : JO G y d pc L (.int b :: .int a :: S) σ ι (if a < b then r1 else r2) := fun v hv => J_icmp_lt hd ht (fun z => hT v (by rw [if_pos z] at hv; exact hv)) (fun z => hF v (by rw [if_neg z] at hv; exact hv))
theorem JO_icmp_ge {a b : Int32} {off' : Int} {tgt : Nat} (hd : decode y.2.1 pc = .ok (.if_icmp .ge off', 3)) (ht : (pc : Int) + off' = (tgt : Int)) (hT : JO G y d tgt L S σ ι r1) (hF : JO G y d (pc + 3) L S σ ι r2) : JO G y d pc L (.int b :: .int a :: S) σ ι (if b ≤ a then r1 else r2) := fun v hv => J_icmp_ge hd ht (fun z => hT v (by rw [if_pos z] at hv; exact hv)) (fun z => hF v (by rw [if_neg z] at hv; exact hv))
theorem JO_icmp_gt {a b : Int32} {off' : Int} {tgt : Nat} (hd : decode y.2.1 pc = .ok (.if_icmp .gt off', 3)) (ht : (pc : Int) + off' = (tgt : Int)) (hT : JO G y d tgt L S σ ι r1) (hF : JO G y d (pc + 3) L S σ ι r2) : JO G y d pc L (.int b :: .int a :: S) σ ι (if b < a then r1 else r2) := fun v hv => J_icmp_gt hd ht (fun z => hT v (by rw [if_pos z] at hv; exact hv)) (fun z => hF v (by rw [if_neg z] at hv; exact hv))
theorem JO_icmp_le {a b : Int32} {off' : Int} {tgt : Nat} (hd : decode y.2.1 pc = .ok (.if_icmp .le off', 3)) (ht : (pc : Int) + off' = (tgt : Int)) (hT : JO G y d tgt L S σ ι r1) (hF : JO G y d (pc + 3) L S σ ι r2) : JO G y d pc L (.int b :: .int a :: S) σ ι (if a ≤ b then r1 else r2) := fun v hv => J_icmp_le hd ht (fun z => hT v (by rw [if_pos z] at hv; exact hv)) (fun z => hF v (by rw [if_neg z] at hv; exact hv))
theorem JO_goto {off' : Int} {tgt : Nat} (hd : decode y.2.1 pc = .ok (.goto off', 3)) (ht : (pc : Int) + off' = (tgt : Int)) (h : JO G y d tgt L S σ ι r) : JO G y d pc L S σ ι r := fun v hv => J_goto hd ht (h v hv)
theorem JO_idiv {a b : Int32} (hd : decode y.2.1 pc = .ok (.idiv, 1)) (h : JO G y d (pc + 1) L (.int (a / b) :: S) σ ι r) : JO G y d pc L (.int b :: .int a :: S) σ ι (if b = 0 then none else r) := fun v hv => by
  by_cases z : b = 0
  · rw [if_pos z] at hv; cases hv
  · rw [if_neg z] at hv
    exact J_idiv hd z (h v hv)
theorem JO_irem {a b : Int32} (hd : decode y.2.1 pc = .ok (.irem, 1)) (h : JO G y d (pc + 1) L (.int (a - a / b * b) :: S) σ ι r) : JO G y d pc L (.int b :: .int a :: S) σ ι (if b = 0 then none else r) := fun v hv => by
  by_cases z : b = 0
  · rw [if_pos z] at hv; cases hv
  · rw [if_neg z] at hv
    exact J_irem hd z (h v hv)
theorem JO_getI {own : String} {idx ci k o : Nat} {ty : FieldType} {fin : Bool} (fl : FL own idx ci k ty fin) (ho : own = y.1.cls) (hf : fkind SH o k = some (ci, 0)) (hd : decode y.2.1 pc = .ok (.getfield idx, 3)) (h : JO G y d (pc + 3) L (.int (σ.1 o k) :: S) σ ι r) : JO G y d pc L (.ref (G.1 + off o) :: S) σ ι r := fun v hv => J_get fl ho hf hd (h v hv)
theorem JO_getL {own : String} {idx ci k o : Nat} {ty : FieldType} {fin : Bool} (fl : FL own idx ci k ty fin) (ho : own = y.1.cls) (hf : fkind SH o k = some (ci, 1)) (hd : decode y.2.1 pc = .ok (.getfield idx, 3)) (h : JO G y d (pc + 3) L (.long (σ.2 o k) :: S) σ ι r) : JO G y d pc L (.ref (G.1 + off o) :: S) σ ι r := fun v hv => J_get fl ho hf hd (h v hv)
theorem JO_getR {own : String} {idx ci k o : Nat} {ty : FieldType} {fin : Bool} (fl : FL own idx ci k ty fin) (ho : own = y.1.cls) {q : Nat} (hf : fkind SH o k = some (ci, q + 3)) (hd : decode y.2.1 pc = .ok (.getfield idx, 3)) (h : JO G y d (pc + 3) L (.ref (G.1 + off q) :: S) σ ι r) : JO G y d pc L (.ref (G.1 + off o) :: S) σ ι r := fun v hv => J_get fl ho hf hd (h v hv)
/-- a reference that changes: it must be cell q -/
theorem JO_getM {own : String} {idx ci k o : Nat} {ty : FieldType} {fin : Bool} (fl : FL own idx ci k ty fin) (ho : own = y.1.cls) (q : Nat) (hq0 : 0 < q) (hq : q < 2 ^ 31) (hf : fkind SH o k = some (ci, 2)) (hd : decode y.2.1 pc = .ok (.getfield idx, 3)) (h : JO G y d (pc + 3) L (.ref (G.1 + off q) :: S) σ ι r) : JO G y d pc L (.ref (G.1 + off o) :: S) σ ι (if σ.1 o k = nI q then r else none) := fun v hv => by
  by_cases z : σ.1 o k = nI q
  · rw [if_pos z] at hv
    refine J_get fl ho hf hd ?_
    show J G y d 0 0 SH 0 0 (pc + 3) L (va_rf (rid G.1 (σ.1 o k)) :: S) σ _
    rw [z, rid_nI hq0 hq]
    exact h v hv
  · rw [if_neg z] at hv; cases hv
/-- a town, one of the two -/
def gT {α : Type} (x : Int32) (f : Nat → Option α) : Option α := if x = nI 7 then f 7 else if x = nI 124 then f 124 else none
theorem JO_getT {own : String} {idx ci k o : Nat} {ty : FieldType} {fin : Bool} (fl : FL own idx ci k ty fin) (ho : own = y.1.cls) {f : Nat → Option α} (hf : fkind SH o k = some (ci, 2)) (hd : decode y.2.1 pc = .ok (.getfield idx, 3)) (h : ∀ t, isTown t → JO G y d (pc + 3) L (.ref (G.1 + off t) :: S) σ ι (f t)) : JO G y d pc L (.ref (G.1 + off o) :: S) σ ι (gT (σ.1 o k) f) := by
  unfold gT
  by_cases z : σ.1 o k = nI 7
  · rw [if_pos z]
    have := JO_getM fl ho 7 (by decide) (by decide) hf hd (h _ (Or.inl rfl))
    rw [if_pos z] at this
    exact this
  · rw [if_neg z]
    exact JO_getM fl ho 124 (by decide) (by decide) hf hd (h _ (Or.inr rfl))
theorem JO_putI {own : String} {idx ci k o : Nat} (fl : FL own idx ci k .int false) (ho : own = y.1.cls) {a : Int32} {f : Mem → Option α} (hf : fkind SH o k = some (ci, 0)) (hd : decode y.2.1 pc = .ok (.putfield idx, 3)) (h : ∀ σ' : Mem, JO G y d (pc + 3) L S σ' ι (f σ')) : JO G y d pc L (.int a :: .ref (G.1 + off o) :: S) σ ι (bv (sI σ o k a) f) := fun v hv => J_putI fl ho hf hd (h _ v hv)
theorem JO_putL {own : String} {idx ci k o : Nat} (fl : FL own idx ci k .long false) (ho : own = y.1.cls) {a : Int64} {f : Mem → Option α} (hf : fkind SH o k = some (ci, 1)) (hd : decode y.2.1 pc = .ok (.putfield idx, 3)) (h : ∀ σ' : Mem, JO G y d (pc + 3) L S σ' ι (f σ')) : JO G y d pc L (.long a :: .ref (G.1 + off o) :: S) σ ι (bv (sL σ o k a) f) := fun v hv => J_putL fl ho hf hd (h _ v hv)
theorem JO_putZ {own : String} {idx ci k o : Nat} (fl : FL own idx ci k .boolean false) (ho : own = y.1.cls) {a : Int32} {f : Mem → Option α} (hf : fkind SH o k = some (ci, 0)) (hd : decode y.2.1 pc = .ok (.putfield idx, 3)) (h : ∀ σ' : Mem, JO G y d (pc + 3) L S σ' ι (f σ')) : JO G y d pc L (.int a :: .ref (G.1 + off o) :: S) σ ι (if a = 0 ∨ a = 1 then bv (sI σ o k a) f else none) := fun v hv => by
  by_cases z : a = 0 ∨ a = 1
  · rw [if_pos z] at hv
    exact J_putZ fl ho hf hd z (h _ v hv)
  · rw [if_neg z] at hv; cases hv
theorem JO_putM {own : String} {idx ci k o q : Nat} {ty : FieldType} (fl : FL own idx ci k ty false) (ho : own = y.1.cls) {f : Mem → Option α} (hq : 0 < q ∧ q < 2 ^ 31) (hn : ∀ a, narrow ty (.ref a) = .ref a) (hfit : ∀ a, fits ty (.ref a) = true) (hf : fkind SH o k = some (ci, 2)) (hd : decode y.2.1 pc = .ok (.putfield idx, 3)) (h : ∀ σ' : Mem, JO G y d (pc + 3) L S σ' ι (f σ')) : JO G y d pc L (.ref (G.1 + off q) :: .ref (G.1 + off o) :: S) σ ι (bv (sI σ o k (nI q)) f) := fun v hv => J_putM fl ho hf hd hq.1 hq.2 hn hfit (h _ v hv)
theorem JO_iald {o n : Nat} {i : Int32} (ha : akind SH o = some (0, n)) (hd : decode y.2.1 pc = .ok (.iaload, 1)) (h : JO G y d (pc + 1) L (.int (σ.1 o i.toNatClampNeg) :: S) σ ι r) : JO G y d pc L (.int i :: .ref (G.1 + off o) :: S) σ ι (if ib i n = true then r else none) := fun v hv => by
  by_cases z : ib i n = true
  · rw [if_pos z] at hv
    exact J_iald ha (ib_in z) hd (h v hv)
  · rw [if_neg z] at hv; cases hv
theorem JO_bald {o n : Nat} {i : Int32} (ha : akind SH o = some (1, n)) (hd : decode y.2.1 pc = .ok (.baload, 1)) (h : JO G y d (pc + 1) L (.int (σ.1 o i.toNatClampNeg) :: S) σ ι r) : JO G y d pc L (.int i :: .ref (G.1 + off o) :: S) σ ι (if ib i n = true then r else none) := fun v hv => by
  by_cases z : ib i n = true
  · rw [if_pos z] at hv
    exact J_bald ha (ib_in z) hd (h v hv)
  · rw [if_neg z] at hv; cases hv
theorem JO_zald {o n : Nat} {i : Int32} (ha : akind SH o = some (2, n)) (hd : decode y.2.1 pc = .ok (.baload, 1)) (h : JO G y d (pc + 1) L (.int (σ.1 o i.toNatClampNeg) :: S) σ ι r) : JO G y d pc L (.int i :: .ref (G.1 + off o) :: S) σ ι (if ib i n = true then r else none) := fun v hv => by
  by_cases z : ib i n = true
  · rw [if_pos z] at hv
    exact J_zald ha (ib_in z) hd (h v hv)
  · rw [if_neg z] at hv; cases hv
theorem JO_lald {o n : Nat} {i : Int32} (ha : akind SH o = some (3, n)) (hd : decode y.2.1 pc = .ok (.laload, 1)) (h : JO G y d (pc + 1) L (.long (σ.2 o i.toNatClampNeg) :: S) σ ι r) : JO G y d pc L (.int i :: .ref (G.1 + off o) :: S) σ ι (if ib i n = true then r else none) := fun v hv => by
  by_cases z : ib i n = true
  · rw [if_pos z] at hv
    exact J_lald ha (ib_in z) hd (h v hv)
  · rw [if_neg z] at hv; cases hv
theorem JO_iast {o n : Nat} {i : Int32} {x : Int32} {f : Mem → Option α} (ha : akind SH o = some (0, n)) (hd : decode y.2.1 pc = .ok (.iastore, 1)) (h : ∀ σ' : Mem, JO G y d (pc + 1) L S σ' ι (f σ')) : JO G y d pc L (.int x :: .int i :: .ref (G.1 + off o) :: S) σ ι (if ib i n = true then bv (sI σ o i.toNatClampNeg x) f else none) := fun v hv => by
  by_cases z : ib i n = true
  · rw [if_pos z] at hv
    exact J_iast ha (ib_in z) hd (h _ v hv)
  · rw [if_neg z] at hv; cases hv
theorem JO_bast {o n : Nat} {i : Int32} {x : Int32} {f : Mem → Option α} (ha : akind SH o = some (1, n)) (hd : decode y.2.1 pc = .ok (.bastore, 1)) (h : ∀ σ' : Mem, JO G y d (pc + 1) L S σ' ι (f σ')) : JO G y d pc L (.int x :: .int i :: .ref (G.1 + off o) :: S) σ ι (if ib i n = true then bv (sI σ o i.toNatClampNeg x.toInt8.toInt32) f else none) := fun v hv => by
  by_cases z : ib i n = true
  · rw [if_pos z] at hv
    exact J_bast ha (ib_in z) hd (h _ v hv)
  · rw [if_neg z] at hv; cases hv
theorem JO_zast {o n : Nat} {i : Int32} {x : Int32} {f : Mem → Option α} (ha : akind SH o = some (2, n)) (hd : decode y.2.1 pc = .ok (.bastore, 1)) (h : ∀ σ' : Mem, JO G y d (pc + 1) L S σ' ι (f σ')) : JO G y d pc L (.int x :: .int i :: .ref (G.1 + off o) :: S) σ ι (if ib i n = true then bv (sI σ o i.toNatClampNeg (x &&& 1)) f else none) := fun v hv => by
  by_cases z : ib i n = true
  · rw [if_pos z] at hv
    exact J_zast ha (ib_in z) hd (h _ v hv)
  · rw [if_neg z] at hv; cases hv
theorem JO_last {o n : Nat} {i : Int32} {x : Int64} {f : Mem → Option α} (ha : akind SH o = some (3, n)) (hd : decode y.2.1 pc = .ok (.lastore, 1)) (h : ∀ σ' : Mem, JO G y d (pc + 1) L S σ' ι (f σ')) : JO G y d pc L (.long x :: .int i :: .ref (G.1 + off o) :: S) σ ι (if ib i n = true then bv (sL σ o i.toNatClampNeg x) f else none) := fun v hv => by
  by_cases z : ib i n = true
  · rw [if_pos z] at hv
    exact J_last ha (ib_in z) hd (h _ v hv)
  · rw [if_neg z] at hv; cases hv
theorem JO_alen {o k n : Nat} {a : Int32} (ha : akind SH o = some (k, n)) (hk : k < 4) (hv : Int32.ofNat n = a) (hd : decode y.2.1 pc = .ok (.arraylength, 1)) (h : JO G y d (pc + 1) L (.int a :: S) σ ι r) : JO G y d pc L (.ref (G.1 + off o) :: S) σ ι r := fun v hv2 => J_alen ha hk hv hd (h v hv2)
/-- a row of states: place i holds cell 69 + 6 i -/
def gS {α : Type} (x : Int32) (i : Int32) (f : Nat → Option α) : Option α := if ib i 7 = true ∧ x = nI (69 + 6 * i.toNatClampNeg) then f (69 + 6 * i.toNatClampNeg) else none
theorem JO_aald {o : Nat} {i : Int32} {f : Nat → Option α} (ha : akind SH o = some (4, 7)) (hd : decode y.2.1 pc = .ok (.aaload, 1)) (h : ∀ q, isState q → JO G y d (pc + 1) L (.ref (G.1 + off q) :: S) σ ι (f q)) : JO G y d pc L (.int i :: .ref (G.1 + off o) :: S) σ ι (gS (σ.1 o i.toNatClampNeg) i f) := fun v hv => by
  unfold gS at hv
  split at hv
  · rename_i z
    have hlt : i.toNatClampNeg < 7 := by
      have := z.1
      simp only [ib, Bool.and_eq_true, decide_eq_true_eq] at this
      exact this.2
    refine J_aald ha (ib_in z.1) (by omega) (by omega) z.2 hd (h _ ?_ v hv)
    unfold isState
    omega
  · cases hv
theorem JO_copy {own : String} {idx o0 o1 n0 n1 : Nat} {sp dp n : Int32} {f : Mem → Option α} (lk : LC own idx) (ho : own = y.1.cls) (ha0 : akind SH o0 = some (0, n0)) (ha1 : akind SH o1 = some (0, n1)) (hst : (S.map fun v => v.category).sum ≤ 8) (hd : decode y.2.1 pc = .ok (.invokestatic idx, 3)) (h : ∀ σ' : Mem, JO G y (d + 1) (pc + 3) L S σ' ι (f σ')) : JO G y (d + 1) pc L (.int n :: .int dp :: .ref (G.1 + off o1) :: .int sp :: .ref (G.1 + off o0) :: S) σ ι (if cpok sp dp n n0 n1 = true then bv (sC σ o1 dp.toNatClampNeg (σ.1 o0) sp.toNatClampNeg n.toNatClampNeg) f else none) := fun v hv => by
  by_cases z : cpok sp dp n n0 n1 = true
  · rw [if_pos z] at hv
    simp only [cpok, Bool.and_eq_true, decide_eq_true_eq] at z
    exact J_copy lk ho ha0 ha1 (by omega) ⟨z.1.1.1.1, z.1.1.1.2, z.1.1.2, z.1.2, z.2⟩ hst hd (h _ v hv)
  · rw [if_neg z] at hv; cases hv
theorem JO_ldc {own : String} {idx : Nat} {a : Int32} (hc : Cond.constant own idx a ∈ GW) (ho : own = y.1.cls) (hd : decode y.2.1 pc = .ok (.ldc idx, 2)) (h : JO G y d (pc + 2) L (.int a :: S) σ ι r) : JO G y d pc L S σ ι r := fun v hv => J_ldc hc ho hd (h v hv)
theorem JO_ldcw {own : String} {idx : Nat} {a : Int32} (hc : Cond.constant own idx a ∈ GW) (ho : own = y.1.cls) (hd : decode y.2.1 pc = .ok (.ldc_w idx, 3)) (h : JO G y d (pc + 3) L (.int a :: S) σ ι r) : JO G y d pc L S σ ι r := fun v hv => J_ldcw hc ho hd (h v hv)
theorem JO_ldc2 {own : String} {idx : Nat} {a : Int64} (hc : Cond.constantLong own idx a ∈ GW) (ho : own = y.1.cls) (hd : decode y.2.1 pc = .ok (.ldc2_w idx, 3)) (h : JO G y d (pc + 3) L (.long a :: S) σ ι r) : JO G y d pc L S σ ι r := fun v hv => J_ldc2 hc ho hd (h v hv)
theorem JO_reti {a : Int32} (hr : y.2.2.2 = some .int) (hd : decode y.2.1 pc = .ok (.ireturn, 1)) : JO G y d pc L [.int a] σ rI (some (a, σ)) := fun v hv => by
  cases hv
  intro p l e R s m args below meth c H locs ls Q C hH hz hS hl h1 h2
  exact C.2.2.2.2.2.2.2.2.2 H locs ls pc [.int a] (some (.int (a))) SH σ 0 0 ⟨rfl, rfl⟩ hH hS (Nat.le_refl _) (Nat.le_refl _) (Or.inl ⟨.int, a, a, hr, hd, rfl, rfl, rfl⟩)
theorem JO_retz {a : Int32} (hr : y.2.2.2 = some .boolean) (hd : decode y.2.1 pc = .ok (.ireturn, 1)) : JO G y d pc L [.int a] σ rI (some (a &&& 1, σ)) := fun v hv => by
  cases hv
  intro p l e R s m args below meth c H locs ls Q C hH hz hS hl h1 h2
  exact C.2.2.2.2.2.2.2.2.2 H locs ls pc [.int a] (some (.int (a &&& 1))) SH σ 0 0 ⟨rfl, rfl⟩ hH hS (Nat.le_refl _) (Nat.le_refl _) (Or.inl ⟨.boolean, a, a &&& 1, hr, hd, rfl, rfl, rfl⟩)
theorem JO_retc {a : Int32} (hr : y.2.2.2 = some .char) (hd : decode y.2.1 pc = .ok (.ireturn, 1)) : JO G y d pc L [.int a] σ rI (some (a.toUInt32.toUInt16.toUInt32.toInt32, σ)) := fun v hv => by
  cases hv
  intro p l e R s m args below meth c H locs ls Q C hH hz hS hl h1 h2
  exact C.2.2.2.2.2.2.2.2.2 H locs ls pc [.int a] (some (.int (a.toUInt32.toUInt16.toUInt32.toInt32))) SH σ 0 0 ⟨rfl, rfl⟩ hH hS (Nat.le_refl _) (Nat.le_refl _) (Or.inl ⟨.char, a, a.toUInt32.toUInt16.toUInt32.toInt32, hr, hd, rfl, rfl, rfl⟩)
theorem JO_retb {a : Int32} (hr : y.2.2.2 = some .byte) (hd : decode y.2.1 pc = .ok (.ireturn, 1)) : JO G y d pc L [.int a] σ rI (some (a.toInt8.toInt32, σ)) := fun v hv => by
  cases hv
  intro p l e R s m args below meth c H locs ls Q C hH hz hS hl h1 h2
  exact C.2.2.2.2.2.2.2.2.2 H locs ls pc [.int a] (some (.int (a.toInt8.toInt32))) SH σ 0 0 ⟨rfl, rfl⟩ hH hS (Nat.le_refl _) (Nat.le_refl _) (Or.inl ⟨.byte, a, a.toInt8.toInt32, hr, hd, rfl, rfl, rfl⟩)
theorem JO_retv (hr : y.2.2.2 = none) (hd : decode y.2.1 pc = .ok (.return_, 1)) : JO G y d pc L [] σ rV (some σ) := fun v hv => by
  cases hv
  intro p l e R s m args below meth c H locs ls Q C hH hz hS hl h1 h2
  exact C.2.2.2.2.2.2.2.2.2 H locs ls pc [] none SH σ 0 0 ⟨rfl, rfl⟩ hH hS (Nat.le_refl _) (Nat.le_refl _) (Or.inr (Or.inl ⟨hr, hd, rfl, rfl⟩))
theorem JO_reta {n : String} {q : Nat} (hr : y.2.2.2 = some (.object n)) (hd : decode y.2.1 pc = .ok (.areturn, 1)) : JO G y d pc L [.ref (G.1 + off q)] σ (rR G) (some (q, σ)) := fun v hv => by
  cases hv
  intro p l e R s m args below meth c H locs ls Q C hH hz hS hl h1 h2
  exact C.2.2.2.2.2.2.2.2.2 H locs ls pc _ (some (.ref (G.1 + off q))) SH σ 0 0 ⟨rfl, rfl⟩ hH hS (Nat.le_refl _) (Nat.le_refl _) (Or.inr (Or.inr ⟨n, _, hr, hd, rfl, rfl⟩))
end JORows
section JOCalls
variable {α : Type} {G : JG} {y y' : MI} {d pc : Nat} {L : List (Option Value)} {S S0 : List Value} {σ : Mem} {ι : α → Option Value × Mem}
theorem JO_callVi {own : String} {idx n : Nat} {o ci : Nat} {T : u_T} {N : Nat} {r' : Option (Int32 × Mem)} {f : Int32 × Mem → Option α} (As : List Value) (lk : LV own idx y' n) (ho : own = y.1.cls) (hci : vwCl[ci]? = some (y'.1.cls, T, N)) (hrc : ∃ fk, shat SH o = some (.inr (ci, fk))) (hM : JS G y' d (.ref (G.1 + off o) :: As) σ rI r') (hn : As.length = n) (h0 : S0 = As.reverse ++ .ref (G.1 + off o) :: S) (hst : (S.map fun v => v.category).sum ≤ 8) (hd : decode y.2.1 pc = .ok (.invokevirtual idx, 3)) (h : ∀ x : Int32 × Mem, JO G y (d + 1) (pc + 3) L (.int x.1 :: S) x.2 ι (f x)) : JO G y (d + 1) pc L S0 σ ι (r'.bind f) := fun v hv => by
  obtain ⟨fk, hrc⟩ := hrc
  obtain ⟨x, hx, hfx⟩ := Option.bind_eq_some_iff.mp hv
  refine J_callV As lk ho hci hrc (hM x hx) (fun q sh' σ' hk => by rw [hk.1]; rfl) (Nat.le_refl _) (Nat.le_refl _) hn h0 hst hd (fun q sh' σ' hk => ?_)
  obtain ⟨rfl, hk⟩ := hk
  cases hk
  exact h x v hfx
theorem JO_callVv {own : String} {idx n : Nat} {o ci : Nat} {T : u_T} {N : Nat} {r' : Option (Mem)} {f : Mem → Option α} (As : List Value) (lk : LV own idx y' n) (ho : own = y.1.cls) (hci : vwCl[ci]? = some (y'.1.cls, T, N)) (hrc : ∃ fk, shat SH o = some (.inr (ci, fk))) (hM : JS G y' d (.ref (G.1 + off o) :: As) σ rV r') (hn : As.length = n) (h0 : S0 = As.reverse ++ .ref (G.1 + off o) :: S) (hst : (S.map fun v => v.category).sum ≤ 8) (hd : decode y.2.1 pc = .ok (.invokevirtual idx, 3)) (h : ∀ x : Mem, JO G y (d + 1) (pc + 3) L S x ι (f x)) : JO G y (d + 1) pc L S0 σ ι (r'.bind f) := fun v hv => by
  obtain ⟨fk, hrc⟩ := hrc
  obtain ⟨x, hx, hfx⟩ := Option.bind_eq_some_iff.mp hv
  refine J_callV As lk ho hci hrc (hM x hx) (fun q sh' σ' hk => by rw [hk.1]; rfl) (Nat.le_refl _) (Nat.le_refl _) hn h0 hst hd (fun q sh' σ' hk => ?_)
  obtain ⟨rfl, hk⟩ := hk
  cases hk
  exact h x v hfx
theorem JO_callVr {own : String} {idx n : Nat} {o ci : Nat} {T : u_T} {N : Nat} {r' : Option (Nat × Mem)} {f : Nat × Mem → Option α} (As : List Value) (lk : LV own idx y' n) (ho : own = y.1.cls) (hci : vwCl[ci]? = some (y'.1.cls, T, N)) (hrc : ∃ fk, shat SH o = some (.inr (ci, fk))) (hM : JS G y' d (.ref (G.1 + off o) :: As) σ (rR G) r') (hn : As.length = n) (h0 : S0 = As.reverse ++ .ref (G.1 + off o) :: S) (hst : (S.map fun v => v.category).sum ≤ 8) (hd : decode y.2.1 pc = .ok (.invokevirtual idx, 3)) (h : ∀ x : Nat × Mem, JO G y (d + 1) (pc + 3) L (.ref (G.1 + off x.1) :: S) x.2 ι (f x)) : JO G y (d + 1) pc L S0 σ ι (r'.bind f) := fun v hv => by
  obtain ⟨fk, hrc⟩ := hrc
  obtain ⟨x, hx, hfx⟩ := Option.bind_eq_some_iff.mp hv
  refine J_callV As lk ho hci hrc (hM x hx) (fun q sh' σ' hk => by rw [hk.1]; rfl) (Nat.le_refl _) (Nat.le_refl _) hn h0 hst hd (fun q sh' σ' hk => ?_)
  obtain ⟨rfl, hk⟩ := hk
  cases hk
  exact h x v hfx
theorem JO_callTi {own : String} {idx n : Nat} {i : Nat} {r' : Option (Int32 × Mem)} {f : Int32 × Mem → Option α} (As : List Value) (lk : LV own idx y' n) (ho : own = y.1.cls) (hi : i < 2) (hM : JS G y' d (.ref (G.2.2.2.1 i) :: As) σ rI r') (hcs : y'.1.cls = "java/lang/String" := by rfl) (hn : As.length = n) (h0 : S0 = As.reverse ++ .ref (G.2.2.2.1 i) :: S) (hst : (S.map fun v => v.category).sum ≤ 8) (hd : decode y.2.1 pc = .ok (.invokevirtual idx, 3)) (h : ∀ x : Int32 × Mem, JO G y (d + 1) (pc + 3) L (.int x.1 :: S) x.2 ι (f x)) : JO G y (d + 1) pc L S0 σ ι (r'.bind f) := fun v hv => by
  obtain ⟨x, hx, hfx⟩ := Option.bind_eq_some_iff.mp hv
  refine J_callT As lk ho hi hcs (hM x hx) (fun q sh' σ' hk => by rw [hk.1]; rfl) (Nat.le_refl _) (Nat.le_refl _) hn h0 hst hd (fun q sh' σ' hk => ?_)
  obtain ⟨rfl, hk⟩ := hk
  cases hk
  exact h x v hfx
theorem JO_callTv {own : String} {idx n : Nat} {i : Nat} {r' : Option (Mem)} {f : Mem → Option α} (As : List Value) (lk : LV own idx y' n) (ho : own = y.1.cls) (hi : i < 2) (hM : JS G y' d (.ref (G.2.2.2.1 i) :: As) σ rV r') (hcs : y'.1.cls = "java/lang/String" := by rfl) (hn : As.length = n) (h0 : S0 = As.reverse ++ .ref (G.2.2.2.1 i) :: S) (hst : (S.map fun v => v.category).sum ≤ 8) (hd : decode y.2.1 pc = .ok (.invokevirtual idx, 3)) (h : ∀ x : Mem, JO G y (d + 1) (pc + 3) L S x ι (f x)) : JO G y (d + 1) pc L S0 σ ι (r'.bind f) := fun v hv => by
  obtain ⟨x, hx, hfx⟩ := Option.bind_eq_some_iff.mp hv
  refine J_callT As lk ho hi hcs (hM x hx) (fun q sh' σ' hk => by rw [hk.1]; rfl) (Nat.le_refl _) (Nat.le_refl _) hn h0 hst hd (fun q sh' σ' hk => ?_)
  obtain ⟨rfl, hk⟩ := hk
  cases hk
  exact h x v hfx
theorem JO_callSi {own : String} {idx n : Nat} {r' : Option (Int32 × Mem)} {f : Int32 × Mem → Option α} (As : List Value) (lk : LSt own idx y' n) (ho : own = y.1.cls) (hM : JS G y' d As σ rI r') (hn : As.length = n) (h0 : S0 = As.reverse ++ S) (hst : (S.map fun v => v.category).sum ≤ 8) (hd : decode y.2.1 pc = .ok (.invokestatic idx, 3)) (h : ∀ x : Int32 × Mem, JO G y (d + 1) (pc + 3) L (.int x.1 :: S) x.2 ι (f x)) : JO G y (d + 1) pc L S0 σ ι (r'.bind f) := fun v hv => by
  obtain ⟨x, hx, hfx⟩ := Option.bind_eq_some_iff.mp hv
  refine J_callS As lk ho (hM x hx) (fun q sh' σ' hk => by rw [hk.1]; rfl) (Nat.le_refl _) (Nat.le_refl _) hn h0 hst hd (fun q sh' σ' hk => ?_)
  obtain ⟨rfl, hk⟩ := hk
  cases hk
  exact h x v hfx
theorem JO_callSv {own : String} {idx n : Nat} {r' : Option (Mem)} {f : Mem → Option α} (As : List Value) (lk : LSt own idx y' n) (ho : own = y.1.cls) (hM : JS G y' d As σ rV r') (hn : As.length = n) (h0 : S0 = As.reverse ++ S) (hst : (S.map fun v => v.category).sum ≤ 8) (hd : decode y.2.1 pc = .ok (.invokestatic idx, 3)) (h : ∀ x : Mem, JO G y (d + 1) (pc + 3) L S x ι (f x)) : JO G y (d + 1) pc L S0 σ ι (r'.bind f) := fun v hv => by
  obtain ⟨x, hx, hfx⟩ := Option.bind_eq_some_iff.mp hv
  refine J_callS As lk ho (hM x hx) (fun q sh' σ' hk => by rw [hk.1]; rfl) (Nat.le_refl _) (Nat.le_refl _) hn h0 hst hd (fun q sh' σ' hk => ?_)
  obtain ⟨rfl, hk⟩ := hk
  cases hk
  exact h x v hfx
theorem JO_callSNi {own : String} {idx n : Nat} {r' : Option (Int32 × Mem)} {f : Int32 × Mem → Option α} (As : List Value) (lk : LSN own idx y' n) (ho : own = y.1.cls) (hM : JS G y' d As σ rI r') (hn : As.length = n) (h0 : S0 = As.reverse ++ S) (hst : (S.map fun v => v.category).sum ≤ 8) (hd : decode y.2.1 pc = .ok (.invokestatic idx, 3)) (h : ∀ x : Int32 × Mem, JO G y (d + 1) (pc + 3) L (.int x.1 :: S) x.2 ι (f x)) : JO G y (d + 1) pc L S0 σ ι (r'.bind f) := fun v hv => by
  obtain ⟨x, hx, hfx⟩ := Option.bind_eq_some_iff.mp hv
  refine J_callSN As lk ho (hM x hx) (fun q sh' σ' hk => by rw [hk.1]; rfl) (Nat.le_refl _) (Nat.le_refl _) hn h0 hst hd (fun q sh' σ' hk => ?_)
  obtain ⟨rfl, hk⟩ := hk
  cases hk
  exact h x v hfx
theorem JO_callSNv {own : String} {idx n : Nat} {r' : Option (Mem)} {f : Mem → Option α} (As : List Value) (lk : LSN own idx y' n) (ho : own = y.1.cls) (hM : JS G y' d As σ rV r') (hn : As.length = n) (h0 : S0 = As.reverse ++ S) (hst : (S.map fun v => v.category).sum ≤ 8) (hd : decode y.2.1 pc = .ok (.invokestatic idx, 3)) (h : ∀ x : Mem, JO G y (d + 1) (pc + 3) L S x ι (f x)) : JO G y (d + 1) pc L S0 σ ι (r'.bind f) := fun v hv => by
  obtain ⟨x, hx, hfx⟩ := Option.bind_eq_some_iff.mp hv
  refine J_callSN As lk ho (hM x hx) (fun q sh' σ' hk => by rw [hk.1]; rfl) (Nat.le_refl _) (Nat.le_refl _) hn h0 hst hd (fun q sh' σ' hk => ?_)
  obtain ⟨rfl, hk⟩ := hk
  cases hk
  exact h x v hfx
end JOCalls
