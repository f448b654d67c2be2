/-! EVERY CLASS THAT ONLY MAKES ARRAYS -/
section CT4
variable {l : Launch} {ca : Nat → ClassId} {D : va_G}
def opCountings : List cO := [(2, 0, 0, 12, 11), (2, 1, 0, 12, 15), (2, 2, 0, 12, 18)]
def dfCountings : List Value := [.null, .null, .null, .int 0]
theorem kCountings : cG l ca D ⟨mCN 0, "<init>", "()V"⟩ prog_2_method_1_code 1 0 dfCountings [] (rmK opCountings) (cnP ca 0 opCountings dfCountings) := c_cn (ci := 0) (C := "ChestOfLetters$Countings") (T := mF0) (N := 4) 0 3 rfl (by decide +kernel) rfl (by decide +kernel) (by decide +kernel) (by decide +kernel) (by decide +kernel) rfl (by decide +kernel)
theorem dCountings : ∀ j, j < 4 → ∀ ty, parseFieldDescriptor (mF0 j).2.2.1 = some ty → defaultValue ty = vp_V dfCountings j := by
  intro j hj ty h
  have key : ∀ j, j < 4 → (parseFieldDescriptor (mF0 j).2.2.1).map defaultValue = some (vp_V dfCountings j) := by decide +kernel
  have := key j hj
  rw [h] at this
  exact Option.some.inj this
def opKin : List cO := [(2, 0, 0, 12, 9), (2, 1, 0, 13, 15), (2, 2, 0, 12, 18), (3, 3, 0, 4096, 21)]
def dfKin : List Value := [.null, .null, .null, .null]
theorem kKin : cG l ca D ⟨mCN 1, "<init>", "()V"⟩ prog_3_method_1_code 1 1 dfKin [] (rmK opKin) (cnP ca 1 opKin dfKin) := c_cn (ci := 1) (C := "ChestOfLetters$Kin") (T := mF1) (N := 4) 1 3 rfl (by decide +kernel) rfl (by decide +kernel) (by decide +kernel) (by decide +kernel) (by decide +kernel) rfl (by decide +kernel)
theorem dKin : ∀ j, j < 4 → ∀ ty, parseFieldDescriptor (mF1 j).2.2.1 = some ty → defaultValue ty = vp_V dfKin j := by
  intro j hj ty h
  have key : ∀ j, j < 4 → (parseFieldDescriptor (mF1 j).2.2.1).map defaultValue = some (vp_V dfKin j) := by decide +kernel
  have := key j hj
  rw [h] at this
  exact Option.some.inj this
def opOrder : List cO := [(2, 0, 0, 60, 11), (2, 1, 0, 60, 17), (2, 2, 0, 60, 20), (2, 3, 0, 60, 23)]
def dfOrder : List Value := [.null, .null, .null, .null, .int 0]
theorem kOrder : cG l ca D ⟨mCN 2, "<init>", "()V"⟩ prog_4_method_1_code 1 2 dfOrder [] (rmK opOrder) (cnP ca 2 opOrder dfOrder) := c_cn (ci := 2) (C := "ChestOfLetters$Order") (T := mF2) (N := 5) 2 3 rfl (by decide +kernel) rfl (by decide +kernel) (by decide +kernel) (by decide +kernel) (by decide +kernel) rfl (by decide +kernel)
theorem dOrder : ∀ j, j < 5 → ∀ ty, parseFieldDescriptor (mF2 j).2.2.1 = some ty → defaultValue ty = vp_V dfOrder j := by
  intro j hj ty h
  have key : ∀ j, j < 5 → (parseFieldDescriptor (mF2 j).2.2.1).map defaultValue = some (vp_V dfOrder j) := by decide +kernel
  have := key j hj
  rw [h] at this
  exact Option.some.inj this
def opPast : List cO := [(3, 0, 0, 1488, 11), (3, 3, 0, 248, 15)]
def dfPast : List Value := [.null, .int 0, .int 0, .null, .int 0]
theorem kPast : cG l ca D ⟨mCN 3, "<init>", "()V"⟩ prog_5_method_1_code 1 3 dfPast [] (rmK opPast) (cnP ca 3 opPast dfPast) := c_cn (ci := 3) (C := "ChestOfLetters$Past") (T := mF3) (N := 5) 3 1 rfl (by decide +kernel) rfl (by decide +kernel) (by decide +kernel) (by decide +kernel) (by decide +kernel) rfl (by decide +kernel)
theorem dPast : ∀ j, j < 5 → ∀ ty, parseFieldDescriptor (mF3 j).2.2.1 = some ty → defaultValue ty = vp_V dfPast j := by
  intro j hj ty h
  have key : ∀ j, j < 5 → (parseFieldDescriptor (mF3 j).2.2.1).map defaultValue = some (vp_V dfPast j) := by decide +kernel
  have := key j hj
  rw [h] at this
  exact Option.some.inj this
def opRenaming : List cO := [(2, 0, 0, 10, 9), (2, 1, 0, 8, 15), (2, 2, 0, 8, 18), (2, 3, 0, 9, 21)]
def dfRenaming : List Value := [.null, .null, .null, .null, .int 0, .int 0, .int 0, .int 0]
theorem kRenaming : cG l ca D ⟨mCN 4, "<init>", "()V"⟩ prog_6_method_1_code 1 4 dfRenaming [] (rmK opRenaming) (cnP ca 4 opRenaming dfRenaming) := c_cn (ci := 4) (C := "ChestOfLetters$Renaming") (T := mF4) (N := 8) 4 3 rfl (by decide +kernel) rfl (by decide +kernel) (by decide +kernel) (by decide +kernel) (by decide +kernel) rfl (by decide +kernel)
theorem dRenaming : ∀ j, j < 8 → ∀ ty, parseFieldDescriptor (mF4 j).2.2.1 = some ty → defaultValue ty = vp_V dfRenaming j := by
  intro j hj ty h
  have key : ∀ j, j < 8 → (parseFieldDescriptor (mF4 j).2.2.1).map defaultValue = some (vp_V dfRenaming j) := by decide +kernel
  have := key j hj
  rw [h] at this
  exact Option.some.inj this
def opRow : List cO := [(2, 0, 0, 16, 7)]
def dfRow : List Value := [.null, .int 0]
theorem kRow : cG l ca D ⟨mCN 5, "<init>", "()V"⟩ prog_7_method_1_code 1 5 dfRow [] (rmK opRow) (cnP ca 5 opRow dfRow) := c_cn (ci := 5) (C := "ChestOfLetters$Row") (T := mF5) (N := 2) 5 1 rfl (by decide +kernel) rfl (by decide +kernel) (by decide +kernel) (by decide +kernel) (by decide +kernel) rfl (by decide +kernel)
theorem dRow : ∀ j, j < 2 → ∀ ty, parseFieldDescriptor (mF5 j).2.2.1 = some ty → defaultValue ty = vp_V dfRow j := by
  intro j hj ty h
  have key : ∀ j, j < 2 → (parseFieldDescriptor (mF5 j).2.2.1).map defaultValue = some (vp_V dfRow j) := by decide +kernel
  have := key j hj
  rw [h] at this
  exact Option.some.inj this
def opRule : List cO := [(2, 0, 0, 40, 9), (2, 3, 0, 40, 15)]
def dfRule : List Value := [.null, .int 0, .int 0, .null]
theorem kRule : cG l ca D ⟨mCN 6, "<init>", "()V"⟩ prog_8_method_1_code 1 6 dfRule [] (rmK opRule) (cnP ca 6 opRule dfRule) := c_cn (ci := 6) (C := "ChestOfLetters$Rule") (T := mF6) (N := 4) 6 1 rfl (by decide +kernel) rfl (by decide +kernel) (by decide +kernel) (by decide +kernel) (by decide +kernel) rfl (by decide +kernel)
theorem dRule : ∀ j, j < 4 → ∀ ty, parseFieldDescriptor (mF6 j).2.2.1 = some ty → defaultValue ty = vp_V dfRule j := by
  intro j hj ty h
  have key : ∀ j, j < 4 → (parseFieldDescriptor (mF6 j).2.2.1).map defaultValue = some (vp_V dfRule j) := by decide +kernel
  have := key j hj
  rw [h] at this
  exact Option.some.inj this
def opSets : List cO := [(3, 0, 0, 2560, 11), (3, 1, 0, 256, 15), (2, 2, 0, 10, 18), (3, 3, 0, 256, 21), (2, 4, 0, 10, 24)]
def dfSets : List Value := [.null, .null, .null, .null, .null, .int 0, .int 0]
theorem kSets : cG l ca D ⟨mCN 7, "<init>", "()V"⟩ prog_9_method_1_code 1 7 dfSets [] (rmK opSets) (cnP ca 7 opSets dfSets) := c_cn (ci := 7) (C := "ChestOfLetters$Sets") (T := mF7) (N := 7) 7 3 rfl (by decide +kernel) rfl (by decide +kernel) (by decide +kernel) (by decide +kernel) (by decide +kernel) rfl (by decide +kernel)
theorem dSets : ∀ j, j < 7 → ∀ ty, parseFieldDescriptor (mF7 j).2.2.1 = some ty → defaultValue ty = vp_V dfSets j := by
  intro j hj ty h
  have key : ∀ j, j < 7 → (parseFieldDescriptor (mF7 j).2.2.1).map defaultValue = some (vp_V dfSets j) := by decide +kernel
  have := key j hj
  rw [h] at this
  exact Option.some.inj this
def opText : List cO := [(2, 0, 1, 80, 11), (1, 4, 9, 0, 15)]
def dfText : List Value := [.null, .int 0, .int 0, .int 0, .int 0]
theorem kText : cG l ca D ⟨mCN 9, "<init>", "()V"⟩ prog_11_method_1_code 1 9 dfText [] (rmK opText) (cnP ca 9 opText dfText) := c_cn (ci := 9) (C := "ChestOfLetters$Text") (T := mF9) (N := 5) 9 3 rfl (by decide +kernel) rfl (by decide +kernel) (by decide +kernel) (by decide +kernel) (by decide +kernel) rfl (by decide +kernel)
theorem dText : ∀ j, j < 5 → ∀ ty, parseFieldDescriptor (mF9 j).2.2.1 = some ty → defaultValue ty = vp_V dfText j := by
  intro j hj ty h
  have key : ∀ j, j < 5 → (parseFieldDescriptor (mF9 j).2.2.1).map defaultValue = some (vp_V dfText j) := by decide +kernel
  have := key j hj
  rw [h] at this
  exact Option.some.inj this
def opTown : List cO := [(2, 0, 0, 10, 9), (2, 1, 0, 10, 15), (2, 4, 0, 12, 18), (2, 5, 0, 12, 21), (2, 6, 0, 96, 24), (2, 7, 0, 120, 27), (2, 8, 0, 8, 30), (2, 11, 0, 8, 33), (2, 12, 0, 8, 36)]
def dfTown : List Value := [.null, .null, .int 0, .int 0, .null, .null, .null, .null, .null, .int 0, .int 0, .null, .null]
theorem kTown : cG l ca D ⟨mCN 10, "<init>", "()V"⟩ prog_12_method_1_code 1 10 dfTown [] (rmK opTown) (cnP ca 10 opTown dfTown) := c_cn (ci := 10) (C := "ChestOfLetters$Town") (T := mF10) (N := 13) 10 3 rfl (by decide +kernel) rfl (by decide +kernel) (by decide +kernel) (by decide +kernel) (by decide +kernel) rfl (by decide +kernel)
theorem dTown : ∀ j, j < 13 → ∀ ty, parseFieldDescriptor (mF10 j).2.2.1 = some ty → defaultValue ty = vp_V dfTown j := by
  intro j hj ty h
  have key : ∀ j, j < 13 → (parseFieldDescriptor (mF10 j).2.2.1).map defaultValue = some (vp_V dfTown j) := by decide +kernel
  have := key j hj
  rw [h] at this
  exact Option.some.inj this
def opModel : List cO := [(2, 0, 0, 10, 9), (2, 2, 0, 12, 13), (2, 3, 0, 12, 16), (2, 4, 0, 96, 19), (2, 5, 0, 120, 22), (2, 7, 0, 8, 25), (2, 8, 0, 8, 28), (2, 9, 0, 8, 31), (2, 10, 0, 80, 34), (2, 11, 0, 8, 37), (2, 12, 0, 8, 40), (2, 14, 2, 80, 43), (2, 16, 0, 16, 47), (2, 24, 0, 10, 50), (2, 25, 0, 8, 53), (2, 26, 2, 40, 56), (1, 28, 9, 0, 59), (3, 30, 0, 1380, 63), (3, 32, 0, 320, 66), (2, 33, 0, 115, 69), (3, 34, 0, 256, 72), (2, 35, 0, 8, 75), (2, 36, 0, 8, 78), (2, 37, 0, 10, 81), (2, 39, 0, 49152, 85), (2, 40, 0, 12, 88), (2, 41, 0, 36, 91), (3, 44, 0, 230, 94), (1, 45, 3, 2, 97), (1, 46, 0, 2, 101)]
def dfModel : List Value := [.null, .int 0, .null, .null, .null, .null, .int 0, .null, .null, .null, .null, .null, .null, .int 0, .null, .int 0, .null, .int 0, .int 0, .null, .int 0, .int 0, .int 0, .int 0, .null, .null, .null, .int 0, .int 0, .int 0, .null, .int 0, .null, .null, .null, .null, .null, .null, .int 0, .null, .null, .null, .int 0, .int 0, .null, .null, .null]
theorem kModel : cG l ca D ⟨mCN 12, "<init>", "()V"⟩ prog_14_method_1_code 1 12 dfModel [] (rmK opModel) (cnP ca 12 opModel dfModel) := c_cn (ci := 12) (C := "ChestOfLettersModel") (T := mF12) (N := 47) 12 3 rfl (by decide +kernel) rfl (by decide +kernel) (by decide +kernel) (by decide +kernel) (by decide +kernel) rfl (by decide +kernel)
theorem dModel : ∀ j, j < 47 → ∀ ty, parseFieldDescriptor (mF12 j).2.2.1 = some ty → defaultValue ty = vp_V dfModel j := by
  intro j hj ty h
  have key : ∀ j, j < 47 → (parseFieldDescriptor (mF12 j).2.2.1).map defaultValue = some (vp_V dfModel j) := by decide +kernel
  have := key j hj
  rw [h] at this
  exact Option.some.inj this
end CT4
