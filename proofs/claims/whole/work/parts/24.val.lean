theorem xcX0_init : xcode 0 = kX0_init := rfl
theorem xqX0_init : xnl 0 = 2 ∧ xrt 0 = 0 := ⟨rfl, rfl⟩
theorem xmX0_init : xMok 0 (yX0_init, cX0_init, none, true) := by
  unfold xMok
  rw [xcX0_init, xqX0_init.1, xqX0_init.2]
  exact ⟨by decide +kernel, (fun _ => (xG_of 552 (by decide +kernel) (by decide +kernel))), by decide, (fun _ => rfl), (fun z => absurd z (by decide)), (fun z => absurd z (by decide)), (fun z => absurd z (by decide)), (fun _ => rfl), vkX0_init⟩
theorem xcX0_forget : xcode 1 = kX0_forget := rfl
theorem xqX0_forget : xnl 1 = 1 ∧ xrt 1 = 0 := ⟨rfl, rfl⟩
theorem xmX0_forget : xMok 1 (yX0_forget, cX0_forget, none, false) := by
  unfold xMok
  rw [xcX0_forget, xqX0_forget.1, xqX0_forget.2]
  exact ⟨by decide +kernel, (fun _ => (xG_of 1051 (by decide +kernel) (by decide +kernel))), by decide, (fun _ => rfl), (fun z => absurd z (by decide)), (fun z => absurd z (by decide)), (fun z => absurd z (by decide)), (fun z => by cases z), vkX0_forget⟩
theorem xcX0_addCut : xcode 2 = kX0_addCut := rfl
theorem xqX0_addCut : xnl 2 = 4 ∧ xrt 2 = 3 := ⟨rfl, rfl⟩
theorem xmX0_addCut : xMok 2 (yX0_addCut, cX0_addCut, some .boolean, false) := by
  unfold xMok
  rw [xcX0_addCut, xqX0_addCut.1, xqX0_addCut.2]
  exact ⟨by decide +kernel, (fun _ => (xG_of 1012 (by decide +kernel) (by decide +kernel))), by decide, (fun z => absurd z (by decide)), (fun z => absurd z (by decide)), (fun z => absurd z (by decide)), (fun _ => rfl), (fun z => by cases z), vkX0_addCut⟩
theorem xcX0_divide : xcode 3 = kX0_divide := rfl
theorem xqX0_divide : xnl 3 = 4 ∧ xrt 3 = 2 := ⟨rfl, rfl⟩
theorem xmX0_divide : xMok 3 (yX0_divide, cX0_divide, some .long, false) := by
  unfold xMok
  rw [xcX0_divide, xqX0_divide.1, xqX0_divide.2]
  exact ⟨by decide +kernel, (fun _ => (xG_of 1021 (by decide +kernel) (by decide +kernel))), by decide, (fun z => absurd z (by decide)), (fun z => absurd z (by decide)), (fun _ => rfl), (fun z => absurd z (by decide)), (fun z => by cases z), vkX0_divide⟩
theorem xcX0_findRest : xcode 4 = kX0_findRest := rfl
theorem xqX0_findRest : xnl 4 = 12 ∧ xrt 4 = 0 := ⟨rfl, rfl⟩
theorem xmX0_findRest : xMok 4 (yX0_findRest, cX0_findRest, none, false) := by
  unfold xMok
  rw [xcX0_findRest, xqX0_findRest.1, xqX0_findRest.2]
  exact ⟨by decide +kernel, (fun _ => (xG_of 1025 (by decide +kernel) (by decide +kernel))), by decide, (fun _ => rfl), (fun z => absurd z (by decide)), (fun z => absurd z (by decide)), (fun z => absurd z (by decide)), (fun z => by cases z), vkX0_findRest⟩
theorem xcX0_countOctet : xcode 5 = kX0_countOctet := rfl
theorem xqX0_countOctet : xnl 5 = 3 ∧ xrt 5 = 1 := ⟨rfl, rfl⟩
theorem xmX0_countOctet : xMok 5 (yX0_countOctet, cX0_countOctet, some .int, false) := by
  unfold xMok
  rw [xcX0_countOctet, xqX0_countOctet.1, xqX0_countOctet.2]
  exact ⟨by decide +kernel, (fun _ => (xG_of 1034 (by decide +kernel) (by decide +kernel))), by decide, (fun z => absurd z (by decide)), (fun _ => rfl), (fun z => absurd z (by decide)), (fun z => absurd z (by decide)), (fun z => by cases z), vkX0_countOctet⟩
theorem xcX0_placeOf : xcode 6 = kX0_placeOf := rfl
theorem xqX0_placeOf : xnl 6 = 2 ∧ xrt 6 = 1 := ⟨rfl, rfl⟩
theorem xmX0_placeOf : xMok 6 (yX0_placeOf, cX0_placeOf, some .int, false) := by
  unfold xMok
  rw [xcX0_placeOf, xqX0_placeOf.1, xqX0_placeOf.2]
  exact ⟨by decide +kernel, (fun _ => (xG_of 1030 (by decide +kernel) (by decide +kernel))), by decide, (fun z => absurd z (by decide)), (fun _ => rfl), (fun z => absurd z (by decide)), (fun z => absurd z (by decide)), (fun z => by cases z), vkX0_placeOf⟩
theorem xcX1_init : xcode 7 = kX1_init := rfl
theorem xqX1_init : xnl 7 = 2 ∧ xrt 7 = 0 := ⟨rfl, rfl⟩
theorem xmX1_init : xMok 7 (yX1_init, cX1_init, none, true) := by
  unfold xMok
  rw [xcX1_init, xqX1_init.1, xqX1_init.2]
  exact ⟨by decide +kernel, (fun _ => (xG_of 94 (by decide +kernel) (by decide +kernel))), by decide, (fun _ => rfl), (fun z => absurd z (by decide)), (fun z => absurd z (by decide)), (fun z => absurd z (by decide)), (fun _ => rfl), vkX1_init⟩
theorem xcX1_reset : xcode 8 = kX1_reset := rfl
theorem xqX1_reset : xnl 8 = 2 ∧ xrt 8 = 0 := ⟨rfl, rfl⟩
theorem xmX1_reset : xMok 8 (yX1_reset, cX1_reset, none, false) := by
  unfold xMok
  rw [xcX1_reset, xqX1_reset.1, xqX1_reset.2]
  exact ⟨by decide +kernel, (fun _ => (xG_of 99 (by decide +kernel) (by decide +kernel))), by decide, (fun _ => rfl), (fun z => absurd z (by decide)), (fun z => absurd z (by decide)), (fun z => absurd z (by decide)), (fun z => by cases z), vkX1_reset⟩
theorem xcX1_has : xcode 9 = kX1_has := rfl
theorem xqX1_has : xnl 9 = 3 ∧ xrt 9 = 3 := ⟨rfl, rfl⟩
theorem xmX1_has : xMok 9 (yX1_has, cX1_has, some .boolean, false) := by
  unfold xMok
  rw [xcX1_has, xqX1_has.1, xqX1_has.2]
  exact ⟨by decide +kernel, (fun _ => (xG_of 693 (by decide +kernel) (by decide +kernel))), by decide, (fun z => absurd z (by decide)), (fun z => absurd z (by decide)), (fun z => absurd z (by decide)), (fun _ => rfl), (fun z => by cases z), vkX1_has⟩
theorem xcX1_of : xcode 10 = kX1_of := rfl
theorem xqX1_of : xnl 10 = 3 ∧ xrt 10 = 1 := ⟨rfl, rfl⟩
theorem xmX1_of : xMok 10 (yX1_of, cX1_of, some .int, false) := by
  unfold xMok
  rw [xcX1_of, xqX1_of.1, xqX1_of.2]
  exact ⟨by decide +kernel, (fun _ => (xG_of 697 (by decide +kernel) (by decide +kernel))), by decide, (fun z => absurd z (by decide)), (fun _ => rfl), (fun z => absurd z (by decide)), (fun z => absurd z (by decide)), (fun z => by cases z), vkX1_of⟩
theorem xcX1_put : xcode 11 = kX1_put := rfl
theorem xqX1_put : xnl 11 = 4 ∧ xrt 11 = 0 := ⟨rfl, rfl⟩
theorem xmX1_put : xMok 11 (yX1_put, cX1_put, none, false) := by
  unfold xMok
  rw [xcX1_put, xqX1_put.1, xqX1_put.2]
  exact ⟨by decide +kernel, (fun _ => (xG_of 702 (by decide +kernel) (by decide +kernel))), by decide, (fun _ => rfl), (fun z => absurd z (by decide)), (fun z => absurd z (by decide)), (fun z => absurd z (by decide)), (fun z => by cases z), vkX1_put⟩
theorem xcX1_copyFrom : xcode 12 = kX1_copyFrom := rfl
theorem xqX1_copyFrom : xnl 12 = 2 ∧ xrt 12 = 0 := ⟨rfl, rfl⟩
theorem xmX1_copyFrom : xMok 12 (yX1_copyFrom, cX1_copyFrom, none, false) := by
  unfold xMok
  rw [xcX1_copyFrom, xqX1_copyFrom.1, xqX1_copyFrom.2]
  exact ⟨by decide +kernel, (fun _ => (xG_of 989 (by decide +kernel) (by decide +kernel))), by decide, (fun _ => rfl), (fun z => absurd z (by decide)), (fun z => absurd z (by decide)), (fun z => absurd z (by decide)), (fun z => by cases z), vkX1_copyFrom⟩
theorem xcX1_prepare : xcode 13 = kX1_prepare := rfl
theorem xqX1_prepare : xnl 13 = 3 ∧ xrt 13 = 0 := ⟨rfl, rfl⟩
theorem xmX1_prepare : xMok 13 (yX1_prepare, cX1_prepare, none, false) := by
  unfold xMok
  rw [xcX1_prepare, xqX1_prepare.1, xqX1_prepare.2]
  exact ⟨by decide +kernel, (fun _ => (xG_of 732 (by decide +kernel) (by decide +kernel))), by decide, (fun _ => rfl), (fun z => absurd z (by decide)), (fun z => absurd z (by decide)), (fun z => absurd z (by decide)), (fun z => by cases z), vkX1_prepare⟩
theorem xcX1_literalCost : xcode 14 = kX1_literalCost := rfl
theorem xqX1_literalCost : xnl 14 = 2 ∧ xrt 14 = 1 := ⟨rfl, rfl⟩
theorem xmX1_literalCost : xMok 14 (yX1_literalCost, cX1_literalCost, some .int, false) := by
  unfold xMok
  rw [xcX1_literalCost, xqX1_literalCost.1, xqX1_literalCost.2]
  exact ⟨by decide +kernel, (fun _ => (xG_of 820 (by decide +kernel) (by decide +kernel))), by decide, (fun z => absurd z (by decide)), (fun _ => rfl), (fun z => absurd z (by decide)), (fun z => absurd z (by decide)), (fun z => by cases z), vkX1_literalCost⟩
theorem xcX1_kindCost : xcode 15 = kX1_kindCost := rfl
theorem xqX1_kindCost : xnl 15 = 2 ∧ xrt 15 = 1 := ⟨rfl, rfl⟩
theorem xmX1_kindCost : xMok 15 (yX1_kindCost, cX1_kindCost, some .int, false) := by
  unfold xMok
  rw [xcX1_kindCost, xqX1_kindCost.1, xqX1_kindCost.2]
  exact ⟨by decide +kernel, (fun _ => (xG_of 774 (by decide +kernel) (by decide +kernel))), by decide, (fun z => absurd z (by decide)), (fun _ => rfl), (fun z => absurd z (by decide)), (fun z => absurd z (by decide)), (fun z => by cases z), vkX1_kindCost⟩
theorem xcX1_stepCost : xcode 16 = kX1_stepCost := rfl
theorem xqX1_stepCost : xnl 16 = 6 ∧ xrt 16 = 1 := ⟨rfl, rfl⟩
theorem xmX1_stepCost : xMok 16 (yX1_stepCost, cX1_stepCost, some .int, false) := by
  unfold xMok
  rw [xcX1_stepCost, xqX1_stepCost.1, xqX1_stepCost.2]
  exact ⟨by decide +kernel, (fun _ => (xG_of 901 (by decide +kernel) (by decide +kernel))), by decide, (fun z => absurd z (by decide)), (fun _ => rfl), (fun z => absurd z (by decide)), (fun z => absurd z (by decide)), (fun z => by cases z), vkX1_stepCost⟩
theorem xcX1_lengthCost : xcode 17 = kX1_lengthCost := rfl
theorem xqX1_lengthCost : xnl 17 = 2 ∧ xrt 17 = 1 := ⟨rfl, rfl⟩
theorem xmX1_lengthCost : xMok 17 (yX1_lengthCost, cX1_lengthCost, some .int, false) := by
  unfold xMok
  rw [xcX1_lengthCost, xqX1_lengthCost.1, xqX1_lengthCost.2]
  exact ⟨by decide +kernel, (fun _ => (xG_of 736 (by decide +kernel) (by decide +kernel))), by decide, (fun z => absurd z (by decide)), (fun _ => rfl), (fun z => absurd z (by decide)), (fun z => absurd z (by decide)), (fun z => by cases z), vkX1_lengthCost⟩
theorem xcX1_distanceCost : xcode 18 = kX1_distanceCost := rfl
theorem xqX1_distanceCost : xnl 18 = 2 ∧ xrt 18 = 1 := ⟨rfl, rfl⟩
theorem xmX1_distanceCost : xMok 18 (yX1_distanceCost, cX1_distanceCost, some .int, false) := by
  unfold xMok
  rw [xcX1_distanceCost, xqX1_distanceCost.1, xqX1_distanceCost.2]
  exact ⟨by decide +kernel, (fun _ => (xG_of 747 (by decide +kernel) (by decide +kernel))), by decide, (fun z => absurd z (by decide)), (fun _ => rfl), (fun z => absurd z (by decide)), (fun z => absurd z (by decide)), (fun z => by cases z), vkX1_distanceCost⟩
theorem xcX1_lengthSlot : xcode 19 = kX1_lengthSlot := rfl
theorem xqX1_lengthSlot : xnl 19 = 2 ∧ xrt 19 = 1 := ⟨rfl, rfl⟩
theorem xmX1_lengthSlot : xMok 19 (yX1_lengthSlot, cX1_lengthSlot, some .int, false) := by
  unfold xMok
  rw [xcX1_lengthSlot, xqX1_lengthSlot.1, xqX1_lengthSlot.2]
  exact ⟨by decide +kernel, (fun _ => (xG_of 739 (by decide +kernel) (by decide +kernel))), by decide, (fun z => absurd z (by decide)), (fun _ => rfl), (fun z => absurd z (by decide)), (fun z => absurd z (by decide)), (fun z => by cases z), vkX1_lengthSlot⟩
theorem xcX1_distanceSlot : xcode 20 = kX1_distanceSlot := rfl
theorem xqX1_distanceSlot : xnl 20 = 2 ∧ xrt 20 = 1 := ⟨rfl, rfl⟩
theorem xmX1_distanceSlot : xMok 20 (yX1_distanceSlot, cX1_distanceSlot, some .int, false) := by
  unfold xMok
  rw [xcX1_distanceSlot, xqX1_distanceSlot.1, xqX1_distanceSlot.2]
  exact ⟨by decide +kernel, (fun _ => (xG_of 750 (by decide +kernel) (by decide +kernel))), by decide, (fun z => absurd z (by decide)), (fun _ => rfl), (fun z => absurd z (by decide)), (fun z => absurd z (by decide)), (fun z => by cases z), vkX1_distanceSlot⟩
theorem xcX1_fitTo : xcode 21 = kX1_fitTo := rfl
theorem xqX1_fitTo : xnl 21 = 4 ∧ xrt 21 = 0 := ⟨rfl, rfl⟩
theorem xmX1_fitTo : xMok 21 (yX1_fitTo, cX1_fitTo, none, false) := by
  unfold xMok
  rw [xcX1_fitTo, xqX1_fitTo.1, xqX1_fitTo.2]
  exact ⟨by decide +kernel, (fun _ => (xG_of 967 (by decide +kernel) (by decide +kernel))), by decide, (fun _ => rfl), (fun z => absurd z (by decide)), (fun z => absurd z (by decide)), (fun z => absurd z (by decide)), (fun z => by cases z), vkX1_fitTo⟩
theorem xcX1_countSymbols : xcode 22 = kX1_countSymbols := rfl
theorem xqX1_countSymbols : xnl 22 = 5 ∧ xrt 22 = 0 := ⟨rfl, rfl⟩
theorem xmX1_countSymbols : xMok 22 (yX1_countSymbols, cX1_countSymbols, none, false) := by
  unfold xMok
  rw [xcX1_countSymbols, xqX1_countSymbols.1, xqX1_countSymbols.2]
  exact ⟨by decide +kernel, (fun _ => (xG_of 971 (by decide +kernel) (by decide +kernel))), by decide, (fun _ => rfl), (fun z => absurd z (by decide)), (fun z => absurd z (by decide)), (fun z => absurd z (by decide)), (fun z => by cases z), vkX1_countSymbols⟩
theorem xcX1_countOne : xcode 23 = kX1_countOne := rfl
theorem xqX1_countOne : xnl 23 = 3 ∧ xrt 23 = 0 := ⟨rfl, rfl⟩
theorem xmX1_countOne : xMok 23 (yX1_countOne, cX1_countOne, none, false) := by
  unfold xMok
  rw [xcX1_countOne, xqX1_countOne.1, xqX1_countOne.2]
  exact ⟨by decide +kernel, (fun _ => (xG_of 976 (by decide +kernel) (by decide +kernel))), by decide, (fun _ => rfl), (fun z => absurd z (by decide)), (fun z => absurd z (by decide)), (fun z => absurd z (by decide)), (fun z => by cases z), vkX1_countOne⟩
theorem xcX1_fitClass : xcode 24 = kX1_fitClass := rfl
theorem xqX1_fitClass : xnl 24 = 6 ∧ xrt 24 = 0 := ⟨rfl, rfl⟩
theorem xmX1_fitClass : xMok 24 (yX1_fitClass, cX1_fitClass, none, false) := by
  unfold xMok
  rw [xcX1_fitClass, xqX1_fitClass.1, xqX1_fitClass.2]
  exact ⟨by decide +kernel, (fun _ => (xG_of 980 (by decide +kernel) (by decide +kernel))), by decide, (fun _ => rfl), (fun z => absurd z (by decide)), (fun z => absurd z (by decide)), (fun z => absurd z (by decide)), (fun z => by cases z), vkX1_fitClass⟩
theorem xcX2_init : xcode 25 = kX2_init := rfl
theorem xqX2_init : xnl 25 = 3 ∧ xrt 25 = 0 := ⟨rfl, rfl⟩
theorem xmX2_init : xMok 25 (yX2_init, cX2_init, none, true) := by
  unfold xMok
  rw [xcX2_init, xqX2_init.1, xqX2_init.2]
  exact ⟨by decide +kernel, (fun _ => (xG_of 442 (by decide +kernel) (by decide +kernel))), by decide, (fun _ => rfl), (fun z => absurd z (by decide)), (fun z => absurd z (by decide)), (fun z => absurd z (by decide)), (fun _ => rfl), vkX2_init⟩
theorem xcX2_costOf : xcode 26 = kX2_costOf := rfl
theorem xqX2_costOf : xnl 26 = 4 ∧ xrt 26 = 2 := ⟨rfl, rfl⟩
theorem xmX2_costOf : xMok 26 (yX2_costOf, cX2_costOf, some .long, false) := by
  unfold xMok
  rw [xcX2_costOf, xqX2_costOf.1, xqX2_costOf.2]
  exact ⟨by decide +kernel, (fun _ => (xG_of 897 (by decide +kernel) (by decide +kernel))), by decide, (fun z => absurd z (by decide)), (fun z => absurd z (by decide)), (fun _ => rfl), (fun z => absurd z (by decide)), (fun z => by cases z), vkX2_costOf⟩
theorem xcX3_at : xcode 27 = kX3_at := rfl
theorem xqX3_at : xnl 27 = 3 ∧ xrt 27 = 1 := ⟨rfl, rfl⟩
theorem xmX3_at : xMok 27 (yX3_at, cX3_at, some .int, false) := by
  unfold xMok
  rw [xcX3_at, xqX3_at.1, xqX3_at.2]
  exact ⟨by decide +kernel, (fun _ => (xG_of 808 (by decide +kernel) (by decide +kernel))), by decide, (fun z => absurd z (by decide)), (fun _ => rfl), (fun z => absurd z (by decide)), (fun z => absurd z (by decide)), (fun z => by cases z), vkX3_at⟩
theorem xcX3_behindCopy : xcode 28 = kX3_behindCopy := rfl
theorem xqX3_behindCopy : xnl 28 = 3 ∧ xrt 28 = 2 := ⟨rfl, rfl⟩
theorem xmX3_behindCopy : xMok 28 (yX3_behindCopy, cX3_behindCopy, some .long, false) := by
  unfold xMok
  rw [xcX3_behindCopy, xqX3_behindCopy.1, xqX3_behindCopy.2]
  exact ⟨by decide +kernel, (fun _ => (xG_of 789 (by decide +kernel) (by decide +kernel))), by decide, (fun z => absurd z (by decide)), (fun z => absurd z (by decide)), (fun _ => rfl), (fun z => absurd z (by decide)), (fun z => by cases z), vkX3_behindCopy⟩
theorem xcX3_behindAgain : xcode 29 = kX3_behindAgain := rfl
theorem xqX3_behindAgain : xnl 29 = 8 ∧ xrt 29 = 2 := ⟨rfl, rfl⟩
theorem xmX3_behindAgain : xMok 29 (yX3_behindAgain, cX3_behindAgain, some .long, false) := by
  unfold xMok
  rw [xcX3_behindAgain, xqX3_behindAgain.1, xqX3_behindAgain.2]
  exact ⟨by decide +kernel, (fun _ => (xG_of 815 (by decide +kernel) (by decide +kernel))), by decide, (fun z => absurd z (by decide)), (fun z => absurd z (by decide)), (fun _ => rfl), (fun z => absurd z (by decide)), (fun z => by cases z), vkX3_behindAgain⟩
theorem xcX4_init : xcode 30 = kX4_init := rfl
theorem xqX4_init : xnl 30 = 3 ∧ xrt 30 = 0 := ⟨rfl, rfl⟩
theorem xmX4_init : xMok 30 (yX4_init, cX4_init, none, true) := by
  unfold xMok
  rw [xcX4_init, xqX4_init.1, xqX4_init.2]
  exact ⟨by decide +kernel, (fun _ => (xG_of 498 (by decide +kernel) (by decide +kernel))), by decide, (fun _ => rfl), (fun z => absurd z (by decide)), (fun z => absurd z (by decide)), (fun z => absurd z (by decide)), (fun _ => rfl), vkX4_init⟩
theorem xcX4_findBest : xcode 31 = kX4_findBest := rfl
theorem xqX4_findBest : xnl 31 = 6 ∧ xrt 31 = 1 := ⟨rfl, rfl⟩
theorem xmX4_findBest : xMok 31 (yX4_findBest, cX4_findBest, some .int, false) := by
  unfold xMok
  rw [xcX4_findBest, xqX4_findBest.1, xqX4_findBest.2]
  exact ⟨by decide +kernel, (fun _ => (xG_of 724 (by decide +kernel) (by decide +kernel))), by decide, (fun z => absurd z (by decide)), (fun _ => rfl), (fun z => absurd z (by decide)), (fun z => absurd z (by decide)), (fun z => by cases z), vkX4_findBest⟩
theorem xcX4_begin : xcode 32 = kX4_begin := rfl
theorem xqX4_begin : xnl 32 = 3 ∧ xrt 32 = 0 := ⟨rfl, rfl⟩
theorem xmX4_begin : xMok 32 (yX4_begin, cX4_begin, none, false) := by
  unfold xMok
  rw [xcX4_begin, xqX4_begin.1, xqX4_begin.2]
  exact ⟨by decide +kernel, (fun _ => (xG_of 728 (by decide +kernel) (by decide +kernel))), by decide, (fun _ => rfl), (fun z => absurd z (by decide)), (fun z => absurd z (by decide)), (fun z => absurd z (by decide)), (fun z => by cases z), vkX4_begin⟩
theorem xcX4_goFrom : xcode 33 = kX4_goFrom := rfl
theorem xqX4_goFrom : xnl 33 = 6 ∧ xrt 33 = 0 := ⟨rfl, rfl⟩
theorem xmX4_goFrom : xMok 33 (yX4_goFrom, cX4_goFrom, none, false) := by
  unfold xMok
  rw [xcX4_goFrom, xqX4_goFrom.1, xqX4_goFrom.2]
  exact ⟨by decide +kernel, (fun _ => (xG_of 761 (by decide +kernel) (by decide +kernel))), by decide, (fun _ => rfl), (fun z => absurd z (by decide)), (fun z => absurd z (by decide)), (fun z => absurd z (by decide)), (fun z => by cases z), vkX4_goFrom⟩
theorem xcX4_copiesWereLed : xcode 34 = kX4_copiesWereLed := rfl
theorem xqX4_copiesWereLed : xnl 34 = 3 ∧ xrt 34 = 3 := ⟨rfl, rfl⟩
theorem xmX4_copiesWereLed : xMok 34 (yX4_copiesWereLed, cX4_copiesWereLed, some .boolean, false) := by
  unfold xMok
  rw [xcX4_copiesWereLed, xqX4_copiesWereLed.1, xqX4_copiesWereLed.2]
  exact ⟨by decide +kernel, (fun _ => (xG_of 766 (by decide +kernel) (by decide +kernel))), by decide, (fun z => absurd z (by decide)), (fun z => absurd z (by decide)), (fun z => absurd z (by decide)), (fun _ => rfl), (fun z => by cases z), vkX4_copiesWereLed⟩
theorem xcX4_leadByCopies : xcode 35 = kX4_leadByCopies := rfl
theorem xqX4_leadByCopies : xnl 35 = 5 ∧ xrt 35 = 0 := ⟨rfl, rfl⟩
theorem xmX4_leadByCopies : xMok 35 (yX4_leadByCopies, cX4_leadByCopies, none, false) := by
  unfold xMok
  rw [xcX4_leadByCopies, xqX4_leadByCopies.1, xqX4_leadByCopies.2]
  exact ⟨by decide +kernel, (fun _ => (xG_of 770 (by decide +kernel) (by decide +kernel))), by decide, (fun _ => rfl), (fun z => absurd z (by decide)), (fun z => absurd z (by decide)), (fun z => absurd z (by decide)), (fun z => by cases z), vkX4_leadByCopies⟩
theorem xcX4_leadByAgain : xcode 36 = kX4_leadByAgain := rfl
theorem xqX4_leadByAgain : xnl 36 = 6 ∧ xrt 36 = 0 := ⟨rfl, rfl⟩
theorem xmX4_leadByAgain : xMok 36 (yX4_leadByAgain, cX4_leadByAgain, none, false) := by
  unfold xMok
  rw [xcX4_leadByAgain, xqX4_leadByAgain.1, xqX4_leadByAgain.2]
  exact ⟨by decide +kernel, (fun _ => (xG_of 805 (by decide +kernel) (by decide +kernel))), by decide, (fun _ => rfl), (fun z => absurd z (by decide)), (fun z => absurd z (by decide)), (fun z => absurd z (by decide)), (fun z => by cases z), vkX4_leadByAgain⟩
theorem xcX4_lead : xcode 37 = kX4_lead := rfl
theorem xqX4_lead : xnl 37 = 12 ∧ xrt 37 = 0 := ⟨rfl, rfl⟩
theorem xmX4_lead : xMok 37 (yX4_lead, cX4_lead, none, false) := by
  unfold xMok
  rw [xcX4_lead, xqX4_lead.1, xqX4_lead.2]
  exact ⟨by decide +kernel, (fun _ => (xG_of 793 (by decide +kernel) (by decide +kernel))), by decide, (fun _ => rfl), (fun z => absurd z (by decide)), (fun z => absurd z (by decide)), (fun z => absurd z (by decide)), (fun z => by cases z), vkX4_lead⟩
theorem xcX4_makeRoom : xcode 38 = kX4_makeRoom := rfl
theorem xqX4_makeRoom : xnl 38 = 2 ∧ xrt 38 = 3 := ⟨rfl, rfl⟩
theorem xmX4_makeRoom : xMok 38 (yX4_makeRoom, cX4_makeRoom, some .boolean, false) := by
  unfold xMok
  rw [xcX4_makeRoom, xqX4_makeRoom.1, xqX4_makeRoom.2]
  exact ⟨by decide +kernel, (fun _ => (xG_of 797 (by decide +kernel) (by decide +kernel))), by decide, (fun z => absurd z (by decide)), (fun z => absurd z (by decide)), (fun z => absurd z (by decide)), (fun _ => rfl), (fun z => by cases z), vkX4_makeRoom⟩
theorem xcX4_insert : xcode 39 = kX4_insert := rfl
theorem xqX4_insert : xnl 39 = 7 ∧ xrt 39 = 0 := ⟨rfl, rfl⟩
theorem xmX4_insert : xMok 39 (yX4_insert, cX4_insert, none, false) := by
  unfold xMok
  rw [xcX4_insert, xqX4_insert.1, xqX4_insert.2]
  exact ⟨by decide +kernel, (fun _ => (xG_of 801 (by decide +kernel) (by decide +kernel))), by decide, (fun _ => rfl), (fun z => absurd z (by decide)), (fun z => absurd z (by decide)), (fun z => absurd z (by decide)), (fun z => by cases z), vkX4_insert⟩
theorem xcX4_tellSteps : xcode 40 = kX4_tellSteps := rfl
theorem xqX4_tellSteps : xnl 40 = 8 ∧ xrt 40 = 0 := ⟨rfl, rfl⟩
theorem xmX4_tellSteps : xMok 40 (yX4_tellSteps, cX4_tellSteps, none, false) := by
  unfold xMok
  rw [xcX4_tellSteps, xqX4_tellSteps.1, xqX4_tellSteps.2]
  exact ⟨by decide +kernel, (fun _ => (xG_of 824 (by decide +kernel) (by decide +kernel))), by decide, (fun _ => rfl), (fun z => absurd z (by decide)), (fun z => absurd z (by decide)), (fun z => absurd z (by decide)), (fun z => by cases z), vkX4_tellSteps⟩
theorem xcX5_init : xcode 41 = kX5_init := rfl
theorem xqX5_init : xnl 41 = 4 ∧ xrt 41 = 0 := ⟨rfl, rfl⟩
theorem xmX5_init : xMok 41 (yX5_init, cX5_init, none, true) := by
  unfold xMok
  rw [xcX5_init, xqX5_init.1, xqX5_init.2]
  exact ⟨by decide +kernel, (fun _ => (xG_of 471 (by decide +kernel) (by decide +kernel))), by decide, (fun _ => rfl), (fun z => absurd z (by decide)), (fun z => absurd z (by decide)), (fun z => absurd z (by decide)), (fun _ => rfl), vkX5_init⟩
theorem xcX5_findBest : xcode 42 = kX5_findBest := rfl
theorem xqX5_findBest : xnl 42 = 5 ∧ xrt 42 = 1 := ⟨rfl, rfl⟩
theorem xmX5_findBest : xMok 42 (yX5_findBest, cX5_findBest, some .int, false) := by
  unfold xMok
  rw [xcX5_findBest, xqX5_findBest.1, xqX5_findBest.2]
  exact ⟨by decide +kernel, (fun _ => (xG_of 842 (by decide +kernel) (by decide +kernel))), by decide, (fun z => absurd z (by decide)), (fun _ => rfl), (fun z => absurd z (by decide)), (fun z => absurd z (by decide)), (fun z => by cases z), vkX5_findBest⟩
theorem xcX5_findFirst : xcode 43 = kX5_findFirst := rfl
theorem xqX5_findFirst : xnl 43 = 5 ∧ xrt 43 = 0 := ⟨rfl, rfl⟩
theorem xmX5_findFirst : xMok 43 (yX5_findFirst, cX5_findFirst, none, false) := by
  unfold xMok
  rw [xcX5_findFirst, xqX5_findFirst.1, xqX5_findFirst.2]
  exact ⟨by decide +kernel, (fun _ => (xG_of 851 (by decide +kernel) (by decide +kernel))), by decide, (fun _ => rfl), (fun z => absurd z (by decide)), (fun z => absurd z (by decide)), (fun z => absurd z (by decide)), (fun z => by cases z), vkX5_findFirst⟩
theorem xcX5_lead : xcode 44 = kX5_lead := rfl
theorem xqX5_lead : xnl 44 = 4 ∧ xrt 44 = 0 := ⟨rfl, rfl⟩
theorem xmX5_lead : xMok 44 (yX5_lead, cX5_lead, none, false) := by
  unfold xMok
  rw [xcX5_lead, xqX5_lead.1, xqX5_lead.2]
  exact ⟨by decide +kernel, (fun _ => (xG_of 855 (by decide +kernel) (by decide +kernel))), by decide, (fun _ => rfl), (fun z => absurd z (by decide)), (fun z => absurd z (by decide)), (fun z => absurd z (by decide)), (fun z => by cases z), vkX5_lead⟩
theorem xcX5_tellSteps : xcode 45 = kX5_tellSteps := rfl
theorem xqX5_tellSteps : xnl 45 = 5 ∧ xrt 45 = 0 := ⟨rfl, rfl⟩
theorem xmX5_tellSteps : xMok 45 (yX5_tellSteps, cX5_tellSteps, none, false) := by
  unfold xMok
  rw [xcX5_tellSteps, xqX5_tellSteps.1, xqX5_tellSteps.2]
  exact ⟨by decide +kernel, (fun _ => (xG_of 862 (by decide +kernel) (by decide +kernel))), by decide, (fun _ => rfl), (fun z => absurd z (by decide)), (fun z => absurd z (by decide)), (fun z => absurd z (by decide)), (fun z => by cases z), vkX5_tellSteps⟩
theorem xcX5_costOf : xcode 46 = kX5_costOf := rfl
theorem xqX5_costOf : xnl 46 = 5 ∧ xrt 46 = 2 := ⟨rfl, rfl⟩
theorem xmX5_costOf : xMok 46 (yX5_costOf, cX5_costOf, some .long, false) := by
  unfold xMok
  rw [xcX5_costOf, xqX5_costOf.1, xqX5_costOf.2]
  exact ⟨by decide +kernel, (fun _ => (xG_of 895 (by decide +kernel) (by decide +kernel))), by decide, (fun z => absurd z (by decide)), (fun z => absurd z (by decide)), (fun _ => rfl), (fun z => absurd z (by decide)), (fun z => by cases z), vkX5_costOf⟩
theorem xcX5_copyCost : xcode 47 = kX5_copyCost := rfl
theorem xqX5_copyCost : xnl 47 = 1 ∧ xrt 47 = 1 := ⟨rfl, rfl⟩
theorem xmX5_copyCost : xMok 47 (yX5_copyCost, cX5_copyCost, some .int, false) := by
  unfold xMok
  rw [xcX5_copyCost, xqX5_copyCost.1, xqX5_copyCost.2]
  exact ⟨by decide +kernel, (fun _ => (xG_of 858 (by decide +kernel) (by decide +kernel))), by decide, (fun z => absurd z (by decide)), (fun _ => rfl), (fun z => absurd z (by decide)), (fun z => absurd z (by decide)), (fun z => by cases z), vkX5_copyCost⟩
theorem xcX5_beyond : xcode 48 = kX5_beyond := rfl
theorem xqX5_beyond : xnl 48 = 2 ∧ xrt 48 = 1 := ⟨rfl, rfl⟩
theorem xmX5_beyond : xMok 48 (yX5_beyond, cX5_beyond, some .int, false) := by
  unfold xMok
  rw [xcX5_beyond, xqX5_beyond.1, xqX5_beyond.2]
  exact ⟨by decide +kernel, (fun _ => (xG_of 475 (by decide +kernel) (by decide +kernel))), by decide, (fun z => absurd z (by decide)), (fun _ => rfl), (fun z => absurd z (by decide)), (fun z => absurd z (by decide)), (fun z => by cases z), vkX5_beyond⟩
theorem xcX6_init : xcode 49 = kX6_init := rfl
theorem xqX6_init : xnl 49 = 1 ∧ xrt 49 = 0 := ⟨rfl, rfl⟩
theorem xmX6_init : xMok 49 (yX6_init, cX6_init, none, true) := by
  unfold xMok
  rw [xcX6_init, xqX6_init.1, xqX6_init.2]
  exact ⟨by decide +kernel, (fun _ => (xG_of 589 (by decide +kernel) (by decide +kernel))), by decide, (fun _ => rfl), (fun z => absurd z (by decide)), (fun z => absurd z (by decide)), (fun z => absurd z (by decide)), (fun _ => rfl), vkX6_init⟩
theorem xcX6_hasStep : xcode 50 = kX6_hasStep := rfl
theorem xqX6_hasStep : xnl 50 = 2 ∧ xrt 50 = 3 := ⟨rfl, rfl⟩
theorem xmX6_hasStep : xMok 50 (yX6_hasStep, cX6_hasStep, some .boolean, false) := by
  unfold xMok
  rw [xcX6_hasStep, xqX6_hasStep.1, xqX6_hasStep.2]
  exact ⟨by decide +kernel, (fun _ => (xG_of 905 (by decide +kernel) (by decide +kernel))), by decide, (fun z => absurd z (by decide)), (fun z => absurd z (by decide)), (fun z => absurd z (by decide)), (fun _ => rfl), (fun z => by cases z), vkX6_hasStep⟩
theorem xcX6_begin : xcode 51 = kX6_begin := rfl
theorem xqX6_begin : xnl 51 = 1 ∧ xrt 51 = 0 := ⟨rfl, rfl⟩
theorem xmX6_begin : xMok 51 (yX6_begin, cX6_begin, none, false) := by
  unfold xMok
  rw [xcX6_begin, xqX6_begin.1, xqX6_begin.2]
  exact ⟨by decide +kernel, (fun _ => (xG_of 828 (by decide +kernel) (by decide +kernel))), by decide, (fun _ => rfl), (fun z => absurd z (by decide)), (fun z => absurd z (by decide)), (fun z => absurd z (by decide)), (fun z => by cases z), vkX6_begin⟩
theorem xcX6_add : xcode 52 = kX6_add := rfl
theorem xqX6_add : xnl 52 = 5 ∧ xrt 52 = 0 := ⟨rfl, rfl⟩
theorem xmX6_add : xMok 52 (yX6_add, cX6_add, none, false) := by
  unfold xMok
  rw [xcX6_add, xqX6_add.1, xqX6_add.2]
  exact ⟨by decide +kernel, (fun _ => (xG_of 832 (by decide +kernel) (by decide +kernel))), by decide, (fun _ => rfl), (fun z => absurd z (by decide)), (fun z => absurd z (by decide)), (fun z => absurd z (by decide)), (fun z => by cases z), vkX6_add⟩
theorem xcX6_turnRound : xcode 53 = kX6_turnRound := rfl
theorem xqX6_turnRound : xnl 53 = 3 ∧ xrt 53 = 0 := ⟨rfl, rfl⟩
theorem xmX6_turnRound : xMok 53 (yX6_turnRound, cX6_turnRound, none, false) := by
  unfold xMok
  rw [xcX6_turnRound, xqX6_turnRound.1, xqX6_turnRound.2]
  exact ⟨by decide +kernel, (fun _ => (xG_of 836 (by decide +kernel) (by decide +kernel))), by decide, (fun _ => rfl), (fun z => absurd z (by decide)), (fun z => absurd z (by decide)), (fun z => absurd z (by decide)), (fun z => by cases z), vkX6_turnRound⟩
theorem xcX6_swap : xcode 54 = kX6_swap := rfl
theorem xqX6_swap : xnl 54 = 4 ∧ xrt 54 = 0 := ⟨rfl, rfl⟩
theorem xmX6_swap : xMok 54 (yX6_swap, cX6_swap, none, false) := by
  unfold xMok
  rw [xcX6_swap, xqX6_swap.1, xqX6_swap.2]
  exact ⟨by decide +kernel, (fun _ => (xG_of 839 (by decide +kernel) (by decide +kernel))), by decide, (fun _ => rfl), (fun z => absurd z (by decide)), (fun z => absurd z (by decide)), (fun z => absurd z (by decide)), (fun z => by cases z), vkX6_swap⟩
theorem xcX6_finish : xcode 55 = kX6_finish := rfl
theorem xqX6_finish : xnl 55 = 7 ∧ xrt 55 = 0 := ⟨rfl, rfl⟩
theorem xmX6_finish : xMok 55 (yX6_finish, cX6_finish, none, false) := by
  unfold xMok
  rw [xcX6_finish, xqX6_finish.1, xqX6_finish.2]
  exact ⟨by decide +kernel, (fun _ => (xG_of 911 (by decide +kernel) (by decide +kernel))), by decide, (fun _ => rfl), (fun z => absurd z (by decide)), (fun z => absurd z (by decide)), (fun z => absurd z (by decide)), (fun z => by cases z), vkX6_finish⟩
theorem xcX6_tellBack : xcode 56 = kX6_tellBack := rfl
theorem xqX6_tellBack : xnl 56 = 5 ∧ xrt 56 = 0 := ⟨rfl, rfl⟩
theorem xmX6_tellBack : xMok 56 (yX6_tellBack, cX6_tellBack, none, false) := by
  unfold xMok
  rw [xcX6_tellBack, xqX6_tellBack.1, xqX6_tellBack.2]
  exact ⟨by decide +kernel, (fun _ => (xG_of 915 (by decide +kernel) (by decide +kernel))), by decide, (fun _ => rfl), (fun z => absurd z (by decide)), (fun z => absurd z (by decide)), (fun z => absurd z (by decide)), (fun z => by cases z), vkX6_tellBack⟩
theorem xcX7_init : xcode 57 = kX7_init := rfl
theorem xqX7_init : xnl 57 = 3 ∧ xrt 57 = 0 := ⟨rfl, rfl⟩
theorem xmX7_init : xMok 57 (yX7_init, cX7_init, none, true) := by
  unfold xMok
  rw [xcX7_init, xqX7_init.1, xqX7_init.2]
  exact ⟨by decide +kernel, (fun _ => (xG_of 439 (by decide +kernel) (by decide +kernel))), by decide, (fun _ => rfl), (fun z => absurd z (by decide)), (fun z => absurd z (by decide)), (fun z => absurd z (by decide)), (fun _ => rfl), vkX7_init⟩
theorem xcX7_findBest : xcode 58 = kX7_findBest := rfl
theorem xqX7_findBest : xnl 58 = 6 ∧ xrt 58 = 1 := ⟨rfl, rfl⟩
theorem xmX7_findBest : xMok 58 (yX7_findBest, cX7_findBest, some .int, false) := by
  unfold xMok
  rw [xcX7_findBest, xqX7_findBest.1, xqX7_findBest.2]
  exact ⟨by decide +kernel, (fun _ => (xG_of 870 (by decide +kernel) (by decide +kernel))), by decide, (fun z => absurd z (by decide)), (fun _ => rfl), (fun z => absurd z (by decide)), (fun z => absurd z (by decide)), (fun z => by cases z), vkX7_findBest⟩
theorem xcX7_lead : xcode 59 = kX7_lead := rfl
theorem xqX7_lead : xnl 59 = 5 ∧ xrt 59 = 0 := ⟨rfl, rfl⟩
theorem xmX7_lead : xMok 59 (yX7_lead, cX7_lead, none, false) := by
  unfold xMok
  rw [xcX7_lead, xqX7_lead.1, xqX7_lead.2]
  exact ⟨by decide +kernel, (fun _ => (xG_of 879 (by decide +kernel) (by decide +kernel))), by decide, (fun _ => rfl), (fun z => absurd z (by decide)), (fun z => absurd z (by decide)), (fun z => absurd z (by decide)), (fun z => by cases z), vkX7_lead⟩
theorem xcX7_tellSteps : xcode 60 = kX7_tellSteps := rfl
theorem xqX7_tellSteps : xnl 60 = 4 ∧ xrt 60 = 0 := ⟨rfl, rfl⟩
theorem xmX7_tellSteps : xMok 60 (yX7_tellSteps, cX7_tellSteps, none, false) := by
  unfold xMok
  rw [xcX7_tellSteps, xqX7_tellSteps.1, xqX7_tellSteps.2]
  exact ⟨by decide +kernel, (fun _ => (xG_of 884 (by decide +kernel) (by decide +kernel))), by decide, (fun _ => rfl), (fun z => absurd z (by decide)), (fun z => absurd z (by decide)), (fun z => absurd z (by decide)), (fun z => by cases z), vkX7_tellSteps⟩
theorem xcX8_init : xcode 61 = kX8_init := rfl
theorem xqX8_init : xnl 61 = 3 ∧ xrt 61 = 0 := ⟨rfl, rfl⟩
theorem xmX8_init : xMok 61 (yX8_init, cX8_init, none, true) := by
  unfold xMok
  rw [xcX8_init, xqX8_init.1, xqX8_init.2]
  exact ⟨by decide +kernel, (fun _ => (xG_of 539 (by decide +kernel) (by decide +kernel))), by decide, (fun _ => rfl), (fun z => absurd z (by decide)), (fun z => absurd z (by decide)), (fun z => absurd z (by decide)), (fun _ => rfl), vkX8_init⟩
theorem xcX8_walk : xcode 62 = kX8_walk := rfl
theorem xqX8_walk : xnl 62 = 9 ∧ xrt 62 = 0 := ⟨rfl, rfl⟩
theorem xmX8_walk : xMok 62 (yX8_walk, cX8_walk, none, false) := by
  unfold xMok
  rw [xcX8_walk, xqX8_walk.1, xqX8_walk.2]
  exact ⟨by decide +kernel, (fun _ => (xG_of 919 (by decide +kernel) (by decide +kernel))), by decide, (fun _ => rfl), (fun z => absurd z (by decide)), (fun z => absurd z (by decide)), (fun z => absurd z (by decide)), (fun z => by cases z), vkX8_walk⟩
theorem xcX8_longerAhead : xcode 63 = kX8_longerAhead := rfl
theorem xqX8_longerAhead : xnl 63 = 5 ∧ xrt 63 = 3 := ⟨rfl, rfl⟩
theorem xmX8_longerAhead : xMok 63 (yX8_longerAhead, cX8_longerAhead, some .boolean, false) := by
  unfold xMok
  rw [xcX8_longerAhead, xqX8_longerAhead.1, xqX8_longerAhead.2]
  exact ⟨by decide +kernel, (fun _ => (xG_of 926 (by decide +kernel) (by decide +kernel))), by decide, (fun z => absurd z (by decide)), (fun z => absurd z (by decide)), (fun z => absurd z (by decide)), (fun _ => rfl), (fun z => by cases z), vkX8_longerAhead⟩
theorem xcX8_againAsLong : xcode 64 = kX8_againAsLong := rfl
theorem xqX8_againAsLong : xnl 64 = 6 ∧ xrt 64 = 1 := ⟨rfl, rfl⟩
theorem xmX8_againAsLong : xMok 64 (yX8_againAsLong, cX8_againAsLong, some .int, false) := by
  unfold xMok
  rw [xcX8_againAsLong, xqX8_againAsLong.1, xqX8_againAsLong.2]
  exact ⟨by decide +kernel, (fun _ => (xG_of 931 (by decide +kernel) (by decide +kernel))), by decide, (fun z => absurd z (by decide)), (fun _ => rfl), (fun z => absurd z (by decide)), (fun z => absurd z (by decide)), (fun z => by cases z), vkX8_againAsLong⟩
theorem xcX9_init : xcode 65 = kX9_init := rfl
theorem xqX9_init : xnl 65 = 2 ∧ xrt 65 = 0 := ⟨rfl, rfl⟩
theorem xmX9_init : xMok 65 (yX9_init, cX9_init, none, true) := by
  unfold xMok
  rw [xcX9_init, xqX9_init.1, xqX9_init.2]
  exact ⟨by decide +kernel, (fun _ => (xG_of 47 (by decide +kernel) (by decide +kernel))), by decide, (fun _ => rfl), (fun z => absurd z (by decide)), (fun z => absurd z (by decide)), (fun z => absurd z (by decide)), (fun _ => rfl), vkX9_init⟩
theorem xcX9_has : xcode 66 = kX9_has := rfl
theorem xqX9_has : xnl 66 = 2 ∧ xrt 66 = 3 := ⟨rfl, rfl⟩
theorem xmX9_has : xMok 66 (yX9_has, cX9_has, some .boolean, false) := by
  unfold xMok
  rw [xcX9_has, xqX9_has.1, xqX9_has.2]
  exact ⟨by decide +kernel, (fun _ => (xG_of 782 (by decide +kernel) (by decide +kernel))), by decide, (fun z => absurd z (by decide)), (fun z => absurd z (by decide)), (fun z => absurd z (by decide)), (fun _ => rfl), (fun z => by cases z), vkX9_has⟩
theorem xcX9_append : xcode 67 = kX9_append := rfl
theorem xqX9_append : xnl 67 = 5 ∧ xrt 67 = 0 := ⟨rfl, rfl⟩
theorem xmX9_append : xMok 67 (yX9_append, cX9_append, none, false) := by
  unfold xMok
  rw [xcX9_append, xqX9_append.1, xqX9_append.2]
  exact ⟨by decide +kernel, (fun _ => (xG_of 677 (by decide +kernel) (by decide +kernel))), by decide, (fun _ => rfl), (fun z => absurd z (by decide)), (fun z => absurd z (by decide)), (fun z => absurd z (by decide)), (fun z => by cases z), vkX9_append⟩
theorem xcX9_noteCopies : xcode 68 = kX9_noteCopies := rfl
theorem xqX9_noteCopies : xnl 68 = 6 ∧ xrt 68 = 0 := ⟨rfl, rfl⟩
theorem xmX9_noteCopies : xMok 68 (yX9_noteCopies, cX9_noteCopies, none, false) := by
  unfold xMok
  rw [xcX9_noteCopies, xqX9_noteCopies.1, xqX9_noteCopies.2]
  exact ⟨by decide +kernel, (fun _ => (xG_of 681 (by decide +kernel) (by decide +kernel))), by decide, (fun _ => rfl), (fun z => absurd z (by decide)), (fun z => absurd z (by decide)), (fun z => absurd z (by decide)), (fun z => by cases z), vkX9_noteCopies⟩
theorem xcX9_longestCopy : xcode 69 = kX9_longestCopy := rfl
theorem xqX9_longestCopy : xnl 69 = 2 ∧ xrt 69 = 1 := ⟨rfl, rfl⟩
theorem xmX9_longestCopy : xMok 69 (yX9_longestCopy, cX9_longestCopy, some .int, false) := by
  unfold xMok
  rw [xcX9_longestCopy, xqX9_longestCopy.1, xqX9_longestCopy.2]
  exact ⟨by decide +kernel, (fun _ => (xG_of 778 (by decide +kernel) (by decide +kernel))), by decide, (fun z => absurd z (by decide)), (fun _ => rfl), (fun z => absurd z (by decide)), (fun z => absurd z (by decide)), (fun z => by cases z), vkX9_longestCopy⟩
theorem xcX9_copyDistance : xcode 70 = kX9_copyDistance := rfl
theorem xqX9_copyDistance : xnl 70 = 3 ∧ xrt 70 = 1 := ⟨rfl, rfl⟩
theorem xmX9_copyDistance : xMok 70 (yX9_copyDistance, cX9_copyDistance, some .int, false) := by
  unfold xMok
  rw [xcX9_copyDistance, xqX9_copyDistance.1, xqX9_copyDistance.2]
  exact ⟨by decide +kernel, (fun _ => (xG_of 786 (by decide +kernel) (by decide +kernel))), by decide, (fun z => absurd z (by decide)), (fun _ => rfl), (fun z => absurd z (by decide)), (fun z => absurd z (by decide)), (fun z => by cases z), vkX9_copyDistance⟩
theorem xcX9_sameBy : xcode 71 = kX9_sameBy := rfl
theorem xqX9_sameBy : xnl 71 = 5 ∧ xrt 71 = 1 := ⟨rfl, rfl⟩
theorem xmX9_sameBy : xMok 71 (yX9_sameBy, cX9_sameBy, some .int, false) := by
  unfold xMok
  rw [xcX9_sameBy, xqX9_sameBy.1, xqX9_sameBy.2]
  exact ⟨by decide +kernel, (fun _ => (xG_of 812 (by decide +kernel) (by decide +kernel))), by decide, (fun z => absurd z (by decide)), (fun _ => rfl), (fun z => absurd z (by decide)), (fun z => absurd z (by decide)), (fun z => by cases z), vkX9_sameBy⟩
theorem xcX9_nearestIndex : xcode 72 = kX9_nearestIndex := rfl
theorem xqX9_nearestIndex : xnl 72 = 2 ∧ xrt 72 = 1 := ⟨rfl, rfl⟩
theorem xmX9_nearestIndex : xMok 72 (yX9_nearestIndex, cX9_nearestIndex, some .int, false) := by
  unfold xMok
  rw [xcX9_nearestIndex, xqX9_nearestIndex.1, xqX9_nearestIndex.2]
  exact ⟨by decide +kernel, (fun _ => (xG_of 685 (by decide +kernel) (by decide +kernel))), by decide, (fun z => absurd z (by decide)), (fun _ => rfl), (fun z => absurd z (by decide)), (fun z => absurd z (by decide)), (fun z => by cases z), vkX9_nearestIndex⟩
theorem xcX10_init : xcode 73 = kX10_init := rfl
theorem xqX10_init : xnl 73 = 2 ∧ xrt 73 = 0 := ⟨rfl, rfl⟩
theorem xmX10_init : xMok 73 (yX10_init, cX10_init, none, true) := by
  unfold xMok
  rw [xcX10_init, xqX10_init.1, xqX10_init.2]
  exact ⟨by decide +kernel, (fun _ => (xG_of 33 (by decide +kernel) (by decide +kernel))), by decide, (fun _ => rfl), (fun z => absurd z (by decide)), (fun z => absurd z (by decide)), (fun z => absurd z (by decide)), (fun _ => rfl), vkX10_init⟩
theorem xcX10_octets : xcode 74 = kX10_octets := rfl
theorem xqX10_octets : xnl 74 = 5 ∧ xrt 74 = 1 := ⟨rfl, rfl⟩
theorem xmX10_octets : xMok 74 (yX10_octets, cX10_octets, some .int, false) := by
  unfold xMok
  rw [xcX10_octets, xqX10_octets.1, xqX10_octets.2]
  exact ⟨by decide +kernel, (fun _ => (xG_of 673 (by decide +kernel) (by decide +kernel))), by decide, (fun z => absurd z (by decide)), (fun _ => rfl), (fun z => absurd z (by decide)), (fun z => absurd z (by decide)), (fun z => by cases z), vkX10_octets⟩
theorem xcX10_cost : xcode 75 = kX10_cost := rfl
theorem xqX10_cost : xnl 75 = 5 ∧ xrt 75 = 1 := ⟨rfl, rfl⟩
theorem xmX10_cost : xMok 75 (yX10_cost, cX10_cost, some .int, false) := by
  unfold xMok
  rw [xcX10_cost, xqX10_cost.1, xqX10_cost.2]
  exact ⟨by decide +kernel, (fun _ => (xG_of 689 (by decide +kernel) (by decide +kernel))), by decide, (fun z => absurd z (by decide)), (fun _ => rfl), (fun z => absurd z (by decide)), (fun z => absurd z (by decide)), (fun z => by cases z), vkX10_cost⟩
theorem xcX10_price : xcode 76 = kX10_price := rfl
theorem xqX10_price : xnl 76 = 3 ∧ xrt 76 = 1 := ⟨rfl, rfl⟩
theorem xmX10_price : xMok 76 (yX10_price, cX10_price, some .int, false) := by
  unfold xMok
  rw [xcX10_price, xqX10_price.1, xqX10_price.2]
  exact ⟨by decide +kernel, (fun _ => (xG_of 706 (by decide +kernel) (by decide +kernel))), by decide, (fun z => absurd z (by decide)), (fun _ => rfl), (fun z => absurd z (by decide)), (fun z => absurd z (by decide)), (fun z => by cases z), vkX10_price⟩
theorem xcX10_keep : xcode 77 = kX10_keep := rfl
theorem xqX10_keep : xnl 77 = 3 ∧ xrt 77 = 1 := ⟨rfl, rfl⟩
theorem xmX10_keep : xMok 77 (yX10_keep, cX10_keep, some .int, false) := by
  unfold xMok
  rw [xcX10_keep, xqX10_keep.1, xqX10_keep.2]
  exact ⟨by decide +kernel, (fun _ => (xG_of 710 (by decide +kernel) (by decide +kernel))), by decide, (fun z => absurd z (by decide)), (fun _ => rfl), (fun z => absurd z (by decide)), (fun z => absurd z (by decide)), (fun z => by cases z), vkX10_keep⟩
theorem xcX10_parse : xcode 78 = kX10_parse := rfl
theorem xqX10_parse : xnl 78 = 2 ∧ xrt 78 = 1 := ⟨rfl, rfl⟩
theorem xmX10_parse : xMok 78 (yX10_parse, cX10_parse, some .int, false) := by
  unfold xMok
  rw [xcX10_parse, xqX10_parse.1, xqX10_parse.2]
  exact ⟨by decide +kernel, (fun _ => (xG_of 714 (by decide +kernel) (by decide +kernel))), by decide, (fun z => absurd z (by decide)), (fun _ => rfl), (fun z => absurd z (by decide)), (fun z => absurd z (by decide)), (fun z => by cases z), vkX10_parse⟩
theorem xcX10_step : xcode 79 = kX10_step := rfl
theorem xqX10_step : xnl 79 = 3 ∧ xrt 79 = 1 := ⟨rfl, rfl⟩
theorem xmX10_step : xMok 79 (yX10_step, cX10_step, some .int, false) := by
  unfold xMok
  rw [xcX10_step, xqX10_step.1, xqX10_step.2]
  exact ⟨by decide +kernel, (fun _ => (xG_of 940 (by decide +kernel) (by decide +kernel))), by decide, (fun z => absurd z (by decide)), (fun _ => rfl), (fun z => absurd z (by decide)), (fun z => absurd z (by decide)), (fun z => by cases z), vkX10_step⟩
theorem xcX10_sum : xcode 80 = kX10_sum := rfl
theorem xqX10_sum : xnl 80 = 1 ∧ xrt 80 = 2 := ⟨rfl, rfl⟩
theorem xmX10_sum : xMok 80 (yX10_sum, cX10_sum, some .long, false) := by
  unfold xMok
  rw [xcX10_sum, xqX10_sum.1, xqX10_sum.2]
  exact ⟨by decide +kernel, (fun _ => (xG_of 945 (by decide +kernel) (by decide +kernel))), by decide, (fun z => absurd z (by decide)), (fun z => absurd z (by decide)), (fun _ => rfl), (fun z => absurd z (by decide)), (fun z => by cases z), vkX10_sum⟩
theorem xcX10_again : xcode 81 = kX10_again := rfl
theorem xqX10_again : xnl 81 = 1 ∧ xrt 81 = 2 := ⟨rfl, rfl⟩
theorem xmX10_again : xMok 81 (yX10_again, cX10_again, some .long, false) := by
  unfold xMok
  rw [xcX10_again, xqX10_again.1, xqX10_again.2]
  exact ⟨by decide +kernel, (fun _ => (xG_of 950 (by decide +kernel) (by decide +kernel))), by decide, (fun z => absurd z (by decide)), (fun z => absurd z (by decide)), (fun _ => rfl), (fun z => absurd z (by decide)), (fun z => by cases z), vkX10_again⟩
theorem xcX10_least : xcode 82 = kX10_least := rfl
theorem xqX10_least : xnl 82 = 1 ∧ xrt 82 = 3 := ⟨rfl, rfl⟩
theorem xmX10_least : xMok 82 (yX10_least, cX10_least, some .boolean, false) := by
  unfold xMok
  rw [xcX10_least, xqX10_least.1, xqX10_least.2]
  exact ⟨by decide +kernel, (fun _ => (xG_of 954 (by decide +kernel) (by decide +kernel))), by decide, (fun z => absurd z (by decide)), (fun z => absurd z (by decide)), (fun z => absurd z (by decide)), (fun _ => rfl), (fun z => by cases z), vkX10_least⟩
theorem xcX10_told : xcode 83 = kX10_told := rfl
theorem xqX10_told : xnl 83 = 2 ∧ xrt 83 = 1 := ⟨rfl, rfl⟩
theorem xmX10_told : xMok 83 (yX10_told, cX10_told, some .int, false) := by
  unfold xMok
  rw [xcX10_told, xqX10_told.1, xqX10_told.2]
  exact ⟨by decide +kernel, (fun _ => (xG_of 958 (by decide +kernel) (by decide +kernel))), by decide, (fun z => absurd z (by decide)), (fun _ => rfl), (fun z => absurd z (by decide)), (fun z => absurd z (by decide)), (fun z => by cases z), vkX10_told⟩
theorem xcX10_rounds : xcode 84 = kX10_rounds := rfl
theorem xqX10_rounds : xnl 84 = 7 ∧ xrt 84 = 2 := ⟨rfl, rfl⟩
theorem xmX10_rounds : xMok 84 (yX10_rounds, cX10_rounds, some .long, false) := by
  unfold xMok
  rw [xcX10_rounds, xqX10_rounds.1, xqX10_rounds.2]
  exact ⟨by decide +kernel, (fun _ => (xG_of 963 (by decide +kernel) (by decide +kernel))), by decide, (fun z => absurd z (by decide)), (fun z => absurd z (by decide)), (fun _ => rfl), (fun z => absurd z (by decide)), (fun z => by cases z), vkX10_rounds⟩
theorem xcX10_longest : xcode 85 = kX10_longest := rfl
theorem xqX10_longest : xnl 85 = 2 ∧ xrt 85 = 1 := ⟨rfl, rfl⟩
theorem xmX10_longest : xMok 85 (yX10_longest, cX10_longest, some .int, false) := by
  unfold xMok
  rw [xcX10_longest, xqX10_longest.1, xqX10_longest.2]
  exact ⟨by decide +kernel, (fun _ => (xG_of 998 (by decide +kernel) (by decide +kernel))), by decide, (fun z => absurd z (by decide)), (fun _ => rfl), (fun z => absurd z (by decide)), (fun z => absurd z (by decide)), (fun z => by cases z), vkX10_longest⟩
theorem xcX10_distance : xcode 86 = kX10_distance := rfl
theorem xqX10_distance : xnl 86 = 4 ∧ xrt 86 = 1 := ⟨rfl, rfl⟩
theorem xmX10_distance : xMok 86 (yX10_distance, cX10_distance, some .int, false) := by
  unfold xMok
  rw [xcX10_distance, xqX10_distance.1, xqX10_distance.2]
  exact ⟨by decide +kernel, (fun _ => (xG_of 1003 (by decide +kernel) (by decide +kernel))), by decide, (fun z => absurd z (by decide)), (fun _ => rfl), (fun z => absurd z (by decide)), (fun z => absurd z (by decide)), (fun z => by cases z), vkX10_distance⟩
theorem xcX10_cut : xcode 87 = kX10_cut := rfl
theorem xqX10_cut : xnl 87 = 2 ∧ xrt 87 = 1 := ⟨rfl, rfl⟩
theorem xmX10_cut : xMok 87 (yX10_cut, cX10_cut, some .int, false) := by
  unfold xMok
  rw [xcX10_cut, xqX10_cut.1, xqX10_cut.2]
  exact ⟨by decide +kernel, (fun _ => (xG_of 1008 (by decide +kernel) (by decide +kernel))), by decide, (fun z => absurd z (by decide)), (fun _ => rfl), (fun z => absurd z (by decide)), (fun z => absurd z (by decide)), (fun z => by cases z), vkX10_cut⟩
theorem xcX10_split : xcode 88 = kX10_split := rfl
theorem xqX10_split : xnl 88 = 2 ∧ xrt 88 = 2 := ⟨rfl, rfl⟩
theorem xmX10_split : xMok 88 (yX10_split, cX10_split, some .long, false) := by
  unfold xMok
  rw [xcX10_split, xqX10_split.1, xqX10_split.2]
  exact ⟨by decide +kernel, (fun _ => (xG_of 1016 (by decide +kernel) (by decide +kernel))), by decide, (fun z => absurd z (by decide)), (fun z => absurd z (by decide)), (fun _ => rfl), (fun z => absurd z (by decide)), (fun z => by cases z), vkX10_split⟩
theorem xcX10_taken : xcode 89 = kX10_taken := rfl
theorem xqX10_taken : xnl 89 = 2 ∧ xrt 89 = 1 := ⟨rfl, rfl⟩
theorem xmX10_taken : xMok 89 (yX10_taken, cX10_taken, some .int, false) := by
  unfold xMok
  rw [xcX10_taken, xqX10_taken.1, xqX10_taken.2]
  exact ⟨by decide +kernel, (fun _ => (xG_of 1039 (by decide +kernel) (by decide +kernel))), by decide, (fun z => absurd z (by decide)), (fun _ => rfl), (fun z => absurd z (by decide)), (fun z => absurd z (by decide)), (fun z => by cases z), vkX10_taken⟩
theorem xcX10_many : xcode 90 = kX10_many := rfl
theorem xqX10_many : xnl 90 = 2 ∧ xrt 90 = 1 := ⟨rfl, rfl⟩
theorem xmX10_many : xMok 90 (yX10_many, cX10_many, some .int, false) := by
  unfold xMok
  rw [xcX10_many, xqX10_many.1, xqX10_many.2]
  exact ⟨by decide +kernel, (fun _ => (xG_of 1043 (by decide +kernel) (by decide +kernel))), by decide, (fun z => absurd z (by decide)), (fun _ => rfl), (fun z => absurd z (by decide)), (fun z => absurd z (by decide)), (fun z => by cases z), vkX10_many⟩
theorem xcX10_clear : xcode 91 = kX10_clear := rfl
theorem xqX10_clear : xnl 91 = 1 ∧ xrt 91 = 0 := ⟨rfl, rfl⟩
theorem xmX10_clear : xMok 91 (yX10_clear, cX10_clear, none, false) := by
  unfold xMok
  rw [xcX10_clear, xqX10_clear.1, xqX10_clear.2]
  exact ⟨by decide +kernel, (fun _ => (xG_of 1047 (by decide +kernel) (by decide +kernel))), by decide, (fun _ => rfl), (fun z => absurd z (by decide)), (fun z => absurd z (by decide)), (fun z => absurd z (by decide)), (fun z => by cases z), vkX10_clear⟩
theorem xcX10_findBest : xcode 92 = kX10_findBest := rfl
theorem xqX10_findBest : xnl 92 = 2 ∧ xrt 92 = 0 := ⟨rfl, rfl⟩
theorem xmX10_findBest : xMok 92 (yX10_findBest, cX10_findBest, none, false) := by
  unfold xMok
  rw [xcX10_findBest, xqX10_findBest.1, xqX10_findBest.2]
  exact ⟨by decide +kernel, (fun _ => (xG_of 718 (by decide +kernel) (by decide +kernel))), by decide, (fun _ => rfl), (fun z => absurd z (by decide)), (fun z => absurd z (by decide)), (fun z => absurd z (by decide)), (fun z => by cases z), vkX10_findBest⟩
theorem xcX10_takeSpare : xcode 93 = kX10_takeSpare := rfl
theorem xqX10_takeSpare : xnl 93 = 2 ∧ xrt 93 = 0 := ⟨rfl, rfl⟩
theorem xmX10_takeSpare : xMok 93 (yX10_takeSpare, cX10_takeSpare, none, false) := by
  unfold xMok
  rw [xcX10_takeSpare, xqX10_takeSpare.1, xqX10_takeSpare.2]
  exact ⟨by decide +kernel, (fun _ => (xG_of 994 (by decide +kernel) (by decide +kernel))), by decide, (fun _ => rfl), (fun z => absurd z (by decide)), (fun z => absurd z (by decide)), (fun z => absurd z (by decide)), (fun z => by cases z), vkX10_takeSpare⟩
theorem xcX10_logOf : xcode 94 = kX10_logOf := rfl
theorem xqX10_logOf : xnl 94 = 2 ∧ xrt 94 = 1 := ⟨rfl, rfl⟩
theorem xmX10_logOf : xMok 94 (yX10_logOf, cX10_logOf, some .int, false) := by
  unfold xMok
  rw [xcX10_logOf, xqX10_logOf.1, xqX10_logOf.2]
  exact ⟨by decide +kernel, (fun _ => (xG_of 983 (by decide +kernel) (by decide +kernel))), by decide, (fun z => absurd z (by decide)), (fun _ => rfl), (fun z => absurd z (by decide)), (fun z => absurd z (by decide)), (fun z => by cases z), vkX10_logOf⟩
theorem xcX10_highestBit : xcode 95 = kX10_highestBit := rfl
theorem xqX10_highestBit : xnl 95 = 2 ∧ xrt 95 = 1 := ⟨rfl, rfl⟩
theorem xmX10_highestBit : xMok 95 (yX10_highestBit, cX10_highestBit, some .int, false) := by
  unfold xMok
  rw [xcX10_highestBit, xqX10_highestBit.1, xqX10_highestBit.2]
  exact ⟨by decide +kernel, (fun _ => (xG_of 742 (by decide +kernel) (by decide +kernel))), by decide, (fun z => absurd z (by decide)), (fun _ => rfl), (fun z => absurd z (by decide)), (fun z => absurd z (by decide)), (fun z => by cases z), vkX10_highestBit⟩
theorem xcX11_init : xcode 96 = kX11_init := rfl
theorem xqX11_init : xnl 96 = 2 ∧ xrt 96 = 0 := ⟨rfl, rfl⟩
theorem xmX11_init : xMok 96 (yX11_init, cX11_init, none, true) := by
  unfold xMok
  rw [xcX11_init, xqX11_init.1, xqX11_init.2]
  exact ⟨by decide +kernel, (fun _ => (xG_of 1073 (by decide +kernel) (by decide +kernel))), by decide, (fun _ => rfl), (fun z => absurd z (by decide)), (fun z => absurd z (by decide)), (fun z => absurd z (by decide)), (fun _ => rfl), vkX11_init⟩
theorem xcX11_thrown : xcode 97 = kX11_thrown := rfl
theorem xqX11_thrown : xnl 97 = 1 ∧ xrt 97 = 1 := ⟨rfl, rfl⟩
theorem xmX11_thrown : xMok 97 (yX11_thrown, cX11_thrown, some .int, false) := by
  unfold xMok
  rw [xcX11_thrown, xqX11_thrown.1, xqX11_thrown.2]
  exact ⟨by decide +kernel, (fun _ => (xG_of 1226 (by decide +kernel) (by decide +kernel))), by decide, (fun z => absurd z (by decide)), (fun _ => rfl), (fun z => absurd z (by decide)), (fun z => absurd z (by decide)), (fun z => by cases z), vkX11_thrown⟩
theorem xcX11_start : xcode 98 = kX11_start := rfl
theorem xqX11_start : xnl 98 = 2 ∧ xrt 98 = 0 := ⟨rfl, rfl⟩
theorem xmX11_start : xMok 98 (yX11_start, cX11_start, none, false) := by
  unfold xMok
  rw [xcX11_start, xqX11_start.1, xqX11_start.2]
  exact ⟨by decide +kernel, (fun _ => (xG_of 1080 (by decide +kernel) (by decide +kernel))), by decide, (fun _ => rfl), (fun z => absurd z (by decide)), (fun z => absurd z (by decide)), (fun z => absurd z (by decide)), (fun z => by cases z), vkX11_start⟩
theorem xcX11_shortest : xcode 99 = kX11_shortest := rfl
theorem xqX11_shortest : xnl 99 = 1 ∧ xrt 99 = 1 := ⟨rfl, rfl⟩
theorem xmX11_shortest : xMok 99 (yX11_shortest, cX11_shortest, some .int, false) := by
  unfold xMok
  rw [xcX11_shortest, xqX11_shortest.1, xqX11_shortest.2]
  exact ⟨by decide +kernel, (fun _ => (xG_of 1302 (by decide +kernel) (by decide +kernel))), by decide, (fun z => absurd z (by decide)), (fun _ => rfl), (fun z => absurd z (by decide)), (fun z => absurd z (by decide)), (fun z => by cases z), vkX11_shortest⟩
theorem xcX11_greatest : xcode 100 = kX11_greatest := rfl
theorem xqX11_greatest : xnl 100 = 1 ∧ xrt 100 = 1 := ⟨rfl, rfl⟩
theorem xmX11_greatest : xMok 100 (yX11_greatest, cX11_greatest, some .int, false) := by
  unfold xMok
  rw [xcX11_greatest, xqX11_greatest.1, xqX11_greatest.2]
  exact ⟨by decide +kernel, (fun _ => (xG_of 1266 (by decide +kernel) (by decide +kernel))), by decide, (fun z => absurd z (by decide)), (fun _ => rfl), (fun z => absurd z (by decide)), (fun z => absurd z (by decide)), (fun z => by cases z), vkX11_greatest⟩
theorem xcX11_symbols : xcode 101 = kX11_symbols := rfl
theorem xqX11_symbols : xnl 101 = 1 ∧ xrt 101 = 1 := ⟨rfl, rfl⟩
theorem xmX11_symbols : xMok 101 (yX11_symbols, cX11_symbols, some .int, false) := by
  unfold xMok
  rw [xcX11_symbols, xqX11_symbols.1, xqX11_symbols.2]
  exact ⟨by decide +kernel, (fun _ => (xG_of 1242 (by decide +kernel) (by decide +kernel))), by decide, (fun z => absurd z (by decide)), (fun _ => rfl), (fun z => absurd z (by decide)), (fun z => absurd z (by decide)), (fun z => by cases z), vkX11_symbols⟩
theorem xcX11_isCost : xcode 102 = kX11_isCost := rfl
theorem xqX11_isCost : xnl 102 = 3 ∧ xrt 102 = 3 := ⟨rfl, rfl⟩
theorem xmX11_isCost : xMok 102 (yX11_isCost, cX11_isCost, some .boolean, false) := by
  unfold xMok
  rw [xcX11_isCost, xqX11_isCost.1, xqX11_isCost.2]
  exact ⟨by decide +kernel, (fun _ => (xG_of 1239 (by decide +kernel) (by decide +kernel))), by decide, (fun z => absurd z (by decide)), (fun z => absurd z (by decide)), (fun z => absurd z (by decide)), (fun _ => rfl), (fun z => by cases z), vkX11_isCost⟩
theorem xcX11_octets : xcode 103 = kX11_octets := rfl
theorem xqX11_octets : xnl 103 = 5 ∧ xrt 103 = 1 := ⟨rfl, rfl⟩
theorem xmX11_octets : xMok 103 (yX11_octets, cX11_octets, some .int, false) := by
  unfold xMok
  rw [xcX11_octets, xqX11_octets.1, xqX11_octets.2]
  exact ⟨by decide +kernel, (fun _ => (xG_of 1230 (by decide +kernel) (by decide +kernel))), by decide, (fun z => absurd z (by decide)), (fun _ => rfl), (fun z => absurd z (by decide)), (fun z => absurd z (by decide)), (fun z => by cases z), vkX11_octets⟩
theorem xcX11_cost : xcode 104 = kX11_cost := rfl
theorem xqX11_cost : xnl 104 = 5 ∧ xrt 104 = 1 := ⟨rfl, rfl⟩
theorem xmX11_cost : xMok 104 (yX11_cost, cX11_cost, some .int, false) := by
  unfold xMok
  rw [xcX11_cost, xqX11_cost.1, xqX11_cost.2]
  exact ⟨by decide +kernel, (fun _ => (xG_of 1235 (by decide +kernel) (by decide +kernel))), by decide, (fun z => absurd z (by decide)), (fun _ => rfl), (fun z => absurd z (by decide)), (fun z => absurd z (by decide)), (fun z => by cases z), vkX11_cost⟩
theorem xcX11_price : xcode 105 = kX11_price := rfl
theorem xqX11_price : xnl 105 = 3 ∧ xrt 105 = 1 := ⟨rfl, rfl⟩
theorem xmX11_price : xMok 105 (yX11_price, cX11_price, some .int, false) := by
  unfold xMok
  rw [xcX11_price, xqX11_price.1, xqX11_price.2]
  exact ⟨by decide +kernel, (fun _ => (xG_of 1246 (by decide +kernel) (by decide +kernel))), by decide, (fun z => absurd z (by decide)), (fun _ => rfl), (fun z => absurd z (by decide)), (fun z => absurd z (by decide)), (fun z => by cases z), vkX11_price⟩
theorem xcX11_keep : xcode 106 = kX11_keep := rfl
theorem xqX11_keep : xnl 106 = 3 ∧ xrt 106 = 1 := ⟨rfl, rfl⟩
theorem xmX11_keep : xMok 106 (yX11_keep, cX11_keep, some .int, false) := by
  unfold xMok
  rw [xcX11_keep, xqX11_keep.1, xqX11_keep.2]
  exact ⟨by decide +kernel, (fun _ => (xG_of 1250 (by decide +kernel) (by decide +kernel))), by decide, (fun z => absurd z (by decide)), (fun _ => rfl), (fun z => absurd z (by decide)), (fun z => absurd z (by decide)), (fun z => by cases z), vkX11_keep⟩
theorem xcX11_layOut : xcode 107 = kX11_layOut := rfl
theorem xqX11_layOut : xnl 107 = 6 ∧ xrt 107 = 0 := ⟨rfl, rfl⟩
theorem xmX11_layOut : xMok 107 (yX11_layOut, cX11_layOut, none, false) := by
  unfold xMok
  rw [xcX11_layOut, xqX11_layOut.1, xqX11_layOut.2]
  exact ⟨by decide +kernel, (fun _ => (xG_of 1262 (by decide +kernel) (by decide +kernel))), by decide, (fun _ => rfl), (fun z => absurd z (by decide)), (fun z => absurd z (by decide)), (fun z => absurd z (by decide)), (fun z => by cases z), vkX11_layOut⟩
theorem xcX11_longestCopy : xcode 108 = kX11_longestCopy := rfl
theorem xqX11_longestCopy : xnl 108 = 3 ∧ xrt 108 = 1 := ⟨rfl, rfl⟩
theorem xmX11_longestCopy : xMok 108 (yX11_longestCopy, cX11_longestCopy, some .int, false) := by
  unfold xMok
  rw [xcX11_longestCopy, xqX11_longestCopy.1, xqX11_longestCopy.2]
  exact ⟨by decide +kernel, (fun _ => (xG_of 1298 (by decide +kernel) (by decide +kernel))), by decide, (fun z => absurd z (by decide)), (fun _ => rfl), (fun z => absurd z (by decide)), (fun z => absurd z (by decide)), (fun z => by cases z), vkX11_longestCopy⟩
theorem xcX11_longestAgain : xcode 109 = kX11_longestAgain := rfl
theorem xqX11_longestAgain : xnl 109 = 4 ∧ xrt 109 = 1 := ⟨rfl, rfl⟩
theorem xmX11_longestAgain : xMok 109 (yX11_longestAgain, cX11_longestAgain, some .int, false) := by
  unfold xMok
  rw [xcX11_longestAgain, xqX11_longestAgain.1, xqX11_longestAgain.2]
  exact ⟨by decide +kernel, (fun _ => (xG_of 1348 (by decide +kernel) (by decide +kernel))), by decide, (fun z => absurd z (by decide)), (fun _ => rfl), (fun z => absurd z (by decide)), (fun z => absurd z (by decide)), (fun z => by cases z), vkX11_longestAgain⟩
theorem xcX11_high : xcode 110 = kX11_high := rfl
theorem xqX11_high : xnl 110 = 2 ∧ xrt 110 = 1 := ⟨rfl, rfl⟩
theorem xmX11_high : xMok 110 (yX11_high, cX11_high, some .int, false) := by
  unfold xMok
  rw [xcX11_high, xqX11_high.1, xqX11_high.2]
  exact ⟨by decide +kernel, (fun _ => (xG_of 1331 (by decide +kernel) (by decide +kernel))), by decide, (fun z => absurd z (by decide)), (fun _ => rfl), (fun z => absurd z (by decide)), (fun z => absurd z (by decide)), (fun z => by cases z), vkX11_high⟩
theorem xcX11_lengthSlot : xcode 111 = kX11_lengthSlot := rfl
theorem xqX11_lengthSlot : xnl 111 = 2 ∧ xrt 111 = 1 := ⟨rfl, rfl⟩
theorem xmX11_lengthSlot : xMok 111 (yX11_lengthSlot, cX11_lengthSlot, some .int, false) := by
  unfold xMok
  rw [xcX11_lengthSlot, xqX11_lengthSlot.1, xqX11_lengthSlot.2]
  exact ⟨by decide +kernel, (fun _ => (xG_of 1328 (by decide +kernel) (by decide +kernel))), by decide, (fun z => absurd z (by decide)), (fun _ => rfl), (fun z => absurd z (by decide)), (fun z => absurd z (by decide)), (fun z => by cases z), vkX11_lengthSlot⟩
theorem xcX11_lengthBits : xcode 112 = kX11_lengthBits := rfl
theorem xqX11_lengthBits : xnl 112 = 1 ∧ xrt 112 = 1 := ⟨rfl, rfl⟩
theorem xmX11_lengthBits : xMok 112 (yX11_lengthBits, cX11_lengthBits, some .int, false) := by
  unfold xMok
  rw [xcX11_lengthBits, xqX11_lengthBits.1, xqX11_lengthBits.2]
  exact ⟨by decide +kernel, (fun _ => (xG_of 1334 (by decide +kernel) (by decide +kernel))), by decide, (fun z => absurd z (by decide)), (fun _ => rfl), (fun z => absurd z (by decide)), (fun z => absurd z (by decide)), (fun z => by cases z), vkX11_lengthBits⟩
theorem xcX11_distanceSlot : xcode 113 = kX11_distanceSlot := rfl
theorem xqX11_distanceSlot : xnl 113 = 2 ∧ xrt 113 = 1 := ⟨rfl, rfl⟩
theorem xmX11_distanceSlot : xMok 113 (yX11_distanceSlot, cX11_distanceSlot, some .int, false) := by
  unfold xMok
  rw [xcX11_distanceSlot, xqX11_distanceSlot.1, xqX11_distanceSlot.2]
  exact ⟨by decide +kernel, (fun _ => (xG_of 1341 (by decide +kernel) (by decide +kernel))), by decide, (fun z => absurd z (by decide)), (fun _ => rfl), (fun z => absurd z (by decide)), (fun z => absurd z (by decide)), (fun z => by cases z), vkX11_distanceSlot⟩
theorem xcX11_distanceBits : xcode 114 = kX11_distanceBits := rfl
theorem xqX11_distanceBits : xnl 114 = 1 ∧ xrt 114 = 1 := ⟨rfl, rfl⟩
theorem xmX11_distanceBits : xMok 114 (yX11_distanceBits, cX11_distanceBits, some .int, false) := by
  unfold xMok
  rw [xcX11_distanceBits, xqX11_distanceBits.1, xqX11_distanceBits.2]
  exact ⟨by decide +kernel, (fun _ => (xG_of 1344 (by decide +kernel) (by decide +kernel))), by decide, (fun z => absurd z (by decide)), (fun _ => rfl), (fun z => absurd z (by decide)), (fun z => absurd z (by decide)), (fun z => by cases z), vkX11_distanceBits⟩
theorem xcX11_lengthCost : xcode 115 = kX11_lengthCost := rfl
theorem xqX11_lengthCost : xnl 115 = 3 ∧ xrt 115 = 1 := ⟨rfl, rfl⟩
theorem xmX11_lengthCost : xMok 115 (yX11_lengthCost, cX11_lengthCost, some .int, false) := by
  unfold xMok
  rw [xcX11_lengthCost, xqX11_lengthCost.1, xqX11_lengthCost.2]
  exact ⟨by decide +kernel, (fun _ => (xG_of 1325 (by decide +kernel) (by decide +kernel))), by decide, (fun z => absurd z (by decide)), (fun _ => rfl), (fun z => absurd z (by decide)), (fun z => absurd z (by decide)), (fun z => by cases z), vkX11_lengthCost⟩
theorem xcX11_distanceCost : xcode 116 = kX11_distanceCost := rfl
theorem xqX11_distanceCost : xnl 116 = 2 ∧ xrt 116 = 1 := ⟨rfl, rfl⟩
theorem xmX11_distanceCost : xMok 116 (yX11_distanceCost, cX11_distanceCost, some .int, false) := by
  unfold xMok
  rw [xcX11_distanceCost, xqX11_distanceCost.1, xqX11_distanceCost.2]
  exact ⟨by decide +kernel, (fun _ => (xG_of 1338 (by decide +kernel) (by decide +kernel))), by decide, (fun z => absurd z (by decide)), (fun _ => rfl), (fun z => absurd z (by decide)), (fun z => absurd z (by decide)), (fun z => by cases z), vkX11_distanceCost⟩
theorem xcX11_kindCost : xcode 117 = kX11_kindCost := rfl
theorem xqX11_kindCost : xnl 117 = 2 ∧ xrt 117 = 1 := ⟨rfl, rfl⟩
theorem xmX11_kindCost : xMok 117 (yX11_kindCost, cX11_kindCost, some .int, false) := by
  unfold xMok
  rw [xcX11_kindCost, xqX11_kindCost.1, xqX11_kindCost.2]
  exact ⟨by decide +kernel, (fun _ => (xG_of 1321 (by decide +kernel) (by decide +kernel))), by decide, (fun z => absurd z (by decide)), (fun _ => rfl), (fun z => absurd z (by decide)), (fun z => absurd z (by decide)), (fun z => by cases z), vkX11_kindCost⟩
theorem xcX11_more : xcode 118 = kX11_more := rfl
theorem xqX11_more : xnl 118 = 2 ∧ xrt 118 = 1 := ⟨rfl, rfl⟩
theorem xmX11_more : xMok 118 (yX11_more, cX11_more, some .int, false) := by
  unfold xMok
  rw [xcX11_more, xqX11_more.1, xqX11_more.2]
  exact ⟨by decide +kernel, (fun _ => (xG_of 1317 (by decide +kernel) (by decide +kernel))), by decide, (fun z => absurd z (by decide)), (fun _ => rfl), (fun z => absurd z (by decide)), (fun z => absurd z (by decide)), (fun z => by cases z), vkX11_more⟩
theorem xcX11_stepCost : xcode 119 = kX11_stepCost := rfl
theorem xqX11_stepCost : xnl 119 = 6 ∧ xrt 119 = 1 := ⟨rfl, rfl⟩
theorem xmX11_stepCost : xMok 119 (yX11_stepCost, cX11_stepCost, some .int, false) := by
  unfold xMok
  rw [xcX11_stepCost, xqX11_stepCost.1, xqX11_stepCost.2]
  exact ⟨by decide +kernel, (fun _ => (xG_of 1314 (by decide +kernel) (by decide +kernel))), by decide, (fun z => absurd z (by decide)), (fun _ => rfl), (fun z => absurd z (by decide)), (fun z => absurd z (by decide)), (fun z => by cases z), vkX11_stepCost⟩
theorem xcX11_allCost : xcode 120 = kX11_allCost := rfl
theorem xqX11_allCost : xnl 120 = 5 ∧ xrt 120 = 2 := ⟨rfl, rfl⟩
theorem xmX11_allCost : xMok 120 (yX11_allCost, cX11_allCost, some .long, false) := by
  unfold xMok
  rw [xcX11_allCost, xqX11_allCost.1, xqX11_allCost.2]
  exact ⟨by decide +kernel, (fun _ => (xG_of 1398 (by decide +kernel) (by decide +kernel))), by decide, (fun z => absurd z (by decide)), (fun z => absurd z (by decide)), (fun _ => rfl), (fun z => absurd z (by decide)), (fun z => by cases z), vkX11_allCost⟩
theorem xcX11_clearLatest : xcode 121 = kX11_clearLatest := rfl
theorem xqX11_clearLatest : xnl 121 = 2 ∧ xrt 121 = 0 := ⟨rfl, rfl⟩
theorem xmX11_clearLatest : xMok 121 (yX11_clearLatest, cX11_clearLatest, none, false) := by
  unfold xMok
  rw [xcX11_clearLatest, xqX11_clearLatest.1, xqX11_clearLatest.2]
  exact ⟨by decide +kernel, (fun _ => (xG_of 1274 (by decide +kernel) (by decide +kernel))), by decide, (fun _ => rfl), (fun z => absurd z (by decide)), (fun z => absurd z (by decide)), (fun z => absurd z (by decide)), (fun z => by cases z), vkX11_clearLatest⟩
theorem xcX11_ahead : xcode 122 = kX11_ahead := rfl
theorem xqX11_ahead : xnl 122 = 4 ∧ xrt 122 = 0 := ⟨rfl, rfl⟩
theorem xmX11_ahead : xMok 122 (yX11_ahead, cX11_ahead, none, false) := by
  unfold xMok
  rw [xcX11_ahead, xqX11_ahead.1, xqX11_ahead.2]
  exact ⟨by decide +kernel, (fun _ => (xG_of 1310 (by decide +kernel) (by decide +kernel))), by decide, (fun _ => rfl), (fun z => absurd z (by decide)), (fun z => absurd z (by decide)), (fun z => absurd z (by decide)), (fun z => by cases z), vkX11_ahead⟩
theorem xcX11_longestOf : xcode 123 = kX11_longestOf := rfl
theorem xqX11_longestOf : xnl 123 = 5 ∧ xrt 123 = 1 := ⟨rfl, rfl⟩
theorem xmX11_longestOf : xMok 123 (yX11_longestOf, cX11_longestOf, some .int, false) := by
  unfold xMok
  rw [xcX11_longestOf, xqX11_longestOf.1, xqX11_longestOf.2]
  exact ⟨by decide +kernel, (fun _ => (xG_of 1394 (by decide +kernel) (by decide +kernel))), by decide, (fun z => absurd z (by decide)), (fun _ => rfl), (fun z => absurd z (by decide)), (fun z => absurd z (by decide)), (fun z => by cases z), vkX11_longestOf⟩
theorem xcX11_addStep : xcode 124 = kX11_addStep := rfl
theorem xqX11_addStep : xnl 124 = 5 ∧ xrt 124 = 0 := ⟨rfl, rfl⟩
theorem xmX11_addStep : xMok 124 (yX11_addStep, cX11_addStep, none, false) := by
  unfold xMok
  rw [xcX11_addStep, xqX11_addStep.1, xqX11_addStep.2]
  exact ⟨by decide +kernel, (fun _ => (xG_of 1356 (by decide +kernel) (by decide +kernel))), by decide, (fun _ => rfl), (fun z => absurd z (by decide)), (fun z => absurd z (by decide)), (fun z => absurd z (by decide)), (fun z => by cases z), vkX11_addStep⟩
theorem xcX11_greedy : xcode 125 = kX11_greedy := rfl
theorem xqX11_greedy : xnl 125 = 6 ∧ xrt 125 = 0 := ⟨rfl, rfl⟩
theorem xmX11_greedy : xMok 125 (yX11_greedy, cX11_greedy, none, false) := by
  unfold xMok
  rw [xcX11_greedy, xqX11_greedy.1, xqX11_greedy.2]
  exact ⟨by decide +kernel, (fun _ => (xG_of 1390 (by decide +kernel) (by decide +kernel))), by decide, (fun _ => rfl), (fun z => absurd z (by decide)), (fun z => absurd z (by decide)), (fun z => absurd z (by decide)), (fun z => by cases z), vkX11_greedy⟩
theorem xcX11_at : xcode 126 = kX11_at := rfl
theorem xqX11_at : xnl 126 = 3 ∧ xrt 126 = 1 := ⟨rfl, rfl⟩
theorem xmX11_at : xMok 126 (yX11_at, cX11_at, some .int, false) := by
  unfold xMok
  rw [xcX11_at, xqX11_at.1, xqX11_at.2]
  exact ⟨by decide +kernel, (fun _ => (xG_of 1368 (by decide +kernel) (by decide +kernel))), by decide, (fun z => absurd z (by decide)), (fun _ => rfl), (fun z => absurd z (by decide)), (fun z => absurd z (by decide)), (fun z => by cases z), vkX11_at⟩
theorem xcX11_firstRow : xcode 127 = kX11_firstRow := rfl
theorem xqX11_firstRow : xnl 127 = 4 ∧ xrt 127 = 1 := ⟨rfl, rfl⟩
theorem xmX11_firstRow : xMok 127 (yX11_firstRow, cX11_firstRow, some .int, false) := by
  unfold xMok
  rw [xcX11_firstRow, xqX11_firstRow.1, xqX11_firstRow.2]
  exact ⟨by decide +kernel, (fun _ => (xG_of 1373 (by decide +kernel) (by decide +kernel))), by decide, (fun z => absurd z (by decide)), (fun _ => rfl), (fun z => absurd z (by decide)), (fun z => absurd z (by decide)), (fun z => by cases z), vkX11_firstRow⟩
theorem xcX11_clearTable : xcode 128 = kX11_clearTable := rfl
theorem xqX11_clearTable : xnl 128 = 3 ∧ xrt 128 = 0 := ⟨rfl, rfl⟩
theorem xmX11_clearTable : xMok 128 (yX11_clearTable, cX11_clearTable, none, false) := by
  unfold xMok
  rw [xcX11_clearTable, xqX11_clearTable.1, xqX11_clearTable.2]
  exact ⟨by decide +kernel, (fun _ => (xG_of 1364 (by decide +kernel) (by decide +kernel))), by decide, (fun _ => rfl), (fun z => absurd z (by decide)), (fun z => absurd z (by decide)), (fun z => absurd z (by decide)), (fun z => by cases z), vkX11_clearTable⟩
theorem xcX11_copies : xcode 129 = kX11_copies := rfl
theorem xqX11_copies : xnl 129 = 7 ∧ xrt 129 = 0 := ⟨rfl, rfl⟩
theorem xmX11_copies : xMok 129 (yX11_copies, cX11_copies, none, false) := by
  unfold xMok
  rw [xcX11_copies, xqX11_copies.1, xqX11_copies.2]
  exact ⟨by decide +kernel, (fun _ => (xG_of 1377 (by decide +kernel) (by decide +kernel))), by decide, (fun _ => rfl), (fun z => absurd z (by decide)), (fun z => absurd z (by decide)), (fun z => absurd z (by decide)), (fun z => by cases z), vkX11_copies⟩
theorem xcX11_literals : xcode 130 = kX11_literals := rfl
theorem xqX11_literals : xnl 130 = 6 ∧ xrt 130 = 0 := ⟨rfl, rfl⟩
theorem xmX11_literals : xMok 130 (yX11_literals, cX11_literals, none, false) := by
  unfold xMok
  rw [xcX11_literals, xqX11_literals.1, xqX11_literals.2]
  exact ⟨by decide +kernel, (fun _ => (xG_of 1381 (by decide +kernel) (by decide +kernel))), by decide, (fun _ => rfl), (fun z => absurd z (by decide)), (fun z => absurd z (by decide)), (fun z => absurd z (by decide)), (fun z => by cases z), vkX11_literals⟩
theorem xcX11_backPlain : xcode 131 = kX11_backPlain := rfl
theorem xqX11_backPlain : xnl 131 = 6 ∧ xrt 131 = 0 := ⟨rfl, rfl⟩
theorem xmX11_backPlain : xMok 131 (yX11_backPlain, cX11_backPlain, none, false) := by
  unfold xMok
  rw [xcX11_backPlain, xqX11_backPlain.1, xqX11_backPlain.2]
  exact ⟨by decide +kernel, (fun _ => (xG_of 1385 (by decide +kernel) (by decide +kernel))), by decide, (fun _ => rfl), (fun z => absurd z (by decide)), (fun z => absurd z (by decide)), (fun z => absurd z (by decide)), (fun z => by cases z), vkX11_backPlain⟩
theorem xcX11_turnBack : xcode 132 = kX11_turnBack := rfl
theorem xqX11_turnBack : xnl 132 = 3 ∧ xrt 132 = 0 := ⟨rfl, rfl⟩
theorem xmX11_turnBack : xMok 132 (yX11_turnBack, cX11_turnBack, none, false) := by
  unfold xMok
  rw [xcX11_turnBack, xqX11_turnBack.1, xqX11_turnBack.2]
  exact ⟨by decide +kernel, (fun _ => (xG_of 1352 (by decide +kernel) (by decide +kernel))), by decide, (fun _ => rfl), (fun z => absurd z (by decide)), (fun z => absurd z (by decide)), (fun z => absurd z (by decide)), (fun z => by cases z), vkX11_turnBack⟩
theorem xcX11_bestPlain : xcode 133 = kX11_bestPlain := rfl
theorem xqX11_bestPlain : xnl 133 = 2 ∧ xrt 133 = 0 := ⟨rfl, rfl⟩
theorem xmX11_bestPlain : xMok 133 (yX11_bestPlain, cX11_bestPlain, none, false) := by
  unfold xMok
  rw [xcX11_bestPlain, xqX11_bestPlain.1, xqX11_bestPlain.2]
  exact ⟨by decide +kernel, (fun _ => (xG_of 1360 (by decide +kernel) (by decide +kernel))), by decide, (fun _ => rfl), (fun z => absurd z (by decide)), (fun z => absurd z (by decide)), (fun z => absurd z (by decide)), (fun z => by cases z), vkX11_bestPlain⟩
theorem xcX11_isState : xcode 134 = kX11_isState := rfl
theorem xqX11_isState : xnl 134 = 4 ∧ xrt 134 = 3 := ⟨rfl, rfl⟩
theorem xmX11_isState : xMok 134 (yX11_isState, cX11_isState, some .boolean, false) := by
  unfold xMok
  rw [xcX11_isState, xqX11_isState.1, xqX11_isState.2]
  exact ⟨by decide +kernel, (fun _ => (xG_of 1282 (by decide +kernel) (by decide +kernel))), by decide, (fun z => absurd z (by decide)), (fun z => absurd z (by decide)), (fun z => absurd z (by decide)), (fun _ => rfl), (fun z => by cases z), vkX11_isState⟩
theorem xcX11_isBehind : xcode 135 = kX11_isBehind := rfl
theorem xqX11_isBehind : xnl 135 = 4 ∧ xrt 135 = 3 := ⟨rfl, rfl⟩
theorem xmX11_isBehind : xMok 135 (yX11_isBehind, cX11_isBehind, some .boolean, false) := by
  unfold xMok
  rw [xcX11_isBehind, xqX11_isBehind.1, xqX11_isBehind.2]
  exact ⟨by decide +kernel, (fun _ => (xG_of 1290 (by decide +kernel) (by decide +kernel))), by decide, (fun z => absurd z (by decide)), (fun z => absurd z (by decide)), (fun z => absurd z (by decide)), (fun _ => rfl), (fun z => by cases z), vkX11_isBehind⟩
theorem xcX11_moveState : xcode 136 = kX11_moveState := rfl
theorem xqX11_moveState : xnl 136 = 4 ∧ xrt 136 = 0 := ⟨rfl, rfl⟩
theorem xmX11_moveState : xMok 136 (yX11_moveState, cX11_moveState, none, false) := by
  unfold xMok
  rw [xcX11_moveState, xqX11_moveState.1, xqX11_moveState.2]
  exact ⟨by decide +kernel, (fun _ => (xG_of 1286 (by decide +kernel) (by decide +kernel))), by decide, (fun _ => rfl), (fun z => absurd z (by decide)), (fun z => absurd z (by decide)), (fun z => absurd z (by decide)), (fun z => by cases z), vkX11_moveState⟩
theorem xcX11_comes : xcode 137 = kX11_comes := rfl
theorem xqX11_comes : xnl 137 = 10 ∧ xrt 137 = 0 := ⟨rfl, rfl⟩
theorem xmX11_comes : xMok 137 (yX11_comes, cX11_comes, none, false) := by
  unfold xMok
  rw [xcX11_comes, xqX11_comes.1, xqX11_comes.2]
  exact ⟨by decide +kernel, (fun _ => (xG_of 1278 (by decide +kernel) (by decide +kernel))), by decide, (fun _ => rfl), (fun z => absurd z (by decide)), (fun z => absurd z (by decide)), (fun z => absurd z (by decide)), (fun z => by cases z), vkX11_comes⟩
theorem xcX11_takeLatest : xcode 138 = kX11_takeLatest := rfl
theorem xqX11_takeLatest : xnl 138 = 3 ∧ xrt 138 = 0 := ⟨rfl, rfl⟩
theorem xmX11_takeLatest : xMok 138 (yX11_takeLatest, cX11_takeLatest, none, false) := by
  unfold xMok
  rw [xcX11_takeLatest, xqX11_takeLatest.1, xqX11_takeLatest.2]
  exact ⟨by decide +kernel, (fun _ => (xG_of 1306 (by decide +kernel) (by decide +kernel))), by decide, (fun _ => rfl), (fun z => absurd z (by decide)), (fun z => absurd z (by decide)), (fun z => absurd z (by decide)), (fun z => by cases z), vkX11_takeLatest⟩
theorem xcX11_expand : xcode 139 = kX11_expand := rfl
theorem xqX11_expand : xnl 139 = 8 ∧ xrt 139 = 0 := ⟨rfl, rfl⟩
theorem xmX11_expand : xMok 139 (yX11_expand, cX11_expand, none, false) := by
  unfold xMok
  rw [xcX11_expand, xqX11_expand.1, xqX11_expand.2]
  exact ⟨by decide +kernel, (fun _ => (xG_of 1294 (by decide +kernel) (by decide +kernel))), by decide, (fun _ => rfl), (fun z => absurd z (by decide)), (fun z => absurd z (by decide)), (fun z => absurd z (by decide)), (fun z => by cases z), vkX11_expand⟩
theorem xcX11_bestWide : xcode 140 = kX11_bestWide := rfl
theorem xqX11_bestWide : xnl 140 = 7 ∧ xrt 140 = 0 := ⟨rfl, rfl⟩
theorem xmX11_bestWide : xMok 140 (yX11_bestWide, cX11_bestWide, none, false) := by
  unfold xMok
  rw [xcX11_bestWide, xqX11_bestWide.1, xqX11_bestWide.2]
  exact ⟨by decide +kernel, (fun _ => (xG_of 1270 (by decide +kernel) (by decide +kernel))), by decide, (fun _ => rfl), (fun z => absurd z (by decide)), (fun z => absurd z (by decide)), (fun z => absurd z (by decide)), (fun z => by cases z), vkX11_bestWide⟩
theorem xcX11_best : xcode 141 = kX11_best := rfl
theorem xqX11_best : xnl 141 = 1 ∧ xrt 141 = 0 := ⟨rfl, rfl⟩
theorem xmX11_best : xMok 141 (yX11_best, cX11_best, none, false) := by
  unfold xMok
  rw [xcX11_best, xqX11_best.1, xqX11_best.2]
  exact ⟨by decide +kernel, (fun _ => (xG_of 1258 (by decide +kernel) (by decide +kernel))), by decide, (fun _ => rfl), (fun z => absurd z (by decide)), (fun z => absurd z (by decide)), (fun z => absurd z (by decide)), (fun z => by cases z), vkX11_best⟩
theorem xcX11_parse : xcode 142 = kX11_parse := rfl
theorem xqX11_parse : xnl 142 = 2 ∧ xrt 142 = 1 := ⟨rfl, rfl⟩
theorem xmX11_parse : xMok 142 (yX11_parse, cX11_parse, some .int, false) := by
  unfold xMok
  rw [xcX11_parse, xqX11_parse.1, xqX11_parse.2]
  exact ⟨by decide +kernel, (fun _ => (xG_of 1254 (by decide +kernel) (by decide +kernel))), by decide, (fun z => absurd z (by decide)), (fun _ => rfl), (fun z => absurd z (by decide)), (fun z => absurd z (by decide)), (fun z => by cases z), vkX11_parse⟩
theorem xcX11_log : xcode 143 = kX11_log := rfl
theorem xqX11_log : xnl 143 = 2 ∧ xrt 143 = 1 := ⟨rfl, rfl⟩
theorem xmX11_log : xMok 143 (yX11_log, cX11_log, some .int, false) := by
  unfold xMok
  rw [xcX11_log, xqX11_log.1, xqX11_log.2]
  exact ⟨by decide +kernel, (fun _ => (xG_of 1410 (by decide +kernel) (by decide +kernel))), by decide, (fun z => absurd z (by decide)), (fun _ => rfl), (fun z => absurd z (by decide)), (fun z => absurd z (by decide)), (fun z => by cases z), vkX11_log⟩
theorem xcX11_fit : xcode 144 = kX11_fit := rfl
theorem xqX11_fit : xnl 144 = 5 ∧ xrt 144 = 0 := ⟨rfl, rfl⟩
theorem xmX11_fit : xMok 144 (yX11_fit, cX11_fit, none, false) := by
  unfold xMok
  rw [xcX11_fit, xqX11_fit.1, xqX11_fit.2]
  exact ⟨by decide +kernel, (fun _ => (xG_of 1407 (by decide +kernel) (by decide +kernel))), by decide, (fun _ => rfl), (fun z => absurd z (by decide)), (fun z => absurd z (by decide)), (fun z => absurd z (by decide)), (fun z => by cases z), vkX11_fit⟩
theorem xcX11_rounds : xcode 145 = kX11_rounds := rfl
theorem xqX11_rounds : xnl 145 = 12 ∧ xrt 145 = 2 := ⟨rfl, rfl⟩
theorem xmX11_rounds : xMok 145 (yX11_rounds, cX11_rounds, some .long, false) := by
  unfold xMok
  rw [xcX11_rounds, xqX11_rounds.1, xqX11_rounds.2]
  exact ⟨by decide +kernel, (fun _ => (xG_of 1402 (by decide +kernel) (by decide +kernel))), by decide, (fun z => absurd z (by decide)), (fun z => absurd z (by decide)), (fun _ => rfl), (fun z => absurd z (by decide)), (fun z => by cases z), vkX11_rounds⟩
theorem xcX11_step : xcode 146 = kX11_step := rfl
theorem xqX11_step : xnl 146 = 3 ∧ xrt 146 = 1 := ⟨rfl, rfl⟩
theorem xmX11_step : xMok 146 (yX11_step, cX11_step, some .int, false) := by
  unfold xMok
  rw [xcX11_step, xqX11_step.1, xqX11_step.2]
  exact ⟨by decide +kernel, (fun _ => (xG_of 1415 (by decide +kernel) (by decide +kernel))), by decide, (fun z => absurd z (by decide)), (fun _ => rfl), (fun z => absurd z (by decide)), (fun z => absurd z (by decide)), (fun z => by cases z), vkX11_step⟩
theorem xcX11_sum : xcode 147 = kX11_sum := rfl
theorem xqX11_sum : xnl 147 = 1 ∧ xrt 147 = 2 := ⟨rfl, rfl⟩
theorem xmX11_sum : xMok 147 (yX11_sum, cX11_sum, some .long, false) := by
  unfold xMok
  rw [xcX11_sum, xqX11_sum.1, xqX11_sum.2]
  exact ⟨by decide +kernel, (fun _ => (xG_of 1419 (by decide +kernel) (by decide +kernel))), by decide, (fun z => absurd z (by decide)), (fun z => absurd z (by decide)), (fun _ => rfl), (fun z => absurd z (by decide)), (fun z => by cases z), vkX11_sum⟩
theorem xcX11_again : xcode 148 = kX11_again := rfl
theorem xqX11_again : xnl 148 = 1 ∧ xrt 148 = 2 := ⟨rfl, rfl⟩
theorem xmX11_again : xMok 148 (yX11_again, cX11_again, some .long, false) := by
  unfold xMok
  rw [xcX11_again, xqX11_again.1, xqX11_again.2]
  exact ⟨by decide +kernel, (fun _ => (xG_of 1423 (by decide +kernel) (by decide +kernel))), by decide, (fun z => absurd z (by decide)), (fun z => absurd z (by decide)), (fun _ => rfl), (fun z => absurd z (by decide)), (fun z => by cases z), vkX11_again⟩
theorem xcX11_least : xcode 149 = kX11_least := rfl
theorem xqX11_least : xnl 149 = 1 ∧ xrt 149 = 3 := ⟨rfl, rfl⟩
theorem xmX11_least : xMok 149 (yX11_least, cX11_least, some .boolean, false) := by
  unfold xMok
  rw [xcX11_least, xqX11_least.1, xqX11_least.2]
  exact ⟨by decide +kernel, (fun _ => (xG_of 1427 (by decide +kernel) (by decide +kernel))), by decide, (fun z => absurd z (by decide)), (fun z => absurd z (by decide)), (fun z => absurd z (by decide)), (fun _ => rfl), (fun z => by cases z), vkX11_least⟩
theorem xcX11_told : xcode 150 = kX11_told := rfl
theorem xqX11_told : xnl 150 = 5 ∧ xrt 150 = 1 := ⟨rfl, rfl⟩
theorem xmX11_told : xMok 150 (yX11_told, cX11_told, some .int, false) := by
  unfold xMok
  rw [xcX11_told, xqX11_told.1, xqX11_told.2]
  exact ⟨by decide +kernel, (fun _ => (xG_of 1431 (by decide +kernel) (by decide +kernel))), by decide, (fun z => absurd z (by decide)), (fun _ => rfl), (fun z => absurd z (by decide)), (fun z => absurd z (by decide)), (fun z => by cases z), vkX11_told⟩
theorem xcX11_longest : xcode 151 = kX11_longest := rfl
theorem xqX11_longest : xnl 151 = 2 ∧ xrt 151 = 1 := ⟨rfl, rfl⟩
theorem xmX11_longest : xMok 151 (yX11_longest, cX11_longest, some .int, false) := by
  unfold xMok
  rw [xcX11_longest, xqX11_longest.1, xqX11_longest.2]
  exact ⟨by decide +kernel, (fun _ => (xG_of 1435 (by decide +kernel) (by decide +kernel))), by decide, (fun z => absurd z (by decide)), (fun _ => rfl), (fun z => absurd z (by decide)), (fun z => absurd z (by decide)), (fun z => by cases z), vkX11_longest⟩
theorem xcX11_distance : xcode 152 = kX11_distance := rfl
theorem xqX11_distance : xnl 152 = 4 ∧ xrt 152 = 1 := ⟨rfl, rfl⟩
theorem xmX11_distance : xMok 152 (yX11_distance, cX11_distance, some .int, false) := by
  unfold xMok
  rw [xcX11_distance, xqX11_distance.1, xqX11_distance.2]
  exact ⟨by decide +kernel, (fun _ => (xG_of 1439 (by decide +kernel) (by decide +kernel))), by decide, (fun z => absurd z (by decide)), (fun _ => rfl), (fun z => absurd z (by decide)), (fun z => absurd z (by decide)), (fun z => by cases z), vkX11_distance⟩
theorem xcX11_cut : xcode 153 = kX11_cut := rfl
theorem xqX11_cut : xnl 153 = 4 ∧ xrt 153 = 1 := ⟨rfl, rfl⟩
theorem xmX11_cut : xMok 153 (yX11_cut, cX11_cut, some .int, false) := by
  unfold xMok
  rw [xcX11_cut, xqX11_cut.1, xqX11_cut.2]
  exact ⟨by decide +kernel, (fun _ => (xG_of 1443 (by decide +kernel) (by decide +kernel))), by decide, (fun z => absurd z (by decide)), (fun _ => rfl), (fun z => absurd z (by decide)), (fun z => absurd z (by decide)), (fun z => by cases z), vkX11_cut⟩
theorem xcX11_border : xcode 154 = kX11_border := rfl
theorem xqX11_border : xnl 154 = 2 ∧ xrt 154 = 1 := ⟨rfl, rfl⟩
theorem xmX11_border : xMok 154 (yX11_border, cX11_border, some .int, false) := by
  unfold xMok
  rw [xcX11_border, xqX11_border.1, xqX11_border.2]
  exact ⟨by decide +kernel, (fun _ => (xG_of 1456 (by decide +kernel) (by decide +kernel))), by decide, (fun z => absurd z (by decide)), (fun _ => rfl), (fun z => absurd z (by decide)), (fun z => absurd z (by decide)), (fun z => by cases z), vkX11_border⟩
theorem xcX11_fillBlocks : xcode 155 = kX11_fillBlocks := rfl
theorem xqX11_fillBlocks : xnl 155 = 7 ∧ xrt 155 = 0 := ⟨rfl, rfl⟩
theorem xmX11_fillBlocks : xMok 155 (yX11_fillBlocks, cX11_fillBlocks, none, false) := by
  unfold xMok
  rw [xcX11_fillBlocks, xqX11_fillBlocks.1, xqX11_fillBlocks.2]
  exact ⟨by decide +kernel, (fun _ => (xG_of 1452 (by decide +kernel) (by decide +kernel))), by decide, (fun _ => rfl), (fun z => absurd z (by decide)), (fun z => absurd z (by decide)), (fun z => absurd z (by decide)), (fun z => by cases z), vkX11_fillBlocks⟩
theorem xcX11_setCost : xcode 156 = kX11_setCost := rfl
theorem xqX11_setCost : xnl 156 = 6 ∧ xrt 156 = 2 := ⟨rfl, rfl⟩
theorem xmX11_setCost : xMok 156 (yX11_setCost, cX11_setCost, some .long, false) := by
  unfold xMok
  rw [xcX11_setCost, xqX11_setCost.1, xqX11_setCost.2]
  exact ⟨by decide +kernel, (fun _ => (xG_of 1460 (by decide +kernel) (by decide +kernel))), by decide, (fun z => absurd z (by decide)), (fun z => absurd z (by decide)), (fun _ => rfl), (fun z => absurd z (by decide)), (fun z => by cases z), vkX11_setCost⟩
theorem xcX11_count : xcode 157 = kX11_count := rfl
theorem xqX11_count : xnl 157 = 3 ∧ xrt 157 = 1 := ⟨rfl, rfl⟩
theorem xmX11_count : xMok 157 (yX11_count, cX11_count, some .int, false) := by
  unfold xMok
  rw [xcX11_count, xqX11_count.1, xqX11_count.2]
  exact ⟨by decide +kernel, (fun _ => (xG_of 1463 (by decide +kernel) (by decide +kernel))), by decide, (fun z => absurd z (by decide)), (fun _ => rfl), (fun z => absurd z (by decide)), (fun z => absurd z (by decide)), (fun z => by cases z), vkX11_count⟩
theorem xcX11_isBefore : xcode 158 = kX11_isBefore := rfl
theorem xqX11_isBefore : xnl 158 = 4 ∧ xrt 158 = 3 := ⟨rfl, rfl⟩
theorem xmX11_isBefore : xMok 158 (yX11_isBefore, cX11_isBefore, some .boolean, false) := by
  unfold xMok
  rw [xcX11_isBefore, xqX11_isBefore.1, xqX11_isBefore.2]
  exact ⟨by decide +kernel, (fun _ => (xG_of 1466 (by decide +kernel) (by decide +kernel))), by decide, (fun z => absurd z (by decide)), (fun z => absurd z (by decide)), (fun z => absurd z (by decide)), (fun _ => rfl), (fun z => by cases z), vkX11_isBefore⟩
theorem xcX11_split : xcode 159 = kX11_split := rfl
theorem xqX11_split : xnl 159 = 8 ∧ xrt 159 = 2 := ⟨rfl, rfl⟩
theorem xmX11_split : xMok 159 (yX11_split, cX11_split, some .long, false) := by
  unfold xMok
  rw [xcX11_split, xqX11_split.1, xqX11_split.2]
  exact ⟨by decide +kernel, (fun _ => (xG_of 1447 (by decide +kernel) (by decide +kernel))), by decide, (fun z => absurd z (by decide)), (fun z => absurd z (by decide)), (fun _ => rfl), (fun z => absurd z (by decide)), (fun z => by cases z), vkX11_split⟩
theorem xcX11_taken : xcode 160 = kX11_taken := rfl
theorem xqX11_taken : xnl 160 = 2 ∧ xrt 160 = 1 := ⟨rfl, rfl⟩
theorem xmX11_taken : xMok 160 (yX11_taken, cX11_taken, some .int, false) := by
  unfold xMok
  rw [xcX11_taken, xqX11_taken.1, xqX11_taken.2]
  exact ⟨by decide +kernel, (fun _ => (xG_of 1470 (by decide +kernel) (by decide +kernel))), by decide, (fun z => absurd z (by decide)), (fun _ => rfl), (fun z => absurd z (by decide)), (fun z => absurd z (by decide)), (fun z => by cases z), vkX11_taken⟩
theorem xcX11_many : xcode 161 = kX11_many := rfl
theorem xqX11_many : xnl 161 = 2 ∧ xrt 161 = 1 := ⟨rfl, rfl⟩
theorem xmX11_many : xMok 161 (yX11_many, cX11_many, some .int, false) := by
  unfold xMok
  rw [xcX11_many, xqX11_many.1, xqX11_many.2]
  exact ⟨by decide +kernel, (fun _ => (xG_of 1474 (by decide +kernel) (by decide +kernel))), by decide, (fun z => absurd z (by decide)), (fun _ => rfl), (fun z => absurd z (by decide)), (fun z => absurd z (by decide)), (fun z => by cases z), vkX11_many⟩
theorem xcX11_clear : xcode 162 = kX11_clear := rfl
theorem xqX11_clear : xnl 162 = 1 ∧ xrt 162 = 0 := ⟨rfl, rfl⟩
theorem xmX11_clear : xMok 162 (yX11_clear, cX11_clear, none, false) := by
  unfold xMok
  rw [xcX11_clear, xqX11_clear.1, xqX11_clear.2]
  exact ⟨by decide +kernel, (fun _ => (xG_of 1478 (by decide +kernel) (by decide +kernel))), by decide, (fun _ => rfl), (fun z => absurd z (by decide)), (fun z => absurd z (by decide)), (fun z => absurd z (by decide)), (fun z => by cases z), vkX11_clear⟩
theorem xcX11_trier : xcode 163 = kX11_trier := rfl
theorem xqX11_trier : xnl 163 = 2 ∧ xrt 163 = 1 := ⟨rfl, rfl⟩
theorem xmX11_trier : xMok 163 (yX11_trier, cX11_trier, some .int, false) := by
  unfold xMok
  rw [xcX11_trier, xqX11_trier.1, xqX11_trier.2]
  exact ⟨by decide +kernel, (fun _ => (xG_of 1482 (by decide +kernel) (by decide +kernel))), by decide, (fun z => absurd z (by decide)), (fun _ => rfl), (fun z => absurd z (by decide)), (fun z => absurd z (by decide)), (fun z => by cases z), vkX11_trier⟩
theorem xcJ7_rangeCheck_23922 : xcode 164 = kJ7_rangeCheck_23922 := rfl
theorem xqJ7_rangeCheck_23922 : xnl 164 = 3 ∧ xrt 164 = 0 := ⟨rfl, rfl⟩
theorem xmJ7_rangeCheck_23922 : xMok 164 (yJ7_rangeCheck_23922, cJ7_rangeCheck_23922, none, false) := by
  unfold xMok
  rw [xcJ7_rangeCheck_23922, xqJ7_rangeCheck_23922.1, xqJ7_rangeCheck_23922.2]
  exact ⟨by decide +kernel, (fun _ => (xG_of 111 (by decide +kernel) (by decide +kernel))), by decide, (fun _ => rfl), (fun z => absurd z (by decide)), (fun z => absurd z (by decide)), (fun z => absurd z (by decide)), (fun z => by cases z), vkJ7_rangeCheck_23922⟩
theorem xcJ7_fill_d0a16 : xcode 165 = kJ7_fill_d0a16 := rfl
theorem xqJ7_fill_d0a16 : xnl 165 = 5 ∧ xrt 165 = 0 := ⟨rfl, rfl⟩
theorem xmJ7_fill_d0a16 : xMok 165 (yJ7_fill_d0a16, cJ7_fill_d0a16, none, false) := by
  unfold xMok
  rw [xcJ7_fill_d0a16, xqJ7_fill_d0a16.1, xqJ7_fill_d0a16.2]
  exact ⟨by decide +kernel, (fun _ => (xG_of 756 (by decide +kernel) (by decide +kernel))), by decide, (fun _ => rfl), (fun z => absurd z (by decide)), (fun z => absurd z (by decide)), (fun z => absurd z (by decide)), (fun z => by cases z), vkJ7_fill_d0a16⟩
theorem xcJ7_fill_53178 : xcode 166 = kJ7_fill_53178 := rfl
theorem xqJ7_fill_53178 : xnl 166 = 4 ∧ xrt 166 = 0 := ⟨rfl, rfl⟩
theorem xmJ7_fill_53178 : xMok 166 (yJ7_fill_53178, cJ7_fill_53178, none, false) := by
  unfold xMok
  rw [xcJ7_fill_53178, xqJ7_fill_53178.1, xqJ7_fill_53178.2]
  exact ⟨by decide +kernel, (fun _ => (xG_of 846 (by decide +kernel) (by decide +kernel))), by decide, (fun _ => rfl), (fun z => absurd z (by decide)), (fun z => absurd z (by decide)), (fun z => absurd z (by decide)), (fun z => by cases z), vkJ7_fill_53178⟩
theorem xcJ7_fill_fda19 : xcode 167 = kJ7_fill_fda19 := rfl
theorem xqJ7_fill_fda19 : xnl 167 = 5 ∧ xrt 167 = 0 := ⟨rfl, rfl⟩
theorem xmJ7_fill_fda19 : xMok 167 (yJ7_fill_fda19, cJ7_fill_fda19, none, false) := by
  unfold xMok
  rw [xcJ7_fill_fda19, xqJ7_fill_fda19.1, xqJ7_fill_fda19.2]
  exact ⟨by decide +kernel, (fun _ => (xG_of 108 (by decide +kernel) (by decide +kernel))), by decide, (fun _ => rfl), (fun z => absurd z (by decide)), (fun z => absurd z (by decide)), (fun z => absurd z (by decide)), (fun z => by cases z), vkJ7_fill_fda19⟩
theorem xcL_cell : xcode 168 = kL_cell := rfl
theorem xqL_cell : xnl 168 = 2 ∧ xrt 168 = 1 := ⟨rfl, rfl⟩
theorem xmL_cell : xMok 168 (yL_cell, cL_cell, some .int, false) := by
  unfold xMok
  rw [xcL_cell, xqL_cell.1, xqL_cell.2]
  exact ⟨by decide +kernel, (fun _ => (xG_of 1055 (by decide +kernel) (by decide +kernel))), by decide, (fun z => absurd z (by decide)), (fun _ => rfl), (fun z => absurd z (by decide)), (fun z => absurd z (by decide)), (fun z => by cases z), vkL_cell⟩
theorem xcL_law : xcode 169 = kL_law := rfl
theorem xqL_law : xnl 169 = 7 ∧ xrt 169 = 3 := ⟨rfl, rfl⟩
theorem xmL_law : xMok 169 (yL_law, cL_law, some .boolean, false) := by
  unfold xMok
  rw [xcL_law, xqL_law.1, xqL_law.2]
  exact ⟨by decide +kernel, (fun z => absurd rfl z), by decide, (fun z => absurd z (by decide)), (fun z => absurd z (by decide)), (fun z => absurd z (by decide)), (fun _ => rfl), (fun z => by cases z), vkL_law⟩
