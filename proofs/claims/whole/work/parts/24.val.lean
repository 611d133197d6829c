theorem xmX0_init : xMok 0 (yX0_init, cX0_init, none, true) := ⟨by decide +kernel, (fun _ => (xG_of 552 (by decide +kernel) (by decide +kernel))), by decide, (fun _ => rfl), (fun z => absurd z (by decide)), (fun z => absurd z (by decide)), (fun z => absurd z (by decide)), (fun _ => rfl), vkX0_init⟩
theorem xmX0_forget : xMok 1 (yX0_forget, cX0_forget, none, false) := ⟨by decide +kernel, (fun _ => (xG_of 1051 (by decide +kernel) (by decide +kernel))), by decide, (fun _ => rfl), (fun z => absurd z (by decide)), (fun z => absurd z (by decide)), (fun z => absurd z (by decide)), (fun z => by cases z), vkX0_forget⟩
theorem xmX0_addCut : xMok 2 (yX0_addCut, cX0_addCut, some .boolean, false) := ⟨by decide +kernel, (fun _ => (xG_of 1012 (by decide +kernel) (by decide +kernel))), by decide, (fun z => absurd z (by decide)), (fun z => absurd z (by decide)), (fun z => absurd z (by decide)), (fun _ => rfl), (fun z => by cases z), vkX0_addCut⟩
theorem xmX0_divide : xMok 3 (yX0_divide, cX0_divide, some .long, false) := ⟨by decide +kernel, (fun _ => (xG_of 1021 (by decide +kernel) (by decide +kernel))), by decide, (fun z => absurd z (by decide)), (fun z => absurd z (by decide)), (fun _ => rfl), (fun z => absurd z (by decide)), (fun z => by cases z), vkX0_divide⟩
theorem xmX0_findRest : xMok 4 (yX0_findRest, cX0_findRest, none, false) := ⟨by decide +kernel, (fun _ => (xG_of 1025 (by decide +kernel) (by decide +kernel))), by decide, (fun _ => rfl), (fun z => absurd z (by decide)), (fun z => absurd z (by decide)), (fun z => absurd z (by decide)), (fun z => by cases z), vkX0_findRest⟩
theorem xmX0_countOctet : xMok 5 (yX0_countOctet, cX0_countOctet, some .int, false) := ⟨by decide +kernel, (fun _ => (xG_of 1034 (by decide +kernel) (by decide +kernel))), by decide, (fun z => absurd z (by decide)), (fun _ => rfl), (fun z => absurd z (by decide)), (fun z => absurd z (by decide)), (fun z => by cases z), vkX0_countOctet⟩
theorem xmX0_placeOf : xMok 6 (yX0_placeOf, cX0_placeOf, some .int, false) := ⟨by decide +kernel, (fun _ => (xG_of 1030 (by decide +kernel) (by decide +kernel))), by decide, (fun z => absurd z (by decide)), (fun _ => rfl), (fun z => absurd z (by decide)), (fun z => absurd z (by decide)), (fun z => by cases z), vkX0_placeOf⟩
theorem xmX1_init : xMok 7 (yX1_init, cX1_init, none, true) := ⟨by decide +kernel, (fun _ => (xG_of 94 (by decide +kernel) (by decide +kernel))), by decide, (fun _ => rfl), (fun z => absurd z (by decide)), (fun z => absurd z (by decide)), (fun z => absurd z (by decide)), (fun _ => rfl), vkX1_init⟩
theorem xmX1_reset : xMok 8 (yX1_reset, cX1_reset, none, false) := ⟨by decide +kernel, (fun _ => (xG_of 99 (by decide +kernel) (by decide +kernel))), by decide, (fun _ => rfl), (fun z => absurd z (by decide)), (fun z => absurd z (by decide)), (fun z => absurd z (by decide)), (fun z => by cases z), vkX1_reset⟩
theorem xmX1_has : xMok 9 (yX1_has, cX1_has, some .boolean, false) := ⟨by decide +kernel, (fun _ => (xG_of 693 (by decide +kernel) (by decide +kernel))), by decide, (fun z => absurd z (by decide)), (fun z => absurd z (by decide)), (fun z => absurd z (by decide)), (fun _ => rfl), (fun z => by cases z), vkX1_has⟩
theorem xmX1_of : xMok 10 (yX1_of, cX1_of, some .int, false) := ⟨by decide +kernel, (fun _ => (xG_of 697 (by decide +kernel) (by decide +kernel))), by decide, (fun z => absurd z (by decide)), (fun _ => rfl), (fun z => absurd z (by decide)), (fun z => absurd z (by decide)), (fun z => by cases z), vkX1_of⟩
theorem xmX1_put : xMok 11 (yX1_put, cX1_put, none, false) := ⟨by decide +kernel, (fun _ => (xG_of 702 (by decide +kernel) (by decide +kernel))), by decide, (fun _ => rfl), (fun z => absurd z (by decide)), (fun z => absurd z (by decide)), (fun z => absurd z (by decide)), (fun z => by cases z), vkX1_put⟩
theorem xmX1_copyFrom : xMok 12 (yX1_copyFrom, cX1_copyFrom, none, false) := ⟨by decide +kernel, (fun _ => (xG_of 989 (by decide +kernel) (by decide +kernel))), by decide, (fun _ => rfl), (fun z => absurd z (by decide)), (fun z => absurd z (by decide)), (fun z => absurd z (by decide)), (fun z => by cases z), vkX1_copyFrom⟩
theorem xmX1_prepare : xMok 13 (yX1_prepare, cX1_prepare, none, false) := ⟨by decide +kernel, (fun _ => (xG_of 732 (by decide +kernel) (by decide +kernel))), by decide, (fun _ => rfl), (fun z => absurd z (by decide)), (fun z => absurd z (by decide)), (fun z => absurd z (by decide)), (fun z => by cases z), vkX1_prepare⟩
theorem xmX1_literalCost : xMok 14 (yX1_literalCost, cX1_literalCost, some .int, false) := ⟨by decide +kernel, (fun _ => (xG_of 820 (by decide +kernel) (by decide +kernel))), by decide, (fun z => absurd z (by decide)), (fun _ => rfl), (fun z => absurd z (by decide)), (fun z => absurd z (by decide)), (fun z => by cases z), vkX1_literalCost⟩
theorem xmX1_kindCost : xMok 15 (yX1_kindCost, cX1_kindCost, some .int, false) := ⟨by decide +kernel, (fun _ => (xG_of 774 (by decide +kernel) (by decide +kernel))), by decide, (fun z => absurd z (by decide)), (fun _ => rfl), (fun z => absurd z (by decide)), (fun z => absurd z (by decide)), (fun z => by cases z), vkX1_kindCost⟩
theorem xmX1_stepCost : xMok 16 (yX1_stepCost, cX1_stepCost, some .int, false) := ⟨by decide +kernel, (fun _ => (xG_of 901 (by decide +kernel) (by decide +kernel))), by decide, (fun z => absurd z (by decide)), (fun _ => rfl), (fun z => absurd z (by decide)), (fun z => absurd z (by decide)), (fun z => by cases z), vkX1_stepCost⟩
theorem xmX1_lengthCost : xMok 17 (yX1_lengthCost, cX1_lengthCost, some .int, false) := ⟨by decide +kernel, (fun _ => (xG_of 736 (by decide +kernel) (by decide +kernel))), by decide, (fun z => absurd z (by decide)), (fun _ => rfl), (fun z => absurd z (by decide)), (fun z => absurd z (by decide)), (fun z => by cases z), vkX1_lengthCost⟩
theorem xmX1_distanceCost : xMok 18 (yX1_distanceCost, cX1_distanceCost, some .int, false) := ⟨by decide +kernel, (fun _ => (xG_of 747 (by decide +kernel) (by decide +kernel))), by decide, (fun z => absurd z (by decide)), (fun _ => rfl), (fun z => absurd z (by decide)), (fun z => absurd z (by decide)), (fun z => by cases z), vkX1_distanceCost⟩
theorem xmX1_lengthSlot : xMok 19 (yX1_lengthSlot, cX1_lengthSlot, some .int, false) := ⟨by decide +kernel, (fun _ => (xG_of 739 (by decide +kernel) (by decide +kernel))), by decide, (fun z => absurd z (by decide)), (fun _ => rfl), (fun z => absurd z (by decide)), (fun z => absurd z (by decide)), (fun z => by cases z), vkX1_lengthSlot⟩
theorem xmX1_distanceSlot : xMok 20 (yX1_distanceSlot, cX1_distanceSlot, some .int, false) := ⟨by decide +kernel, (fun _ => (xG_of 750 (by decide +kernel) (by decide +kernel))), by decide, (fun z => absurd z (by decide)), (fun _ => rfl), (fun z => absurd z (by decide)), (fun z => absurd z (by decide)), (fun z => by cases z), vkX1_distanceSlot⟩
theorem xmX1_fitTo : xMok 21 (yX1_fitTo, cX1_fitTo, none, false) := ⟨by decide +kernel, (fun _ => (xG_of 967 (by decide +kernel) (by decide +kernel))), by decide, (fun _ => rfl), (fun z => absurd z (by decide)), (fun z => absurd z (by decide)), (fun z => absurd z (by decide)), (fun z => by cases z), vkX1_fitTo⟩
theorem xmX1_countSymbols : xMok 22 (yX1_countSymbols, cX1_countSymbols, none, false) := ⟨by decide +kernel, (fun _ => (xG_of 971 (by decide +kernel) (by decide +kernel))), by decide, (fun _ => rfl), (fun z => absurd z (by decide)), (fun z => absurd z (by decide)), (fun z => absurd z (by decide)), (fun z => by cases z), vkX1_countSymbols⟩
theorem xmX1_countOne : xMok 23 (yX1_countOne, cX1_countOne, none, false) := ⟨by decide +kernel, (fun _ => (xG_of 976 (by decide +kernel) (by decide +kernel))), by decide, (fun _ => rfl), (fun z => absurd z (by decide)), (fun z => absurd z (by decide)), (fun z => absurd z (by decide)), (fun z => by cases z), vkX1_countOne⟩
theorem xmX1_fitClass : xMok 24 (yX1_fitClass, cX1_fitClass, none, false) := ⟨by decide +kernel, (fun _ => (xG_of 980 (by decide +kernel) (by decide +kernel))), by decide, (fun _ => rfl), (fun z => absurd z (by decide)), (fun z => absurd z (by decide)), (fun z => absurd z (by decide)), (fun z => by cases z), vkX1_fitClass⟩
theorem xmX2_init : xMok 25 (yX2_init, cX2_init, none, true) := ⟨by decide +kernel, (fun _ => (xG_of 442 (by decide +kernel) (by decide +kernel))), by decide, (fun _ => rfl), (fun z => absurd z (by decide)), (fun z => absurd z (by decide)), (fun z => absurd z (by decide)), (fun _ => rfl), vkX2_init⟩
theorem xmX2_costOf : xMok 26 (yX2_costOf, cX2_costOf, some .long, false) := ⟨by decide +kernel, (fun _ => (xG_of 897 (by decide +kernel) (by decide +kernel))), by decide, (fun z => absurd z (by decide)), (fun z => absurd z (by decide)), (fun _ => rfl), (fun z => absurd z (by decide)), (fun z => by cases z), vkX2_costOf⟩
theorem xmX3_at : xMok 27 (yX3_at, cX3_at, some .int, false) := ⟨by decide +kernel, (fun _ => (xG_of 808 (by decide +kernel) (by decide +kernel))), by decide, (fun z => absurd z (by decide)), (fun _ => rfl), (fun z => absurd z (by decide)), (fun z => absurd z (by decide)), (fun z => by cases z), vkX3_at⟩
theorem xmX3_behindCopy : xMok 28 (yX3_behindCopy, cX3_behindCopy, some .long, false) := ⟨by decide +kernel, (fun _ => (xG_of 789 (by decide +kernel) (by decide +kernel))), by decide, (fun z => absurd z (by decide)), (fun z => absurd z (by decide)), (fun _ => rfl), (fun z => absurd z (by decide)), (fun z => by cases z), vkX3_behindCopy⟩
theorem xmX3_behindAgain : xMok 29 (yX3_behindAgain, cX3_behindAgain, some .long, false) := ⟨by decide +kernel, (fun _ => (xG_of 815 (by decide +kernel) (by decide +kernel))), by decide, (fun z => absurd z (by decide)), (fun z => absurd z (by decide)), (fun _ => rfl), (fun z => absurd z (by decide)), (fun z => by cases z), vkX3_behindAgain⟩
theorem xmX4_init : xMok 30 (yX4_init, cX4_init, none, true) := ⟨by decide +kernel, (fun _ => (xG_of 498 (by decide +kernel) (by decide +kernel))), by decide, (fun _ => rfl), (fun z => absurd z (by decide)), (fun z => absurd z (by decide)), (fun z => absurd z (by decide)), (fun _ => rfl), vkX4_init⟩
theorem xmX4_findBest : xMok 31 (yX4_findBest, cX4_findBest, some .int, false) := ⟨by decide +kernel, (fun _ => (xG_of 724 (by decide +kernel) (by decide +kernel))), by decide, (fun z => absurd z (by decide)), (fun _ => rfl), (fun z => absurd z (by decide)), (fun z => absurd z (by decide)), (fun z => by cases z), vkX4_findBest⟩
theorem xmX4_begin : xMok 32 (yX4_begin, cX4_begin, none, false) := ⟨by decide +kernel, (fun _ => (xG_of 728 (by decide +kernel) (by decide +kernel))), by decide, (fun _ => rfl), (fun z => absurd z (by decide)), (fun z => absurd z (by decide)), (fun z => absurd z (by decide)), (fun z => by cases z), vkX4_begin⟩
theorem xmX4_goFrom : xMok 33 (yX4_goFrom, cX4_goFrom, none, false) := ⟨by decide +kernel, (fun _ => (xG_of 761 (by decide +kernel) (by decide +kernel))), by decide, (fun _ => rfl), (fun z => absurd z (by decide)), (fun z => absurd z (by decide)), (fun z => absurd z (by decide)), (fun z => by cases z), vkX4_goFrom⟩
theorem xmX4_copiesWereLed : xMok 34 (yX4_copiesWereLed, cX4_copiesWereLed, some .boolean, false) := ⟨by decide +kernel, (fun _ => (xG_of 766 (by decide +kernel) (by decide +kernel))), by decide, (fun z => absurd z (by decide)), (fun z => absurd z (by decide)), (fun z => absurd z (by decide)), (fun _ => rfl), (fun z => by cases z), vkX4_copiesWereLed⟩
theorem xmX4_leadByCopies : xMok 35 (yX4_leadByCopies, cX4_leadByCopies, none, false) := ⟨by decide +kernel, (fun _ => (xG_of 770 (by decide +kernel) (by decide +kernel))), by decide, (fun _ => rfl), (fun z => absurd z (by decide)), (fun z => absurd z (by decide)), (fun z => absurd z (by decide)), (fun z => by cases z), vkX4_leadByCopies⟩
theorem xmX4_leadByAgain : xMok 36 (yX4_leadByAgain, cX4_leadByAgain, none, false) := ⟨by decide +kernel, (fun _ => (xG_of 805 (by decide +kernel) (by decide +kernel))), by decide, (fun _ => rfl), (fun z => absurd z (by decide)), (fun z => absurd z (by decide)), (fun z => absurd z (by decide)), (fun z => by cases z), vkX4_leadByAgain⟩
theorem xmX4_lead : xMok 37 (yX4_lead, cX4_lead, none, false) := ⟨by decide +kernel, (fun _ => (xG_of 793 (by decide +kernel) (by decide +kernel))), by decide, (fun _ => rfl), (fun z => absurd z (by decide)), (fun z => absurd z (by decide)), (fun z => absurd z (by decide)), (fun z => by cases z), vkX4_lead⟩
theorem xmX4_makeRoom : xMok 38 (yX4_makeRoom, cX4_makeRoom, some .boolean, false) := ⟨by decide +kernel, (fun _ => (xG_of 797 (by decide +kernel) (by decide +kernel))), by decide, (fun z => absurd z (by decide)), (fun z => absurd z (by decide)), (fun z => absurd z (by decide)), (fun _ => rfl), (fun z => by cases z), vkX4_makeRoom⟩
theorem xmX4_insert : xMok 39 (yX4_insert, cX4_insert, none, false) := ⟨by decide +kernel, (fun _ => (xG_of 801 (by decide +kernel) (by decide +kernel))), by decide, (fun _ => rfl), (fun z => absurd z (by decide)), (fun z => absurd z (by decide)), (fun z => absurd z (by decide)), (fun z => by cases z), vkX4_insert⟩
theorem xmX4_tellSteps : xMok 40 (yX4_tellSteps, cX4_tellSteps, none, false) := ⟨by decide +kernel, (fun _ => (xG_of 824 (by decide +kernel) (by decide +kernel))), by decide, (fun _ => rfl), (fun z => absurd z (by decide)), (fun z => absurd z (by decide)), (fun z => absurd z (by decide)), (fun z => by cases z), vkX4_tellSteps⟩
theorem xmX5_init : xMok 41 (yX5_init, cX5_init, none, true) := ⟨by decide +kernel, (fun _ => (xG_of 471 (by decide +kernel) (by decide +kernel))), by decide, (fun _ => rfl), (fun z => absurd z (by decide)), (fun z => absurd z (by decide)), (fun z => absurd z (by decide)), (fun _ => rfl), vkX5_init⟩
theorem xmX5_findBest : xMok 42 (yX5_findBest, cX5_findBest, some .int, false) := ⟨by decide +kernel, (fun _ => (xG_of 842 (by decide +kernel) (by decide +kernel))), by decide, (fun z => absurd z (by decide)), (fun _ => rfl), (fun z => absurd z (by decide)), (fun z => absurd z (by decide)), (fun z => by cases z), vkX5_findBest⟩
theorem xmX5_findFirst : xMok 43 (yX5_findFirst, cX5_findFirst, none, false) := ⟨by decide +kernel, (fun _ => (xG_of 851 (by decide +kernel) (by decide +kernel))), by decide, (fun _ => rfl), (fun z => absurd z (by decide)), (fun z => absurd z (by decide)), (fun z => absurd z (by decide)), (fun z => by cases z), vkX5_findFirst⟩
theorem xmX5_lead : xMok 44 (yX5_lead, cX5_lead, none, false) := ⟨by decide +kernel, (fun _ => (xG_of 855 (by decide +kernel) (by decide +kernel))), by decide, (fun _ => rfl), (fun z => absurd z (by decide)), (fun z => absurd z (by decide)), (fun z => absurd z (by decide)), (fun z => by cases z), vkX5_lead⟩
theorem xmX5_tellSteps : xMok 45 (yX5_tellSteps, cX5_tellSteps, none, false) := ⟨by decide +kernel, (fun _ => (xG_of 862 (by decide +kernel) (by decide +kernel))), by decide, (fun _ => rfl), (fun z => absurd z (by decide)), (fun z => absurd z (by decide)), (fun z => absurd z (by decide)), (fun z => by cases z), vkX5_tellSteps⟩
theorem xmX5_costOf : xMok 46 (yX5_costOf, cX5_costOf, some .long, false) := ⟨by decide +kernel, (fun _ => (xG_of 895 (by decide +kernel) (by decide +kernel))), by decide, (fun z => absurd z (by decide)), (fun z => absurd z (by decide)), (fun _ => rfl), (fun z => absurd z (by decide)), (fun z => by cases z), vkX5_costOf⟩
theorem xmX5_copyCost : xMok 47 (yX5_copyCost, cX5_copyCost, some .int, false) := ⟨by decide +kernel, (fun _ => (xG_of 858 (by decide +kernel) (by decide +kernel))), by decide, (fun z => absurd z (by decide)), (fun _ => rfl), (fun z => absurd z (by decide)), (fun z => absurd z (by decide)), (fun z => by cases z), vkX5_copyCost⟩
theorem xmX5_beyond : xMok 48 (yX5_beyond, cX5_beyond, some .int, false) := ⟨by decide +kernel, (fun _ => (xG_of 475 (by decide +kernel) (by decide +kernel))), by decide, (fun z => absurd z (by decide)), (fun _ => rfl), (fun z => absurd z (by decide)), (fun z => absurd z (by decide)), (fun z => by cases z), vkX5_beyond⟩
theorem xmX6_init : xMok 49 (yX6_init, cX6_init, none, true) := ⟨by decide +kernel, (fun _ => (xG_of 589 (by decide +kernel) (by decide +kernel))), by decide, (fun _ => rfl), (fun z => absurd z (by decide)), (fun z => absurd z (by decide)), (fun z => absurd z (by decide)), (fun _ => rfl), vkX6_init⟩
theorem xmX6_hasStep : xMok 50 (yX6_hasStep, cX6_hasStep, some .boolean, false) := ⟨by decide +kernel, (fun _ => (xG_of 905 (by decide +kernel) (by decide +kernel))), by decide, (fun z => absurd z (by decide)), (fun z => absurd z (by decide)), (fun z => absurd z (by decide)), (fun _ => rfl), (fun z => by cases z), vkX6_hasStep⟩
theorem xmX6_begin : xMok 51 (yX6_begin, cX6_begin, none, false) := ⟨by decide +kernel, (fun _ => (xG_of 828 (by decide +kernel) (by decide +kernel))), by decide, (fun _ => rfl), (fun z => absurd z (by decide)), (fun z => absurd z (by decide)), (fun z => absurd z (by decide)), (fun z => by cases z), vkX6_begin⟩
theorem xmX6_add : xMok 52 (yX6_add, cX6_add, none, false) := ⟨by decide +kernel, (fun _ => (xG_of 832 (by decide +kernel) (by decide +kernel))), by decide, (fun _ => rfl), (fun z => absurd z (by decide)), (fun z => absurd z (by decide)), (fun z => absurd z (by decide)), (fun z => by cases z), vkX6_add⟩
theorem xmX6_turnRound : xMok 53 (yX6_turnRound, cX6_turnRound, none, false) := ⟨by decide +kernel, (fun _ => (xG_of 836 (by decide +kernel) (by decide +kernel))), by decide, (fun _ => rfl), (fun z => absurd z (by decide)), (fun z => absurd z (by decide)), (fun z => absurd z (by decide)), (fun z => by cases z), vkX6_turnRound⟩
theorem xmX6_swap : xMok 54 (yX6_swap, cX6_swap, none, false) := ⟨by decide +kernel, (fun _ => (xG_of 839 (by decide +kernel) (by decide +kernel))), by decide, (fun _ => rfl), (fun z => absurd z (by decide)), (fun z => absurd z (by decide)), (fun z => absurd z (by decide)), (fun z => by cases z), vkX6_swap⟩
theorem xmX6_finish : xMok 55 (yX6_finish, cX6_finish, none, false) := ⟨by decide +kernel, (fun _ => (xG_of 911 (by decide +kernel) (by decide +kernel))), by decide, (fun _ => rfl), (fun z => absurd z (by decide)), (fun z => absurd z (by decide)), (fun z => absurd z (by decide)), (fun z => by cases z), vkX6_finish⟩
theorem xmX6_tellBack : xMok 56 (yX6_tellBack, cX6_tellBack, none, false) := ⟨by decide +kernel, (fun _ => (xG_of 915 (by decide +kernel) (by decide +kernel))), by decide, (fun _ => rfl), (fun z => absurd z (by decide)), (fun z => absurd z (by decide)), (fun z => absurd z (by decide)), (fun z => by cases z), vkX6_tellBack⟩
theorem xmX7_init : xMok 57 (yX7_init, cX7_init, none, true) := ⟨by decide +kernel, (fun _ => (xG_of 439 (by decide +kernel) (by decide +kernel))), by decide, (fun _ => rfl), (fun z => absurd z (by decide)), (fun z => absurd z (by decide)), (fun z => absurd z (by decide)), (fun _ => rfl), vkX7_init⟩
theorem xmX7_findBest : xMok 58 (yX7_findBest, cX7_findBest, some .int, false) := ⟨by decide +kernel, (fun _ => (xG_of 870 (by decide +kernel) (by decide +kernel))), by decide, (fun z => absurd z (by decide)), (fun _ => rfl), (fun z => absurd z (by decide)), (fun z => absurd z (by decide)), (fun z => by cases z), vkX7_findBest⟩
theorem xmX7_lead : xMok 59 (yX7_lead, cX7_lead, none, false) := ⟨by decide +kernel, (fun _ => (xG_of 879 (by decide +kernel) (by decide +kernel))), by decide, (fun _ => rfl), (fun z => absurd z (by decide)), (fun z => absurd z (by decide)), (fun z => absurd z (by decide)), (fun z => by cases z), vkX7_lead⟩
theorem xmX7_tellSteps : xMok 60 (yX7_tellSteps, cX7_tellSteps, none, false) := ⟨by decide +kernel, (fun _ => (xG_of 884 (by decide +kernel) (by decide +kernel))), by decide, (fun _ => rfl), (fun z => absurd z (by decide)), (fun z => absurd z (by decide)), (fun z => absurd z (by decide)), (fun z => by cases z), vkX7_tellSteps⟩
theorem xmX8_init : xMok 61 (yX8_init, cX8_init, none, true) := ⟨by decide +kernel, (fun _ => (xG_of 539 (by decide +kernel) (by decide +kernel))), by decide, (fun _ => rfl), (fun z => absurd z (by decide)), (fun z => absurd z (by decide)), (fun z => absurd z (by decide)), (fun _ => rfl), vkX8_init⟩
theorem xmX8_walk : xMok 62 (yX8_walk, cX8_walk, none, false) := ⟨by decide +kernel, (fun _ => (xG_of 919 (by decide +kernel) (by decide +kernel))), by decide, (fun _ => rfl), (fun z => absurd z (by decide)), (fun z => absurd z (by decide)), (fun z => absurd z (by decide)), (fun z => by cases z), vkX8_walk⟩
theorem xmX8_longerAhead : xMok 63 (yX8_longerAhead, cX8_longerAhead, some .boolean, false) := ⟨by decide +kernel, (fun _ => (xG_of 926 (by decide +kernel) (by decide +kernel))), by decide, (fun z => absurd z (by decide)), (fun z => absurd z (by decide)), (fun z => absurd z (by decide)), (fun _ => rfl), (fun z => by cases z), vkX8_longerAhead⟩
theorem xmX8_againAsLong : xMok 64 (yX8_againAsLong, cX8_againAsLong, some .int, false) := ⟨by decide +kernel, (fun _ => (xG_of 931 (by decide +kernel) (by decide +kernel))), by decide, (fun z => absurd z (by decide)), (fun _ => rfl), (fun z => absurd z (by decide)), (fun z => absurd z (by decide)), (fun z => by cases z), vkX8_againAsLong⟩
theorem xmX9_init : xMok 65 (yX9_init, cX9_init, none, true) := ⟨by decide +kernel, (fun _ => (xG_of 47 (by decide +kernel) (by decide +kernel))), by decide, (fun _ => rfl), (fun z => absurd z (by decide)), (fun z => absurd z (by decide)), (fun z => absurd z (by decide)), (fun _ => rfl), vkX9_init⟩
theorem xmX9_has : xMok 66 (yX9_has, cX9_has, some .boolean, false) := ⟨by decide +kernel, (fun _ => (xG_of 782 (by decide +kernel) (by decide +kernel))), by decide, (fun z => absurd z (by decide)), (fun z => absurd z (by decide)), (fun z => absurd z (by decide)), (fun _ => rfl), (fun z => by cases z), vkX9_has⟩
theorem xmX9_append : xMok 67 (yX9_append, cX9_append, none, false) := ⟨by decide +kernel, (fun _ => (xG_of 677 (by decide +kernel) (by decide +kernel))), by decide, (fun _ => rfl), (fun z => absurd z (by decide)), (fun z => absurd z (by decide)), (fun z => absurd z (by decide)), (fun z => by cases z), vkX9_append⟩
theorem xmX9_noteCopies : xMok 68 (yX9_noteCopies, cX9_noteCopies, none, false) := ⟨by decide +kernel, (fun _ => (xG_of 681 (by decide +kernel) (by decide +kernel))), by decide, (fun _ => rfl), (fun z => absurd z (by decide)), (fun z => absurd z (by decide)), (fun z => absurd z (by decide)), (fun z => by cases z), vkX9_noteCopies⟩
theorem xmX9_longestCopy : xMok 69 (yX9_longestCopy, cX9_longestCopy, some .int, false) := ⟨by decide +kernel, (fun _ => (xG_of 778 (by decide +kernel) (by decide +kernel))), by decide, (fun z => absurd z (by decide)), (fun _ => rfl), (fun z => absurd z (by decide)), (fun z => absurd z (by decide)), (fun z => by cases z), vkX9_longestCopy⟩
theorem xmX9_copyDistance : xMok 70 (yX9_copyDistance, cX9_copyDistance, some .int, false) := ⟨by decide +kernel, (fun _ => (xG_of 786 (by decide +kernel) (by decide +kernel))), by decide, (fun z => absurd z (by decide)), (fun _ => rfl), (fun z => absurd z (by decide)), (fun z => absurd z (by decide)), (fun z => by cases z), vkX9_copyDistance⟩
theorem xmX9_sameBy : xMok 71 (yX9_sameBy, cX9_sameBy, some .int, false) := ⟨by decide +kernel, (fun _ => (xG_of 812 (by decide +kernel) (by decide +kernel))), by decide, (fun z => absurd z (by decide)), (fun _ => rfl), (fun z => absurd z (by decide)), (fun z => absurd z (by decide)), (fun z => by cases z), vkX9_sameBy⟩
theorem xmX9_nearestIndex : xMok 72 (yX9_nearestIndex, cX9_nearestIndex, some .int, false) := ⟨by decide +kernel, (fun _ => (xG_of 685 (by decide +kernel) (by decide +kernel))), by decide, (fun z => absurd z (by decide)), (fun _ => rfl), (fun z => absurd z (by decide)), (fun z => absurd z (by decide)), (fun z => by cases z), vkX9_nearestIndex⟩
theorem xmX10_init : xMok 73 (yX10_init, cX10_init, none, true) := ⟨by decide +kernel, (fun _ => (xG_of 33 (by decide +kernel) (by decide +kernel))), by decide, (fun _ => rfl), (fun z => absurd z (by decide)), (fun z => absurd z (by decide)), (fun z => absurd z (by decide)), (fun _ => rfl), vkX10_init⟩
theorem xmX10_octets : xMok 74 (yX10_octets, cX10_octets, some .int, false) := ⟨by decide +kernel, (fun _ => (xG_of 673 (by decide +kernel) (by decide +kernel))), by decide, (fun z => absurd z (by decide)), (fun _ => rfl), (fun z => absurd z (by decide)), (fun z => absurd z (by decide)), (fun z => by cases z), vkX10_octets⟩
theorem xmX10_cost : xMok 75 (yX10_cost, cX10_cost, some .int, false) := ⟨by decide +kernel, (fun _ => (xG_of 689 (by decide +kernel) (by decide +kernel))), by decide, (fun z => absurd z (by decide)), (fun _ => rfl), (fun z => absurd z (by decide)), (fun z => absurd z (by decide)), (fun z => by cases z), vkX10_cost⟩
theorem xmX10_price : xMok 76 (yX10_price, cX10_price, some .int, false) := ⟨by decide +kernel, (fun _ => (xG_of 706 (by decide +kernel) (by decide +kernel))), by decide, (fun z => absurd z (by decide)), (fun _ => rfl), (fun z => absurd z (by decide)), (fun z => absurd z (by decide)), (fun z => by cases z), vkX10_price⟩
theorem xmX10_keep : xMok 77 (yX10_keep, cX10_keep, some .int, false) := ⟨by decide +kernel, (fun _ => (xG_of 710 (by decide +kernel) (by decide +kernel))), by decide, (fun z => absurd z (by decide)), (fun _ => rfl), (fun z => absurd z (by decide)), (fun z => absurd z (by decide)), (fun z => by cases z), vkX10_keep⟩
theorem xmX10_parse : xMok 78 (yX10_parse, cX10_parse, some .int, false) := ⟨by decide +kernel, (fun _ => (xG_of 714 (by decide +kernel) (by decide +kernel))), by decide, (fun z => absurd z (by decide)), (fun _ => rfl), (fun z => absurd z (by decide)), (fun z => absurd z (by decide)), (fun z => by cases z), vkX10_parse⟩
theorem xmX10_step : xMok 79 (yX10_step, cX10_step, some .int, false) := ⟨by decide +kernel, (fun _ => (xG_of 940 (by decide +kernel) (by decide +kernel))), by decide, (fun z => absurd z (by decide)), (fun _ => rfl), (fun z => absurd z (by decide)), (fun z => absurd z (by decide)), (fun z => by cases z), vkX10_step⟩
theorem xmX10_sum : xMok 80 (yX10_sum, cX10_sum, some .long, false) := ⟨by decide +kernel, (fun _ => (xG_of 945 (by decide +kernel) (by decide +kernel))), by decide, (fun z => absurd z (by decide)), (fun z => absurd z (by decide)), (fun _ => rfl), (fun z => absurd z (by decide)), (fun z => by cases z), vkX10_sum⟩
theorem xmX10_again : xMok 81 (yX10_again, cX10_again, some .long, false) := ⟨by decide +kernel, (fun _ => (xG_of 950 (by decide +kernel) (by decide +kernel))), by decide, (fun z => absurd z (by decide)), (fun z => absurd z (by decide)), (fun _ => rfl), (fun z => absurd z (by decide)), (fun z => by cases z), vkX10_again⟩
theorem xmX10_least : xMok 82 (yX10_least, cX10_least, some .boolean, false) := ⟨by decide +kernel, (fun _ => (xG_of 954 (by decide +kernel) (by decide +kernel))), by decide, (fun z => absurd z (by decide)), (fun z => absurd z (by decide)), (fun z => absurd z (by decide)), (fun _ => rfl), (fun z => by cases z), vkX10_least⟩
theorem xmX10_told : xMok 83 (yX10_told, cX10_told, some .int, false) := ⟨by decide +kernel, (fun _ => (xG_of 958 (by decide +kernel) (by decide +kernel))), by decide, (fun z => absurd z (by decide)), (fun _ => rfl), (fun z => absurd z (by decide)), (fun z => absurd z (by decide)), (fun z => by cases z), vkX10_told⟩
theorem xmX10_rounds : xMok 84 (yX10_rounds, cX10_rounds, some .long, false) := ⟨by decide +kernel, (fun _ => (xG_of 963 (by decide +kernel) (by decide +kernel))), by decide, (fun z => absurd z (by decide)), (fun z => absurd z (by decide)), (fun _ => rfl), (fun z => absurd z (by decide)), (fun z => by cases z), vkX10_rounds⟩
theorem xmX10_longest : xMok 85 (yX10_longest, cX10_longest, some .int, false) := ⟨by decide +kernel, (fun _ => (xG_of 998 (by decide +kernel) (by decide +kernel))), by decide, (fun z => absurd z (by decide)), (fun _ => rfl), (fun z => absurd z (by decide)), (fun z => absurd z (by decide)), (fun z => by cases z), vkX10_longest⟩
theorem xmX10_distance : xMok 86 (yX10_distance, cX10_distance, some .int, false) := ⟨by decide +kernel, (fun _ => (xG_of 1003 (by decide +kernel) (by decide +kernel))), by decide, (fun z => absurd z (by decide)), (fun _ => rfl), (fun z => absurd z (by decide)), (fun z => absurd z (by decide)), (fun z => by cases z), vkX10_distance⟩
theorem xmX10_cut : xMok 87 (yX10_cut, cX10_cut, some .int, false) := ⟨by decide +kernel, (fun _ => (xG_of 1008 (by decide +kernel) (by decide +kernel))), by decide, (fun z => absurd z (by decide)), (fun _ => rfl), (fun z => absurd z (by decide)), (fun z => absurd z (by decide)), (fun z => by cases z), vkX10_cut⟩
theorem xmX10_split : xMok 88 (yX10_split, cX10_split, some .long, false) := ⟨by decide +kernel, (fun _ => (xG_of 1016 (by decide +kernel) (by decide +kernel))), by decide, (fun z => absurd z (by decide)), (fun z => absurd z (by decide)), (fun _ => rfl), (fun z => absurd z (by decide)), (fun z => by cases z), vkX10_split⟩
theorem xmX10_taken : xMok 89 (yX10_taken, cX10_taken, some .int, false) := ⟨by decide +kernel, (fun _ => (xG_of 1039 (by decide +kernel) (by decide +kernel))), by decide, (fun z => absurd z (by decide)), (fun _ => rfl), (fun z => absurd z (by decide)), (fun z => absurd z (by decide)), (fun z => by cases z), vkX10_taken⟩
theorem xmX10_many : xMok 90 (yX10_many, cX10_many, some .int, false) := ⟨by decide +kernel, (fun _ => (xG_of 1043 (by decide +kernel) (by decide +kernel))), by decide, (fun z => absurd z (by decide)), (fun _ => rfl), (fun z => absurd z (by decide)), (fun z => absurd z (by decide)), (fun z => by cases z), vkX10_many⟩
theorem xmX10_clear : xMok 91 (yX10_clear, cX10_clear, none, false) := ⟨by decide +kernel, (fun _ => (xG_of 1047 (by decide +kernel) (by decide +kernel))), by decide, (fun _ => rfl), (fun z => absurd z (by decide)), (fun z => absurd z (by decide)), (fun z => absurd z (by decide)), (fun z => by cases z), vkX10_clear⟩
theorem xmX10_findBest : xMok 92 (yX10_findBest, cX10_findBest, none, false) := ⟨by decide +kernel, (fun _ => (xG_of 718 (by decide +kernel) (by decide +kernel))), by decide, (fun _ => rfl), (fun z => absurd z (by decide)), (fun z => absurd z (by decide)), (fun z => absurd z (by decide)), (fun z => by cases z), vkX10_findBest⟩
theorem xmX10_takeSpare : xMok 93 (yX10_takeSpare, cX10_takeSpare, none, false) := ⟨by decide +kernel, (fun _ => (xG_of 994 (by decide +kernel) (by decide +kernel))), by decide, (fun _ => rfl), (fun z => absurd z (by decide)), (fun z => absurd z (by decide)), (fun z => absurd z (by decide)), (fun z => by cases z), vkX10_takeSpare⟩
theorem xmX10_logOf : xMok 94 (yX10_logOf, cX10_logOf, some .int, false) := ⟨by decide +kernel, (fun _ => (xG_of 983 (by decide +kernel) (by decide +kernel))), by decide, (fun z => absurd z (by decide)), (fun _ => rfl), (fun z => absurd z (by decide)), (fun z => absurd z (by decide)), (fun z => by cases z), vkX10_logOf⟩
theorem xmX10_highestBit : xMok 95 (yX10_highestBit, cX10_highestBit, some .int, false) := ⟨by decide +kernel, (fun _ => (xG_of 742 (by decide +kernel) (by decide +kernel))), by decide, (fun z => absurd z (by decide)), (fun _ => rfl), (fun z => absurd z (by decide)), (fun z => absurd z (by decide)), (fun z => by cases z), vkX10_highestBit⟩
theorem xmX11_init : xMok 96 (yX11_init, cX11_init, none, true) := ⟨by decide +kernel, (fun _ => (xG_of 1073 (by decide +kernel) (by decide +kernel))), by decide, (fun _ => rfl), (fun z => absurd z (by decide)), (fun z => absurd z (by decide)), (fun z => absurd z (by decide)), (fun _ => rfl), vkX11_init⟩
theorem xmX11_thrown : xMok 97 (yX11_thrown, cX11_thrown, some .int, false) := ⟨by decide +kernel, (fun _ => (xG_of 1226 (by decide +kernel) (by decide +kernel))), by decide, (fun z => absurd z (by decide)), (fun _ => rfl), (fun z => absurd z (by decide)), (fun z => absurd z (by decide)), (fun z => by cases z), vkX11_thrown⟩
theorem xmX11_start : xMok 98 (yX11_start, cX11_start, none, false) := ⟨by decide +kernel, (fun _ => (xG_of 1080 (by decide +kernel) (by decide +kernel))), by decide, (fun _ => rfl), (fun z => absurd z (by decide)), (fun z => absurd z (by decide)), (fun z => absurd z (by decide)), (fun z => by cases z), vkX11_start⟩
theorem xmX11_shortest : xMok 99 (yX11_shortest, cX11_shortest, some .int, false) := ⟨by decide +kernel, (fun _ => (xG_of 1302 (by decide +kernel) (by decide +kernel))), by decide, (fun z => absurd z (by decide)), (fun _ => rfl), (fun z => absurd z (by decide)), (fun z => absurd z (by decide)), (fun z => by cases z), vkX11_shortest⟩
theorem xmX11_greatest : xMok 100 (yX11_greatest, cX11_greatest, some .int, false) := ⟨by decide +kernel, (fun _ => (xG_of 1266 (by decide +kernel) (by decide +kernel))), by decide, (fun z => absurd z (by decide)), (fun _ => rfl), (fun z => absurd z (by decide)), (fun z => absurd z (by decide)), (fun z => by cases z), vkX11_greatest⟩
theorem xmX11_symbols : xMok 101 (yX11_symbols, cX11_symbols, some .int, false) := ⟨by decide +kernel, (fun _ => (xG_of 1242 (by decide +kernel) (by decide +kernel))), by decide, (fun z => absurd z (by decide)), (fun _ => rfl), (fun z => absurd z (by decide)), (fun z => absurd z (by decide)), (fun z => by cases z), vkX11_symbols⟩
theorem xmX11_isCost : xMok 102 (yX11_isCost, cX11_isCost, some .boolean, false) := ⟨by decide +kernel, (fun _ => (xG_of 1239 (by decide +kernel) (by decide +kernel))), by decide, (fun z => absurd z (by decide)), (fun z => absurd z (by decide)), (fun z => absurd z (by decide)), (fun _ => rfl), (fun z => by cases z), vkX11_isCost⟩
theorem xmX11_octets : xMok 103 (yX11_octets, cX11_octets, some .int, false) := ⟨by decide +kernel, (fun _ => (xG_of 1230 (by decide +kernel) (by decide +kernel))), by decide, (fun z => absurd z (by decide)), (fun _ => rfl), (fun z => absurd z (by decide)), (fun z => absurd z (by decide)), (fun z => by cases z), vkX11_octets⟩
theorem xmX11_cost : xMok 104 (yX11_cost, cX11_cost, some .int, false) := ⟨by decide +kernel, (fun _ => (xG_of 1235 (by decide +kernel) (by decide +kernel))), by decide, (fun z => absurd z (by decide)), (fun _ => rfl), (fun z => absurd z (by decide)), (fun z => absurd z (by decide)), (fun z => by cases z), vkX11_cost⟩
theorem xmX11_price : xMok 105 (yX11_price, cX11_price, some .int, false) := ⟨by decide +kernel, (fun _ => (xG_of 1246 (by decide +kernel) (by decide +kernel))), by decide, (fun z => absurd z (by decide)), (fun _ => rfl), (fun z => absurd z (by decide)), (fun z => absurd z (by decide)), (fun z => by cases z), vkX11_price⟩
theorem xmX11_keep : xMok 106 (yX11_keep, cX11_keep, some .int, false) := ⟨by decide +kernel, (fun _ => (xG_of 1250 (by decide +kernel) (by decide +kernel))), by decide, (fun z => absurd z (by decide)), (fun _ => rfl), (fun z => absurd z (by decide)), (fun z => absurd z (by decide)), (fun z => by cases z), vkX11_keep⟩
theorem xmX11_layOut : xMok 107 (yX11_layOut, cX11_layOut, none, false) := ⟨by decide +kernel, (fun _ => (xG_of 1262 (by decide +kernel) (by decide +kernel))), by decide, (fun _ => rfl), (fun z => absurd z (by decide)), (fun z => absurd z (by decide)), (fun z => absurd z (by decide)), (fun z => by cases z), vkX11_layOut⟩
theorem xmX11_longestCopy : xMok 108 (yX11_longestCopy, cX11_longestCopy, some .int, false) := ⟨by decide +kernel, (fun _ => (xG_of 1298 (by decide +kernel) (by decide +kernel))), by decide, (fun z => absurd z (by decide)), (fun _ => rfl), (fun z => absurd z (by decide)), (fun z => absurd z (by decide)), (fun z => by cases z), vkX11_longestCopy⟩
theorem xmX11_longestAgain : xMok 109 (yX11_longestAgain, cX11_longestAgain, some .int, false) := ⟨by decide +kernel, (fun _ => (xG_of 1348 (by decide +kernel) (by decide +kernel))), by decide, (fun z => absurd z (by decide)), (fun _ => rfl), (fun z => absurd z (by decide)), (fun z => absurd z (by decide)), (fun z => by cases z), vkX11_longestAgain⟩
theorem xmX11_high : xMok 110 (yX11_high, cX11_high, some .int, false) := ⟨by decide +kernel, (fun _ => (xG_of 1331 (by decide +kernel) (by decide +kernel))), by decide, (fun z => absurd z (by decide)), (fun _ => rfl), (fun z => absurd z (by decide)), (fun z => absurd z (by decide)), (fun z => by cases z), vkX11_high⟩
theorem xmX11_lengthSlot : xMok 111 (yX11_lengthSlot, cX11_lengthSlot, some .int, false) := ⟨by decide +kernel, (fun _ => (xG_of 1328 (by decide +kernel) (by decide +kernel))), by decide, (fun z => absurd z (by decide)), (fun _ => rfl), (fun z => absurd z (by decide)), (fun z => absurd z (by decide)), (fun z => by cases z), vkX11_lengthSlot⟩
theorem xmX11_lengthBits : xMok 112 (yX11_lengthBits, cX11_lengthBits, some .int, false) := ⟨by decide +kernel, (fun _ => (xG_of 1334 (by decide +kernel) (by decide +kernel))), by decide, (fun z => absurd z (by decide)), (fun _ => rfl), (fun z => absurd z (by decide)), (fun z => absurd z (by decide)), (fun z => by cases z), vkX11_lengthBits⟩
theorem xmX11_distanceSlot : xMok 113 (yX11_distanceSlot, cX11_distanceSlot, some .int, false) := ⟨by decide +kernel, (fun _ => (xG_of 1341 (by decide +kernel) (by decide +kernel))), by decide, (fun z => absurd z (by decide)), (fun _ => rfl), (fun z => absurd z (by decide)), (fun z => absurd z (by decide)), (fun z => by cases z), vkX11_distanceSlot⟩
theorem xmX11_distanceBits : xMok 114 (yX11_distanceBits, cX11_distanceBits, some .int, false) := ⟨by decide +kernel, (fun _ => (xG_of 1344 (by decide +kernel) (by decide +kernel))), by decide, (fun z => absurd z (by decide)), (fun _ => rfl), (fun z => absurd z (by decide)), (fun z => absurd z (by decide)), (fun z => by cases z), vkX11_distanceBits⟩
theorem xmX11_lengthCost : xMok 115 (yX11_lengthCost, cX11_lengthCost, some .int, false) := ⟨by decide +kernel, (fun _ => (xG_of 1325 (by decide +kernel) (by decide +kernel))), by decide, (fun z => absurd z (by decide)), (fun _ => rfl), (fun z => absurd z (by decide)), (fun z => absurd z (by decide)), (fun z => by cases z), vkX11_lengthCost⟩
theorem xmX11_distanceCost : xMok 116 (yX11_distanceCost, cX11_distanceCost, some .int, false) := ⟨by decide +kernel, (fun _ => (xG_of 1338 (by decide +kernel) (by decide +kernel))), by decide, (fun z => absurd z (by decide)), (fun _ => rfl), (fun z => absurd z (by decide)), (fun z => absurd z (by decide)), (fun z => by cases z), vkX11_distanceCost⟩
theorem xmX11_kindCost : xMok 117 (yX11_kindCost, cX11_kindCost, some .int, false) := ⟨by decide +kernel, (fun _ => (xG_of 1321 (by decide +kernel) (by decide +kernel))), by decide, (fun z => absurd z (by decide)), (fun _ => rfl), (fun z => absurd z (by decide)), (fun z => absurd z (by decide)), (fun z => by cases z), vkX11_kindCost⟩
theorem xmX11_more : xMok 118 (yX11_more, cX11_more, some .int, false) := ⟨by decide +kernel, (fun _ => (xG_of 1317 (by decide +kernel) (by decide +kernel))), by decide, (fun z => absurd z (by decide)), (fun _ => rfl), (fun z => absurd z (by decide)), (fun z => absurd z (by decide)), (fun z => by cases z), vkX11_more⟩
theorem xmX11_stepCost : xMok 119 (yX11_stepCost, cX11_stepCost, some .int, false) := ⟨by decide +kernel, (fun _ => (xG_of 1314 (by decide +kernel) (by decide +kernel))), by decide, (fun z => absurd z (by decide)), (fun _ => rfl), (fun z => absurd z (by decide)), (fun z => absurd z (by decide)), (fun z => by cases z), vkX11_stepCost⟩
theorem xmX11_allCost : xMok 120 (yX11_allCost, cX11_allCost, some .long, false) := ⟨by decide +kernel, (fun _ => (xG_of 1398 (by decide +kernel) (by decide +kernel))), by decide, (fun z => absurd z (by decide)), (fun z => absurd z (by decide)), (fun _ => rfl), (fun z => absurd z (by decide)), (fun z => by cases z), vkX11_allCost⟩
theorem xmX11_clearLatest : xMok 121 (yX11_clearLatest, cX11_clearLatest, none, false) := ⟨by decide +kernel, (fun _ => (xG_of 1274 (by decide +kernel) (by decide +kernel))), by decide, (fun _ => rfl), (fun z => absurd z (by decide)), (fun z => absurd z (by decide)), (fun z => absurd z (by decide)), (fun z => by cases z), vkX11_clearLatest⟩
theorem xmX11_ahead : xMok 122 (yX11_ahead, cX11_ahead, none, false) := ⟨by decide +kernel, (fun _ => (xG_of 1310 (by decide +kernel) (by decide +kernel))), by decide, (fun _ => rfl), (fun z => absurd z (by decide)), (fun z => absurd z (by decide)), (fun z => absurd z (by decide)), (fun z => by cases z), vkX11_ahead⟩
theorem xmX11_longestOf : xMok 123 (yX11_longestOf, cX11_longestOf, some .int, false) := ⟨by decide +kernel, (fun _ => (xG_of 1394 (by decide +kernel) (by decide +kernel))), by decide, (fun z => absurd z (by decide)), (fun _ => rfl), (fun z => absurd z (by decide)), (fun z => absurd z (by decide)), (fun z => by cases z), vkX11_longestOf⟩
theorem xmX11_addStep : xMok 124 (yX11_addStep, cX11_addStep, none, false) := ⟨by decide +kernel, (fun _ => (xG_of 1356 (by decide +kernel) (by decide +kernel))), by decide, (fun _ => rfl), (fun z => absurd z (by decide)), (fun z => absurd z (by decide)), (fun z => absurd z (by decide)), (fun z => by cases z), vkX11_addStep⟩
theorem xmX11_greedy : xMok 125 (yX11_greedy, cX11_greedy, none, false) := ⟨by decide +kernel, (fun _ => (xG_of 1390 (by decide +kernel) (by decide +kernel))), by decide, (fun _ => rfl), (fun z => absurd z (by decide)), (fun z => absurd z (by decide)), (fun z => absurd z (by decide)), (fun z => by cases z), vkX11_greedy⟩
theorem xmX11_at : xMok 126 (yX11_at, cX11_at, some .int, false) := ⟨by decide +kernel, (fun _ => (xG_of 1368 (by decide +kernel) (by decide +kernel))), by decide, (fun z => absurd z (by decide)), (fun _ => rfl), (fun z => absurd z (by decide)), (fun z => absurd z (by decide)), (fun z => by cases z), vkX11_at⟩
theorem xmX11_firstRow : xMok 127 (yX11_firstRow, cX11_firstRow, some .int, false) := ⟨by decide +kernel, (fun _ => (xG_of 1373 (by decide +kernel) (by decide +kernel))), by decide, (fun z => absurd z (by decide)), (fun _ => rfl), (fun z => absurd z (by decide)), (fun z => absurd z (by decide)), (fun z => by cases z), vkX11_firstRow⟩
theorem xmX11_clearTable : xMok 128 (yX11_clearTable, cX11_clearTable, none, false) := ⟨by decide +kernel, (fun _ => (xG_of 1364 (by decide +kernel) (by decide +kernel))), by decide, (fun _ => rfl), (fun z => absurd z (by decide)), (fun z => absurd z (by decide)), (fun z => absurd z (by decide)), (fun z => by cases z), vkX11_clearTable⟩
theorem xmX11_copies : xMok 129 (yX11_copies, cX11_copies, none, false) := ⟨by decide +kernel, (fun _ => (xG_of 1377 (by decide +kernel) (by decide +kernel))), by decide, (fun _ => rfl), (fun z => absurd z (by decide)), (fun z => absurd z (by decide)), (fun z => absurd z (by decide)), (fun z => by cases z), vkX11_copies⟩
theorem xmX11_literals : xMok 130 (yX11_literals, cX11_literals, none, false) := ⟨by decide +kernel, (fun _ => (xG_of 1381 (by decide +kernel) (by decide +kernel))), by decide, (fun _ => rfl), (fun z => absurd z (by decide)), (fun z => absurd z (by decide)), (fun z => absurd z (by decide)), (fun z => by cases z), vkX11_literals⟩
theorem xmX11_backPlain : xMok 131 (yX11_backPlain, cX11_backPlain, none, false) := ⟨by decide +kernel, (fun _ => (xG_of 1385 (by decide +kernel) (by decide +kernel))), by decide, (fun _ => rfl), (fun z => absurd z (by decide)), (fun z => absurd z (by decide)), (fun z => absurd z (by decide)), (fun z => by cases z), vkX11_backPlain⟩
theorem xmX11_turnBack : xMok 132 (yX11_turnBack, cX11_turnBack, none, false) := ⟨by decide +kernel, (fun _ => (xG_of 1352 (by decide +kernel) (by decide +kernel))), by decide, (fun _ => rfl), (fun z => absurd z (by decide)), (fun z => absurd z (by decide)), (fun z => absurd z (by decide)), (fun z => by cases z), vkX11_turnBack⟩
theorem xmX11_bestPlain : xMok 133 (yX11_bestPlain, cX11_bestPlain, none, false) := ⟨by decide +kernel, (fun _ => (xG_of 1360 (by decide +kernel) (by decide +kernel))), by decide, (fun _ => rfl), (fun z => absurd z (by decide)), (fun z => absurd z (by decide)), (fun z => absurd z (by decide)), (fun z => by cases z), vkX11_bestPlain⟩
theorem xmX11_isState : xMok 134 (yX11_isState, cX11_isState, some .boolean, false) := ⟨by decide +kernel, (fun _ => (xG_of 1282 (by decide +kernel) (by decide +kernel))), by decide, (fun z => absurd z (by decide)), (fun z => absurd z (by decide)), (fun z => absurd z (by decide)), (fun _ => rfl), (fun z => by cases z), vkX11_isState⟩
theorem xmX11_isBehind : xMok 135 (yX11_isBehind, cX11_isBehind, some .boolean, false) := ⟨by decide +kernel, (fun _ => (xG_of 1290 (by decide +kernel) (by decide +kernel))), by decide, (fun z => absurd z (by decide)), (fun z => absurd z (by decide)), (fun z => absurd z (by decide)), (fun _ => rfl), (fun z => by cases z), vkX11_isBehind⟩
theorem xmX11_moveState : xMok 136 (yX11_moveState, cX11_moveState, none, false) := ⟨by decide +kernel, (fun _ => (xG_of 1286 (by decide +kernel) (by decide +kernel))), by decide, (fun _ => rfl), (fun z => absurd z (by decide)), (fun z => absurd z (by decide)), (fun z => absurd z (by decide)), (fun z => by cases z), vkX11_moveState⟩
theorem xmX11_comes : xMok 137 (yX11_comes, cX11_comes, none, false) := ⟨by decide +kernel, (fun _ => (xG_of 1278 (by decide +kernel) (by decide +kernel))), by decide, (fun _ => rfl), (fun z => absurd z (by decide)), (fun z => absurd z (by decide)), (fun z => absurd z (by decide)), (fun z => by cases z), vkX11_comes⟩
theorem xmX11_takeLatest : xMok 138 (yX11_takeLatest, cX11_takeLatest, none, false) := ⟨by decide +kernel, (fun _ => (xG_of 1306 (by decide +kernel) (by decide +kernel))), by decide, (fun _ => rfl), (fun z => absurd z (by decide)), (fun z => absurd z (by decide)), (fun z => absurd z (by decide)), (fun z => by cases z), vkX11_takeLatest⟩
theorem xmX11_expand : xMok 139 (yX11_expand, cX11_expand, none, false) := ⟨by decide +kernel, (fun _ => (xG_of 1294 (by decide +kernel) (by decide +kernel))), by decide, (fun _ => rfl), (fun z => absurd z (by decide)), (fun z => absurd z (by decide)), (fun z => absurd z (by decide)), (fun z => by cases z), vkX11_expand⟩
theorem xmX11_bestWide : xMok 140 (yX11_bestWide, cX11_bestWide, none, false) := ⟨by decide +kernel, (fun _ => (xG_of 1270 (by decide +kernel) (by decide +kernel))), by decide, (fun _ => rfl), (fun z => absurd z (by decide)), (fun z => absurd z (by decide)), (fun z => absurd z (by decide)), (fun z => by cases z), vkX11_bestWide⟩
theorem xmX11_best : xMok 141 (yX11_best, cX11_best, none, false) := ⟨by decide +kernel, (fun _ => (xG_of 1258 (by decide +kernel) (by decide +kernel))), by decide, (fun _ => rfl), (fun z => absurd z (by decide)), (fun z => absurd z (by decide)), (fun z => absurd z (by decide)), (fun z => by cases z), vkX11_best⟩
theorem xmX11_parse : xMok 142 (yX11_parse, cX11_parse, some .int, false) := ⟨by decide +kernel, (fun _ => (xG_of 1254 (by decide +kernel) (by decide +kernel))), by decide, (fun z => absurd z (by decide)), (fun _ => rfl), (fun z => absurd z (by decide)), (fun z => absurd z (by decide)), (fun z => by cases z), vkX11_parse⟩
theorem xmX11_log : xMok 143 (yX11_log, cX11_log, some .int, false) := ⟨by decide +kernel, (fun _ => (xG_of 1410 (by decide +kernel) (by decide +kernel))), by decide, (fun z => absurd z (by decide)), (fun _ => rfl), (fun z => absurd z (by decide)), (fun z => absurd z (by decide)), (fun z => by cases z), vkX11_log⟩
theorem xmX11_fit : xMok 144 (yX11_fit, cX11_fit, none, false) := ⟨by decide +kernel, (fun _ => (xG_of 1407 (by decide +kernel) (by decide +kernel))), by decide, (fun _ => rfl), (fun z => absurd z (by decide)), (fun z => absurd z (by decide)), (fun z => absurd z (by decide)), (fun z => by cases z), vkX11_fit⟩
theorem xmX11_rounds : xMok 145 (yX11_rounds, cX11_rounds, some .long, false) := ⟨by decide +kernel, (fun _ => (xG_of 1402 (by decide +kernel) (by decide +kernel))), by decide, (fun z => absurd z (by decide)), (fun z => absurd z (by decide)), (fun _ => rfl), (fun z => absurd z (by decide)), (fun z => by cases z), vkX11_rounds⟩
theorem xmX11_step : xMok 146 (yX11_step, cX11_step, some .int, false) := ⟨by decide +kernel, (fun _ => (xG_of 1415 (by decide +kernel) (by decide +kernel))), by decide, (fun z => absurd z (by decide)), (fun _ => rfl), (fun z => absurd z (by decide)), (fun z => absurd z (by decide)), (fun z => by cases z), vkX11_step⟩
theorem xmX11_sum : xMok 147 (yX11_sum, cX11_sum, some .long, false) := ⟨by decide +kernel, (fun _ => (xG_of 1419 (by decide +kernel) (by decide +kernel))), by decide, (fun z => absurd z (by decide)), (fun z => absurd z (by decide)), (fun _ => rfl), (fun z => absurd z (by decide)), (fun z => by cases z), vkX11_sum⟩
theorem xmX11_again : xMok 148 (yX11_again, cX11_again, some .long, false) := ⟨by decide +kernel, (fun _ => (xG_of 1423 (by decide +kernel) (by decide +kernel))), by decide, (fun z => absurd z (by decide)), (fun z => absurd z (by decide)), (fun _ => rfl), (fun z => absurd z (by decide)), (fun z => by cases z), vkX11_again⟩
theorem xmX11_least : xMok 149 (yX11_least, cX11_least, some .boolean, false) := ⟨by decide +kernel, (fun _ => (xG_of 1427 (by decide +kernel) (by decide +kernel))), by decide, (fun z => absurd z (by decide)), (fun z => absurd z (by decide)), (fun z => absurd z (by decide)), (fun _ => rfl), (fun z => by cases z), vkX11_least⟩
theorem xmX11_told : xMok 150 (yX11_told, cX11_told, some .int, false) := ⟨by decide +kernel, (fun _ => (xG_of 1431 (by decide +kernel) (by decide +kernel))), by decide, (fun z => absurd z (by decide)), (fun _ => rfl), (fun z => absurd z (by decide)), (fun z => absurd z (by decide)), (fun z => by cases z), vkX11_told⟩
theorem xmX11_longest : xMok 151 (yX11_longest, cX11_longest, some .int, false) := ⟨by decide +kernel, (fun _ => (xG_of 1435 (by decide +kernel) (by decide +kernel))), by decide, (fun z => absurd z (by decide)), (fun _ => rfl), (fun z => absurd z (by decide)), (fun z => absurd z (by decide)), (fun z => by cases z), vkX11_longest⟩
theorem xmX11_distance : xMok 152 (yX11_distance, cX11_distance, some .int, false) := ⟨by decide +kernel, (fun _ => (xG_of 1439 (by decide +kernel) (by decide +kernel))), by decide, (fun z => absurd z (by decide)), (fun _ => rfl), (fun z => absurd z (by decide)), (fun z => absurd z (by decide)), (fun z => by cases z), vkX11_distance⟩
theorem xmX11_cut : xMok 153 (yX11_cut, cX11_cut, some .int, false) := ⟨by decide +kernel, (fun _ => (xG_of 1443 (by decide +kernel) (by decide +kernel))), by decide, (fun z => absurd z (by decide)), (fun _ => rfl), (fun z => absurd z (by decide)), (fun z => absurd z (by decide)), (fun z => by cases z), vkX11_cut⟩
theorem xmX11_border : xMok 154 (yX11_border, cX11_border, some .int, false) := ⟨by decide +kernel, (fun _ => (xG_of 1456 (by decide +kernel) (by decide +kernel))), by decide, (fun z => absurd z (by decide)), (fun _ => rfl), (fun z => absurd z (by decide)), (fun z => absurd z (by decide)), (fun z => by cases z), vkX11_border⟩
theorem xmX11_fillBlocks : xMok 155 (yX11_fillBlocks, cX11_fillBlocks, none, false) := ⟨by decide +kernel, (fun _ => (xG_of 1452 (by decide +kernel) (by decide +kernel))), by decide, (fun _ => rfl), (fun z => absurd z (by decide)), (fun z => absurd z (by decide)), (fun z => absurd z (by decide)), (fun z => by cases z), vkX11_fillBlocks⟩
theorem xmX11_setCost : xMok 156 (yX11_setCost, cX11_setCost, some .long, false) := ⟨by decide +kernel, (fun _ => (xG_of 1460 (by decide +kernel) (by decide +kernel))), by decide, (fun z => absurd z (by decide)), (fun z => absurd z (by decide)), (fun _ => rfl), (fun z => absurd z (by decide)), (fun z => by cases z), vkX11_setCost⟩
theorem xmX11_count : xMok 157 (yX11_count, cX11_count, some .int, false) := ⟨by decide +kernel, (fun _ => (xG_of 1463 (by decide +kernel) (by decide +kernel))), by decide, (fun z => absurd z (by decide)), (fun _ => rfl), (fun z => absurd z (by decide)), (fun z => absurd z (by decide)), (fun z => by cases z), vkX11_count⟩
theorem xmX11_isBefore : xMok 158 (yX11_isBefore, cX11_isBefore, some .boolean, false) := ⟨by decide +kernel, (fun _ => (xG_of 1466 (by decide +kernel) (by decide +kernel))), by decide, (fun z => absurd z (by decide)), (fun z => absurd z (by decide)), (fun z => absurd z (by decide)), (fun _ => rfl), (fun z => by cases z), vkX11_isBefore⟩
theorem xmX11_split : xMok 159 (yX11_split, cX11_split, some .long, false) := ⟨by decide +kernel, (fun _ => (xG_of 1447 (by decide +kernel) (by decide +kernel))), by decide, (fun z => absurd z (by decide)), (fun z => absurd z (by decide)), (fun _ => rfl), (fun z => absurd z (by decide)), (fun z => by cases z), vkX11_split⟩
theorem xmX11_taken : xMok 160 (yX11_taken, cX11_taken, some .int, false) := ⟨by decide +kernel, (fun _ => (xG_of 1470 (by decide +kernel) (by decide +kernel))), by decide, (fun z => absurd z (by decide)), (fun _ => rfl), (fun z => absurd z (by decide)), (fun z => absurd z (by decide)), (fun z => by cases z), vkX11_taken⟩
theorem xmX11_many : xMok 161 (yX11_many, cX11_many, some .int, false) := ⟨by decide +kernel, (fun _ => (xG_of 1474 (by decide +kernel) (by decide +kernel))), by decide, (fun z => absurd z (by decide)), (fun _ => rfl), (fun z => absurd z (by decide)), (fun z => absurd z (by decide)), (fun z => by cases z), vkX11_many⟩
theorem xmX11_clear : xMok 162 (yX11_clear, cX11_clear, none, false) := ⟨by decide +kernel, (fun _ => (xG_of 1478 (by decide +kernel) (by decide +kernel))), by decide, (fun _ => rfl), (fun z => absurd z (by decide)), (fun z => absurd z (by decide)), (fun z => absurd z (by decide)), (fun z => by cases z), vkX11_clear⟩
theorem xmX11_trier : xMok 163 (yX11_trier, cX11_trier, some .int, false) := ⟨by decide +kernel, (fun _ => (xG_of 1482 (by decide +kernel) (by decide +kernel))), by decide, (fun z => absurd z (by decide)), (fun _ => rfl), (fun z => absurd z (by decide)), (fun z => absurd z (by decide)), (fun z => by cases z), vkX11_trier⟩
theorem xmJ7_rangeCheck_23922 : xMok 164 (yJ7_rangeCheck_23922, cJ7_rangeCheck_23922, none, false) := ⟨by decide +kernel, (fun _ => (xG_of 111 (by decide +kernel) (by decide +kernel))), by decide, (fun _ => rfl), (fun z => absurd z (by decide)), (fun z => absurd z (by decide)), (fun z => absurd z (by decide)), (fun z => by cases z), vkJ7_rangeCheck_23922⟩
theorem xmJ7_fill_d0a16 : xMok 165 (yJ7_fill_d0a16, cJ7_fill_d0a16, none, false) := ⟨by decide +kernel, (fun _ => (xG_of 756 (by decide +kernel) (by decide +kernel))), by decide, (fun _ => rfl), (fun z => absurd z (by decide)), (fun z => absurd z (by decide)), (fun z => absurd z (by decide)), (fun z => by cases z), vkJ7_fill_d0a16⟩
theorem xmJ7_fill_53178 : xMok 166 (yJ7_fill_53178, cJ7_fill_53178, none, false) := ⟨by decide +kernel, (fun _ => (xG_of 846 (by decide +kernel) (by decide +kernel))), by decide, (fun _ => rfl), (fun z => absurd z (by decide)), (fun z => absurd z (by decide)), (fun z => absurd z (by decide)), (fun z => by cases z), vkJ7_fill_53178⟩
theorem xmJ7_fill_fda19 : xMok 167 (yJ7_fill_fda19, cJ7_fill_fda19, none, false) := ⟨by decide +kernel, (fun _ => (xG_of 108 (by decide +kernel) (by decide +kernel))), by decide, (fun _ => rfl), (fun z => absurd z (by decide)), (fun z => absurd z (by decide)), (fun z => absurd z (by decide)), (fun z => by cases z), vkJ7_fill_fda19⟩
theorem xmL_cell : xMok 168 (yL_cell, cL_cell, some .int, false) := ⟨by decide +kernel, (fun _ => (xG_of 1055 (by decide +kernel) (by decide +kernel))), by decide, (fun z => absurd z (by decide)), (fun _ => rfl), (fun z => absurd z (by decide)), (fun z => absurd z (by decide)), (fun z => by cases z), vkL_cell⟩
theorem xmL_law : xMok 169 (yL_law, cL_law, some .boolean, false) := ⟨by decide +kernel, (fun z => absurd rfl z), by decide, (fun z => absurd z (by decide)), (fun z => absurd z (by decide)), (fun z => absurd z (by decide)), (fun _ => rfl), (fun z => by cases z), vkL_law⟩
theorem xval : xVal := by
  intro i t ht
  match i, ht with
  | 0, ht => cases ht; exact xmX0_init
  | 1, ht => cases ht; exact xmX0_forget
  | 2, ht => cases ht; exact xmX0_addCut
  | 3, ht => cases ht; exact xmX0_divide
  | 4, ht => cases ht; exact xmX0_findRest
  | 5, ht => cases ht; exact xmX0_countOctet
  | 6, ht => cases ht; exact xmX0_placeOf
  | 7, ht => cases ht; exact xmX1_init
  | 8, ht => cases ht; exact xmX1_reset
  | 9, ht => cases ht; exact xmX1_has
  | 10, ht => cases ht; exact xmX1_of
  | 11, ht => cases ht; exact xmX1_put
  | 12, ht => cases ht; exact xmX1_copyFrom
  | 13, ht => cases ht; exact xmX1_prepare
  | 14, ht => cases ht; exact xmX1_literalCost
  | 15, ht => cases ht; exact xmX1_kindCost
  | 16, ht => cases ht; exact xmX1_stepCost
  | 17, ht => cases ht; exact xmX1_lengthCost
  | 18, ht => cases ht; exact xmX1_distanceCost
  | 19, ht => cases ht; exact xmX1_lengthSlot
  | 20, ht => cases ht; exact xmX1_distanceSlot
  | 21, ht => cases ht; exact xmX1_fitTo
  | 22, ht => cases ht; exact xmX1_countSymbols
  | 23, ht => cases ht; exact xmX1_countOne
  | 24, ht => cases ht; exact xmX1_fitClass
  | 25, ht => cases ht; exact xmX2_init
  | 26, ht => cases ht; exact xmX2_costOf
  | 27, ht => cases ht; exact xmX3_at
  | 28, ht => cases ht; exact xmX3_behindCopy
  | 29, ht => cases ht; exact xmX3_behindAgain
  | 30, ht => cases ht; exact xmX4_init
  | 31, ht => cases ht; exact xmX4_findBest
  | 32, ht => cases ht; exact xmX4_begin
  | 33, ht => cases ht; exact xmX4_goFrom
  | 34, ht => cases ht; exact xmX4_copiesWereLed
  | 35, ht => cases ht; exact xmX4_leadByCopies
  | 36, ht => cases ht; exact xmX4_leadByAgain
  | 37, ht => cases ht; exact xmX4_lead
  | 38, ht => cases ht; exact xmX4_makeRoom
  | 39, ht => cases ht; exact xmX4_insert
  | 40, ht => cases ht; exact xmX4_tellSteps
  | 41, ht => cases ht; exact xmX5_init
  | 42, ht => cases ht; exact xmX5_findBest
  | 43, ht => cases ht; exact xmX5_findFirst
  | 44, ht => cases ht; exact xmX5_lead
  | 45, ht => cases ht; exact xmX5_tellSteps
  | 46, ht => cases ht; exact xmX5_costOf
  | 47, ht => cases ht; exact xmX5_copyCost
  | 48, ht => cases ht; exact xmX5_beyond
  | 49, ht => cases ht; exact xmX6_init
  | 50, ht => cases ht; exact xmX6_hasStep
  | 51, ht => cases ht; exact xmX6_begin
  | 52, ht => cases ht; exact xmX6_add
  | 53, ht => cases ht; exact xmX6_turnRound
  | 54, ht => cases ht; exact xmX6_swap
  | 55, ht => cases ht; exact xmX6_finish
  | 56, ht => cases ht; exact xmX6_tellBack
  | 57, ht => cases ht; exact xmX7_init
  | 58, ht => cases ht; exact xmX7_findBest
  | 59, ht => cases ht; exact xmX7_lead
  | 60, ht => cases ht; exact xmX7_tellSteps
  | 61, ht => cases ht; exact xmX8_init
  | 62, ht => cases ht; exact xmX8_walk
  | 63, ht => cases ht; exact xmX8_longerAhead
  | 64, ht => cases ht; exact xmX8_againAsLong
  | 65, ht => cases ht; exact xmX9_init
  | 66, ht => cases ht; exact xmX9_has
  | 67, ht => cases ht; exact xmX9_append
  | 68, ht => cases ht; exact xmX9_noteCopies
  | 69, ht => cases ht; exact xmX9_longestCopy
  | 70, ht => cases ht; exact xmX9_copyDistance
  | 71, ht => cases ht; exact xmX9_sameBy
  | 72, ht => cases ht; exact xmX9_nearestIndex
  | 73, ht => cases ht; exact xmX10_init
  | 74, ht => cases ht; exact xmX10_octets
  | 75, ht => cases ht; exact xmX10_cost
  | 76, ht => cases ht; exact xmX10_price
  | 77, ht => cases ht; exact xmX10_keep
  | 78, ht => cases ht; exact xmX10_parse
  | 79, ht => cases ht; exact xmX10_step
  | 80, ht => cases ht; exact xmX10_sum
  | 81, ht => cases ht; exact xmX10_again
  | 82, ht => cases ht; exact xmX10_least
  | 83, ht => cases ht; exact xmX10_told
  | 84, ht => cases ht; exact xmX10_rounds
  | 85, ht => cases ht; exact xmX10_longest
  | 86, ht => cases ht; exact xmX10_distance
  | 87, ht => cases ht; exact xmX10_cut
  | 88, ht => cases ht; exact xmX10_split
  | 89, ht => cases ht; exact xmX10_taken
  | 90, ht => cases ht; exact xmX10_many
  | 91, ht => cases ht; exact xmX10_clear
  | 92, ht => cases ht; exact xmX10_findBest
  | 93, ht => cases ht; exact xmX10_takeSpare
  | 94, ht => cases ht; exact xmX10_logOf
  | 95, ht => cases ht; exact xmX10_highestBit
  | 96, ht => cases ht; exact xmX11_init
  | 97, ht => cases ht; exact xmX11_thrown
  | 98, ht => cases ht; exact xmX11_start
  | 99, ht => cases ht; exact xmX11_shortest
  | 100, ht => cases ht; exact xmX11_greatest
  | 101, ht => cases ht; exact xmX11_symbols
  | 102, ht => cases ht; exact xmX11_isCost
  | 103, ht => cases ht; exact xmX11_octets
  | 104, ht => cases ht; exact xmX11_cost
  | 105, ht => cases ht; exact xmX11_price
  | 106, ht => cases ht; exact xmX11_keep
  | 107, ht => cases ht; exact xmX11_layOut
  | 108, ht => cases ht; exact xmX11_longestCopy
  | 109, ht => cases ht; exact xmX11_longestAgain
  | 110, ht => cases ht; exact xmX11_high
  | 111, ht => cases ht; exact xmX11_lengthSlot
  | 112, ht => cases ht; exact xmX11_lengthBits
  | 113, ht => cases ht; exact xmX11_distanceSlot
  | 114, ht => cases ht; exact xmX11_distanceBits
  | 115, ht => cases ht; exact xmX11_lengthCost
  | 116, ht => cases ht; exact xmX11_distanceCost
  | 117, ht => cases ht; exact xmX11_kindCost
  | 118, ht => cases ht; exact xmX11_more
  | 119, ht => cases ht; exact xmX11_stepCost
  | 120, ht => cases ht; exact xmX11_allCost
  | 121, ht => cases ht; exact xmX11_clearLatest
  | 122, ht => cases ht; exact xmX11_ahead
  | 123, ht => cases ht; exact xmX11_longestOf
  | 124, ht => cases ht; exact xmX11_addStep
  | 125, ht => cases ht; exact xmX11_greedy
  | 126, ht => cases ht; exact xmX11_at
  | 127, ht => cases ht; exact xmX11_firstRow
  | 128, ht => cases ht; exact xmX11_clearTable
  | 129, ht => cases ht; exact xmX11_copies
  | 130, ht => cases ht; exact xmX11_literals
  | 131, ht => cases ht; exact xmX11_backPlain
  | 132, ht => cases ht; exact xmX11_turnBack
  | 133, ht => cases ht; exact xmX11_bestPlain
  | 134, ht => cases ht; exact xmX11_isState
  | 135, ht => cases ht; exact xmX11_isBehind
  | 136, ht => cases ht; exact xmX11_moveState
  | 137, ht => cases ht; exact xmX11_comes
  | 138, ht => cases ht; exact xmX11_takeLatest
  | 139, ht => cases ht; exact xmX11_expand
  | 140, ht => cases ht; exact xmX11_bestWide
  | 141, ht => cases ht; exact xmX11_best
  | 142, ht => cases ht; exact xmX11_parse
  | 143, ht => cases ht; exact xmX11_log
  | 144, ht => cases ht; exact xmX11_fit
  | 145, ht => cases ht; exact xmX11_rounds
  | 146, ht => cases ht; exact xmX11_step
  | 147, ht => cases ht; exact xmX11_sum
  | 148, ht => cases ht; exact xmX11_again
  | 149, ht => cases ht; exact xmX11_least
  | 150, ht => cases ht; exact xmX11_told
  | 151, ht => cases ht; exact xmX11_longest
  | 152, ht => cases ht; exact xmX11_distance
  | 153, ht => cases ht; exact xmX11_cut
  | 154, ht => cases ht; exact xmX11_border
  | 155, ht => cases ht; exact xmX11_fillBlocks
  | 156, ht => cases ht; exact xmX11_setCost
  | 157, ht => cases ht; exact xmX11_count
  | 158, ht => cases ht; exact xmX11_isBefore
  | 159, ht => cases ht; exact xmX11_split
  | 160, ht => cases ht; exact xmX11_taken
  | 161, ht => cases ht; exact xmX11_many
  | 162, ht => cases ht; exact xmX11_clear
  | 163, ht => cases ht; exact xmX11_trier
  | 164, ht => cases ht; exact xmJ7_rangeCheck_23922
  | 165, ht => cases ht; exact xmJ7_fill_d0a16
  | 166, ht => cases ht; exact xmJ7_fill_53178
  | 167, ht => cases ht; exact xmJ7_fill_fda19
  | 168, ht => cases ht; exact xmL_cell
  | 169, ht => cases ht; exact xmL_law
  | i + 170, ht => simp [xmt] at ht
