theorem tin1 {w : Cond} (h : w ∈ tables_1_1) : w ∈ lw_tbl := List.mem_append_right _ (List.mem_append_left _ h)
theorem tin2 {w : Cond} (h : w ∈ tables_1_2) : w ∈ lw_tbl := List.mem_append_right _ (List.mem_append_right _ (List.mem_append_left _ h))
theorem tin3 {w : Cond} (h : w ∈ tables_1_3) : w ∈ lw_tbl := List.mem_append_right _ (List.mem_append_right _ (List.mem_append_right _ (List.mem_append_left _ h)))
theorem tin4 {w : Cond} (h : w ∈ tables_1_4) : w ∈ lw_tbl := List.mem_append_right _ (List.mem_append_right _ (List.mem_append_right _ (List.mem_append_right _ (List.mem_append_left _ h))))
theorem tin5 {w : Cond} (h : w ∈ tables_1_5) : w ∈ lw_tbl := List.mem_append_right _ (List.mem_append_right _ (List.mem_append_right _ (List.mem_append_right _ (List.mem_append_right _ (h)))))
theorem w0_0 : Cond.selects "GoodsDownhill" ⟨"GoodsDownhill", "refuse", "(I)I"⟩ ⟨"GoodsDownhill", "refuse", "(I)I"⟩ ∈ gtb := gtb_in (List.mem_append_left _ (List.mem_map.mpr ⟨_, List.mem_of_getElem? (i := 0) (by rfl), rfl⟩)) rfl
theorem w0_1 : Cond.selects "GoodsDownhill$Letters" ⟨"GoodsDownhill$Letters", "endOfDigits", "(II)I"⟩ ⟨"GoodsDownhill$Letters", "endOfDigits", "(II)I"⟩ ∈ gtb := gtb_in (List.mem_append_left _ (List.mem_map.mpr ⟨_, List.mem_of_getElem? (i := 1) (by rfl), rfl⟩)) rfl
theorem w0_10 : Cond.selects "GoodsDownhill$Land" ⟨"GoodsDownhill$Land", "moveOnePiece", "(III)V"⟩ ⟨"GoodsDownhill$Land", "moveOnePiece", "(III)V"⟩ ∈ gtb := gtb_in (List.mem_append_left _ (List.mem_map.mpr ⟨_, List.mem_of_getElem? (i := 10) (by rfl), rfl⟩)) rfl
theorem w0_11 : Cond.selects "GoodsDownhill$Land" ⟨"GoodsDownhill$Land", "addPieces", "(III)V"⟩ ⟨"GoodsDownhill$Land", "addPieces", "(III)V"⟩ ∈ gtb := gtb_in (List.mem_append_left _ (List.mem_map.mpr ⟨_, List.mem_of_getElem? (i := 11) (by rfl), rfl⟩)) rfl
theorem w0_12 : Cond.selects "GoodsDownhill$Land" ⟨"GoodsDownhill$Land", "makeGoods", "(I)V"⟩ ⟨"GoodsDownhill$Land", "makeGoods", "(I)V"⟩ ∈ gtb := gtb_in (List.mem_append_left _ (List.mem_map.mpr ⟨_, List.mem_of_getElem? (i := 12) (by rfl), rfl⟩)) rfl
theorem w0_13 : Cond.selects "GoodsDownhill$Land" ⟨"GoodsDownhill$Land", "buyWanted", "(I)I"⟩ ⟨"GoodsDownhill$Land", "buyWanted", "(I)I"⟩ ∈ gtb := gtb_in (List.mem_append_left _ (List.mem_map.mpr ⟨_, List.mem_of_getElem? (i := 13) (by rfl), rfl⟩)) rfl
theorem w0_14 : Cond.selects "GoodsDownhill$Land" ⟨"GoodsDownhill$Land", "fullestSellerTo", "(II)I"⟩ ⟨"GoodsDownhill$Land", "fullestSellerTo", "(II)I"⟩ ∈ gtb := gtb_in (List.mem_append_left _ (List.mem_map.mpr ⟨_, List.mem_of_getElem? (i := 14) (by rfl), rfl⟩)) rfl
theorem w0_15 : Cond.selects "GoodsDownhill$Land" ⟨"GoodsDownhill$Land", "useWanted", "(I)I"⟩ ⟨"GoodsDownhill$Land", "useWanted", "(I)I"⟩ ∈ gtb := gtb_in (List.mem_append_left _ (List.mem_map.mpr ⟨_, List.mem_of_getElem? (i := 15) (by rfl), rfl⟩)) rfl
theorem w0_16 : Cond.selects "GoodsDownhill$Debts" ⟨"GoodsDownhill$Debts", "strikeTwo", "(II)I"⟩ ⟨"GoodsDownhill$Debts", "strikeTwo", "(II)I"⟩ ∈ gtb := gtb_in (List.mem_append_left _ (List.mem_map.mpr ⟨_, List.mem_of_getElem? (i := 16) (by rfl), rfl⟩)) rfl
theorem w0_17 : Cond.selects "GoodsDownhill$Debts" ⟨"GoodsDownhill$Debts", "strikeThree", "(III)I"⟩ ⟨"GoodsDownhill$Debts", "strikeThree", "(III)I"⟩ ∈ gtb := gtb_in (List.mem_append_left _ (List.mem_map.mpr ⟨_, List.mem_of_getElem? (i := 17) (by rfl), rfl⟩)) rfl
theorem w0_18 : Cond.selects "GoodsDownhill" ⟨"GoodsDownhill", "passInMind", "(IILGoodsDownhill$Tally;)V"⟩ ⟨"GoodsDownhill", "passInMind", "(IILGoodsDownhill$Tally;)V"⟩ ∈ gtb := gtb_in (List.mem_append_left _ (List.mem_map.mpr ⟨_, List.mem_of_getElem? (i := 18) (by rfl), rfl⟩)) rfl
theorem w0_19 : Cond.selects "GoodsDownhillModel" ⟨"GoodsDownhillModel", "carryAll", "([IZ)V"⟩ ⟨"GoodsDownhillModel", "carryAll", "([IZ)V"⟩ ∈ gtb := gtb_in (List.mem_append_left _ (List.mem_map.mpr ⟨_, List.mem_of_getElem? (i := 19) (by rfl), rfl⟩)) rfl
theorem w0_2 : Cond.selects "GoodsDownhill$Letters" ⟨"GoodsDownhill$Letters", "endOfStatement", "(I)I"⟩ ⟨"GoodsDownhill$Letters", "endOfStatement", "(I)I"⟩ ∈ gtb := gtb_in (List.mem_append_left _ (List.mem_map.mpr ⟨_, List.mem_of_getElem? (i := 2) (by rfl), rfl⟩)) rfl
theorem w0_20 : Cond.selects "GoodsDownhillModel" ⟨"GoodsDownhillModel", "carry", "(I)I"⟩ ⟨"GoodsDownhillModel", "carry", "(I)I"⟩ ∈ gtb := gtb_in (List.mem_append_left _ (List.mem_map.mpr ⟨_, List.mem_of_getElem? (i := 20) (by rfl), rfl⟩)) rfl
theorem w0_21 : Cond.selects "GoodsDownhillModel" ⟨"GoodsDownhillModel", "refuse", "(I)I"⟩ ⟨"GoodsDownhillModel", "refuse", "(I)I"⟩ ∈ gtb := gtb_in (List.mem_append_left _ (List.mem_map.mpr ⟨_, List.mem_of_getElem? (i := 21) (by rfl), rfl⟩)) rfl
theorem w0_22 : Cond.selects "GoodsDownhillModel" ⟨"GoodsDownhillModel", "readStatement", "()V"⟩ ⟨"GoodsDownhillModel", "readStatement", "()V"⟩ ∈ gtb := gtb_in (List.mem_append_left _ (List.mem_map.mpr ⟨_, List.mem_of_getElem? (i := 22) (by rfl), rfl⟩)) rfl
theorem w0_23 : Cond.selects "GoodsDownhillModel" ⟨"GoodsDownhillModel", "here", "()I"⟩ ⟨"GoodsDownhillModel", "here", "()I"⟩ ∈ gtb := gtb_in (List.mem_append_left _ (List.mem_map.mpr ⟨_, List.mem_of_getElem? (i := 23) (by rfl), rfl⟩)) rfl
theorem w0_24 : Cond.selects "GoodsDownhillModel" ⟨"GoodsDownhillModel", "readDigit", "()I"⟩ ⟨"GoodsDownhillModel", "readDigit", "()I"⟩ ∈ gtb := gtb_in (List.mem_append_left _ (List.mem_map.mpr ⟨_, List.mem_of_getElem? (i := 24) (by rfl), rfl⟩)) rfl
theorem w0_25 : Cond.selects "GoodsDownhillModel" ⟨"GoodsDownhillModel", "readNumber", "(I)I"⟩ ⟨"GoodsDownhillModel", "readNumber", "(I)I"⟩ ∈ gtb := gtb_in (List.mem_append_left _ (List.mem_map.mpr ⟨_, List.mem_of_getElem? (i := 25) (by rfl), rfl⟩)) rfl
theorem w0_26 : Cond.selects "GoodsDownhillModel" ⟨"GoodsDownhillModel", "open", "()V"⟩ ⟨"GoodsDownhillModel", "open", "()V"⟩ ∈ gtb := gtb_in (List.mem_append_left _ (List.mem_map.mpr ⟨_, List.mem_of_getElem? (i := 26) (by rfl), rfl⟩)) rfl
theorem w0_27 : Cond.selects "GoodsDownhillModel" ⟨"GoodsDownhillModel", "comes", "(I)Z"⟩ ⟨"GoodsDownhillModel", "comes", "(I)Z"⟩ ∈ gtb := gtb_in (List.mem_append_left _ (List.mem_map.mpr ⟨_, List.mem_of_getElem? (i := 27) (by rfl), rfl⟩)) rfl
theorem w0_28 : Cond.selects "GoodsDownhillModel" ⟨"GoodsDownhillModel", "houseComes", "(I)Z"⟩ ⟨"GoodsDownhillModel", "houseComes", "(I)Z"⟩ ∈ gtb := gtb_in (List.mem_append_left _ (List.mem_map.mpr ⟨_, List.mem_of_getElem? (i := 28) (by rfl), rfl⟩)) rfl
theorem w0_29 : Cond.selects "GoodsDownhillModel" ⟨"GoodsDownhillModel", "areTwo", "(II)Z"⟩ ⟨"GoodsDownhillModel", "areTwo", "(II)Z"⟩ ∈ gtb := gtb_in (List.mem_append_left _ (List.mem_map.mpr ⟨_, List.mem_of_getElem? (i := 29) (by rfl), rfl⟩)) rfl
theorem w0_3 : Cond.selects "GoodsDownhill$Letters" ⟨"GoodsDownhill$Letters", "tellHouse", "(LGoodsDownhill$Land;II)Z"⟩ ⟨"GoodsDownhill$Letters", "tellHouse", "(LGoodsDownhill$Land;II)Z"⟩ ∈ gtb := gtb_in (List.mem_append_left _ (List.mem_map.mpr ⟨_, List.mem_of_getElem? (i := 3) (by rfl), rfl⟩)) rfl
theorem w0_30 : Cond.selects "GoodsDownhillModel" ⟨"GoodsDownhillModel", "isHouse", "(I)Z"⟩ ⟨"GoodsDownhillModel", "isHouse", "(I)Z"⟩ ∈ gtb := gtb_in (List.mem_append_left _ (List.mem_map.mpr ⟨_, List.mem_of_getElem? (i := 30) (by rfl), rfl⟩)) rfl
theorem w0_31 : Cond.selects "GoodsDownhillModel" ⟨"GoodsDownhillModel", "close", "()V"⟩ ⟨"GoodsDownhillModel", "close", "()V"⟩ ∈ gtb := gtb_in (List.mem_append_left _ (List.mem_map.mpr ⟨_, List.mem_of_getElem? (i := 31) (by rfl), rfl⟩)) rfl
theorem w0_32 : Cond.selects "GoodsDownhillModel" ⟨"GoodsDownhillModel", "sellsAt", "(I)I"⟩ ⟨"GoodsDownhillModel", "sellsAt", "(I)I"⟩ ∈ gtb := gtb_in (List.mem_append_left _ (List.mem_map.mpr ⟨_, List.mem_of_getElem? (i := 32) (by rfl), rfl⟩)) rfl
theorem w0_33 : Cond.selects "GoodsDownhillModel" ⟨"GoodsDownhillModel", "buysAt", "(I)I"⟩ ⟨"GoodsDownhillModel", "buysAt", "(I)I"⟩ ∈ gtb := gtb_in (List.mem_append_left _ (List.mem_map.mpr ⟨_, List.mem_of_getElem? (i := 33) (by rfl), rfl⟩)) rfl
theorem w0_34 : Cond.selects "GoodsDownhillModel" ⟨"GoodsDownhillModel", "isLawful", "(II)Z"⟩ ⟨"GoodsDownhillModel", "isLawful", "(II)Z"⟩ ∈ gtb := gtb_in (List.mem_append_left _ (List.mem_map.mpr ⟨_, List.mem_of_getElem? (i := 34) (by rfl), rfl⟩)) rfl
theorem w0_35 : Cond.selects "GoodsDownhillModel" ⟨"GoodsDownhillModel", "canSell", "(III)Z"⟩ ⟨"GoodsDownhillModel", "canSell", "(III)Z"⟩ ∈ gtb := gtb_in (List.mem_append_left _ (List.mem_map.mpr ⟨_, List.mem_of_getElem? (i := 35) (by rfl), rfl⟩)) rfl
theorem w0_36 : Cond.selects "GoodsDownhillModel" ⟨"GoodsDownhillModel", "sell", "(III)V"⟩ ⟨"GoodsDownhillModel", "sell", "(III)V"⟩ ∈ gtb := gtb_in (List.mem_append_left _ (List.mem_map.mpr ⟨_, List.mem_of_getElem? (i := 36) (by rfl), rfl⟩)) rfl
theorem w0_37 : Cond.selects "GoodsDownhillModel" ⟨"GoodsDownhillModel", "weekOn", "()I"⟩ ⟨"GoodsDownhillModel", "weekOn", "()I"⟩ ∈ gtb := gtb_in (List.mem_append_left _ (List.mem_map.mpr ⟨_, List.mem_of_getElem? (i := 37) (by rfl), rfl⟩)) rfl
theorem w0_38 : Cond.selects "GoodsDownhillModel" ⟨"GoodsDownhillModel", "buyFor", "(I)V"⟩ ⟨"GoodsDownhillModel", "buyFor", "(I)V"⟩ ∈ gtb := gtb_in (List.mem_append_left _ (List.mem_map.mpr ⟨_, List.mem_of_getElem? (i := 38) (by rfl), rfl⟩)) rfl
theorem w0_39 : Cond.selects "GoodsDownhillModel" ⟨"GoodsDownhillModel", "wants", "(II)Z"⟩ ⟨"GoodsDownhillModel", "wants", "(II)Z"⟩ ∈ gtb := gtb_in (List.mem_append_left _ (List.mem_map.mpr ⟨_, List.mem_of_getElem? (i := 39) (by rfl), rfl⟩)) rfl
theorem w0_4 : Cond.selects "GoodsDownhill$Letters" ⟨"GoodsDownhill$Letters", "digit", "(I)I"⟩ ⟨"GoodsDownhill$Letters", "digit", "(I)I"⟩ ∈ gtb := gtb_in (List.mem_append_left _ (List.mem_map.mpr ⟨_, List.mem_of_getElem? (i := 4) (by rfl), rfl⟩)) rfl
theorem w0_40 : Cond.selects "GoodsDownhillModel" ⟨"GoodsDownhillModel", "debt", "(II)I"⟩ ⟨"GoodsDownhillModel", "debt", "(II)I"⟩ ∈ gtb := gtb_in (List.mem_append_left _ (List.mem_map.mpr ⟨_, List.mem_of_getElem? (i := 40) (by rfl), rfl⟩)) rfl
theorem w0_41 : Cond.selects "GoodsDownhillModel" ⟨"GoodsDownhillModel", "strikeAll", "()I"⟩ ⟨"GoodsDownhillModel", "strikeAll", "()I"⟩ ∈ gtb := gtb_in (List.mem_append_left _ (List.mem_map.mpr ⟨_, List.mem_of_getElem? (i := 41) (by rfl), rfl⟩)) rfl
theorem w0_42 : Cond.selects "GoodsDownhillModel" ⟨"GoodsDownhillModel", "strikeOne", "()Z"⟩ ⟨"GoodsDownhillModel", "strikeOne", "()Z"⟩ ∈ gtb := gtb_in (List.mem_append_left _ (List.mem_map.mpr ⟨_, List.mem_of_getElem? (i := 42) (by rfl), rfl⟩)) rfl
theorem w0_43 : Cond.selects "GoodsDownhillModel" ⟨"GoodsDownhillModel", "lessen", "(III)I"⟩ ⟨"GoodsDownhillModel", "lessen", "(III)I"⟩ ∈ gtb := gtb_in (List.mem_append_left _ (List.mem_map.mpr ⟨_, List.mem_of_getElem? (i := 43) (by rfl), rfl⟩)) rfl
theorem w0_44 : Cond.selects "GoodsDownhillModel" ⟨"GoodsDownhillModel", "servedIn", "(I)I"⟩ ⟨"GoodsDownhillModel", "servedIn", "(I)I"⟩ ∈ gtb := gtb_in (List.mem_append_left _ (List.mem_map.mpr ⟨_, List.mem_of_getElem? (i := 44) (by rfl), rfl⟩)) rfl
theorem w0_45 : Cond.selects "GoodsDownhillModel" ⟨"GoodsDownhillModel", "wantsOfAll", "()I"⟩ ⟨"GoodsDownhillModel", "wantsOfAll", "()I"⟩ ∈ gtb := gtb_in (List.mem_append_left _ (List.mem_map.mpr ⟨_, List.mem_of_getElem? (i := 45) (by rfl), rfl⟩)) rfl
theorem w0_46 : Cond.selects "GoodsDownhillModel" ⟨"GoodsDownhillModel", "mostOf", "(I)I"⟩ ⟨"GoodsDownhillModel", "mostOf", "(I)I"⟩ ∈ gtb := gtb_in (List.mem_append_left _ (List.mem_map.mpr ⟨_, List.mem_of_getElem? (i := 46) (by rfl), rfl⟩)) rfl
theorem w0_47 : Cond.selects "GoodsDownhillModel" ⟨"GoodsDownhillModel", "isPath", "(IIII)Z"⟩ ⟨"GoodsDownhillModel", "isPath", "(IIII)Z"⟩ ∈ gtb := gtb_in (List.mem_append_left _ (List.mem_map.mpr ⟨_, List.mem_of_getElem? (i := 47) (by rfl), rfl⟩)) rfl
theorem w0_48 : Cond.selects "GoodsDownhillModel" ⟨"GoodsDownhillModel", "isSold", "(III)Z"⟩ ⟨"GoodsDownhillModel", "isSold", "(III)Z"⟩ ∈ gtb := gtb_in (List.mem_append_left _ (List.mem_map.mpr ⟨_, List.mem_of_getElem? (i := 48) (by rfl), rfl⟩)) rfl
theorem w0_49 : Cond.selects "GoodsDownhillModel" ⟨"GoodsDownhillModel", "draw", "(I)I"⟩ ⟨"GoodsDownhillModel", "draw", "(I)I"⟩ ∈ gtb := gtb_in (List.mem_append_left _ (List.mem_map.mpr ⟨_, List.mem_of_getElem? (i := 49) (by rfl), rfl⟩)) rfl
theorem w0_5 : Cond.selects "GoodsDownhill$Letters" ⟨"GoodsDownhill$Letters", "number", "(II)I"⟩ ⟨"GoodsDownhill$Letters", "number", "(II)I"⟩ ∈ gtb := gtb_in (List.mem_append_left _ (List.mem_map.mpr ⟨_, List.mem_of_getElem? (i := 5) (by rfl), rfl⟩)) rfl
theorem w0_50 : Cond.selects "GoodsDownhillModel" ⟨"GoodsDownhillModel", "sumOf", "([II)I"⟩ ⟨"GoodsDownhillModel", "sumOf", "([II)I"⟩ ∈ gtb := gtb_in (List.mem_append_left _ (List.mem_map.mpr ⟨_, List.mem_of_getElem? (i := 50) (by rfl), rfl⟩)) rfl
theorem w0_6 : Cond.selects "GoodsDownhill$Letters" ⟨"GoodsDownhill$Letters", "tellPrice", "(LGoodsDownhill$Land;I)Z"⟩ ⟨"GoodsDownhill$Letters", "tellPrice", "(LGoodsDownhill$Land;I)Z"⟩ ∈ gtb := gtb_in (List.mem_append_left _ (List.mem_map.mpr ⟨_, List.mem_of_getElem? (i := 6) (by rfl), rfl⟩)) rfl
theorem w0_7 : Cond.selects "GoodsDownhill$Letters" ⟨"GoodsDownhill$Letters", "tellLaw", "(LGoodsDownhill$Land;I)Z"⟩ ⟨"GoodsDownhill$Letters", "tellLaw", "(LGoodsDownhill$Land;I)Z"⟩ ∈ gtb := gtb_in (List.mem_append_left _ (List.mem_map.mpr ⟨_, List.mem_of_getElem? (i := 7) (by rfl), rfl⟩)) rfl
theorem w0_8 : Cond.selects "GoodsDownhill$Letters" ⟨"GoodsDownhill$Letters", "tellDebt", "(LGoodsDownhill$Land;II)Z"⟩ ⟨"GoodsDownhill$Letters", "tellDebt", "(LGoodsDownhill$Land;II)Z"⟩ ∈ gtb := gtb_in (List.mem_append_left _ (List.mem_map.mpr ⟨_, List.mem_of_getElem? (i := 8) (by rfl), rfl⟩)) rfl
theorem w0_9 : Cond.selects "GoodsDownhill$Land" ⟨"GoodsDownhill$Land", "hasMeans", "(III)Z"⟩ ⟨"GoodsDownhill$Land", "hasMeans", "(III)Z"⟩ ∈ gtb := gtb_in (List.mem_append_left _ (List.mem_map.mpr ⟨_, List.mem_of_getElem? (i := 9) (by rfl), rfl⟩)) rfl
theorem w1_1 : Cond.initialized "GoodsDownhill" ∈ gtb := gtb_in (tin1 (List.mem_of_getElem? (i := 1) (by decide +kernel))) rfl
theorem w1_10 : Cond.initialized "GoodsDownhill$Joined" ∈ gtb := gtb_in (tin1 (List.mem_of_getElem? (i := 10) (by decide +kernel))) rfl
theorem w1_100 : Cond.fieldLink "GoodsDownhill$Trade" 15 "GoodsDownhill$Land" "houses" "[LGoodsDownhill$House;" ∈ gtb := gtb_in (tin1 (List.mem_of_getElem? (i := 100) (by decide +kernel))) rfl
theorem w1_101 : Cond.fieldLink "GoodsDownhill" 74 "GoodsDownhill$Land" "houses" "[LGoodsDownhill$House;" ∈ gtb := gtb_in (tin1 (List.mem_of_getElem? (i := 101) (by decide +kernel))) rfl
theorem w1_102 : Cond.fieldLink "GoodsDownhill$Trade" 9 "GoodsDownhill$Land" "size" "I" ∈ gtb := gtb_in (tin1 (List.mem_of_getElem? (i := 102) (by decide +kernel))) rfl
theorem w1_103 : Cond.fieldLink "GoodsDownhill$Land" 37 "GoodsDownhill$Land" "size" "I" ∈ gtb := gtb_in (tin1 (List.mem_of_getElem? (i := 103) (by decide +kernel))) rfl
theorem w1_104 : Cond.fieldLink "GoodsDownhill" 134 "GoodsDownhill$Land" "size" "I" ∈ gtb := gtb_in (tin1 (List.mem_of_getElem? (i := 104) (by decide +kernel))) rfl
theorem w1_105 : Cond.fieldLink "GoodsDownhill$Land" 17 "GoodsDownhill$Land" "coin" "[I" ∈ gtb := gtb_in (tin1 (List.mem_of_getElem? (i := 105) (by decide +kernel))) rfl
theorem w1_106 : Cond.fieldLink "GoodsDownhill" 108 "GoodsDownhill$Land" "coin" "[I" ∈ gtb := gtb_in (tin1 (List.mem_of_getElem? (i := 106) (by decide +kernel))) rfl
theorem w1_107 : Cond.fieldLink "GoodsDownhill$Land" 21 "GoodsDownhill$Land" "stores" "[I" ∈ gtb := gtb_in (tin1 (List.mem_of_getElem? (i := 107) (by decide +kernel))) rfl
theorem w1_108 : Cond.fieldLink "GoodsDownhill" 142 "GoodsDownhill$Land" "stores" "[I" ∈ gtb := gtb_in (tin1 (List.mem_of_getElem? (i := 108) (by decide +kernel))) rfl
theorem w1_109 : Cond.fieldLink "GoodsDownhill$Land" 24 "GoodsDownhill$Land" "prices" "[I" ∈ gtb := gtb_in (tin1 (List.mem_of_getElem? (i := 109) (by decide +kernel))) rfl
theorem w1_11 : Cond.initialized "GoodsDownhill$Hermit" ∈ gtb := gtb_in (tin1 (List.mem_of_getElem? (i := 11) (by decide +kernel))) rfl
theorem w1_110 : Cond.fieldLink "GoodsDownhill" 118 "GoodsDownhill$Land" "prices" "[I" ∈ gtb := gtb_in (tin1 (List.mem_of_getElem? (i := 110) (by decide +kernel))) rfl
theorem w1_111 : Cond.fieldLink "GoodsDownhill$Letters" 91 "GoodsDownhill$Land" "prices" "[I" ∈ gtb := gtb_in (tin1 (List.mem_of_getElem? (i := 111) (by decide +kernel))) rfl
theorem w1_112 : Cond.fieldLink "GoodsDownhill$Land" 30 "GoodsDownhill$Land" "debts" "LGoodsDownhill$Debts;" ∈ gtb := gtb_in (tin1 (List.mem_of_getElem? (i := 112) (by decide +kernel))) rfl
theorem w1_113 : Cond.fieldLink "GoodsDownhill" 145 "GoodsDownhill$Land" "debts" "LGoodsDownhill$Debts;" ∈ gtb := gtb_in (tin1 (List.mem_of_getElem? (i := 113) (by decide +kernel))) rfl
theorem w1_114 : Cond.fieldLink "GoodsDownhill$Letters" 104 "GoodsDownhill$Land" "debts" "LGoodsDownhill$Debts;" ∈ gtb := gtb_in (tin1 (List.mem_of_getElem? (i := 114) (by decide +kernel))) rfl
theorem w1_115 : Cond.fieldLink "GoodsDownhill$Land" 51 "GoodsDownhill$Land" "lawNow" "I" ∈ gtb := gtb_in (tin1 (List.mem_of_getElem? (i := 115) (by decide +kernel))) rfl
theorem w1_116 : Cond.fieldLink "GoodsDownhill" 124 "GoodsDownhill$Land" "lawNow" "I" ∈ gtb := gtb_in (tin1 (List.mem_of_getElem? (i := 116) (by decide +kernel))) rfl
theorem w1_117 : Cond.fieldLink "GoodsDownhill$Letters" 97 "GoodsDownhill$Land" "lawNow" "I" ∈ gtb := gtb_in (tin1 (List.mem_of_getElem? (i := 117) (by decide +kernel))) rfl
theorem w1_118 : Cond.fieldLink "GoodsDownhill$Land" 54 "GoodsDownhill$Land" "weekNow" "I" ∈ gtb := gtb_in (tin1 (List.mem_of_getElem? (i := 118) (by decide +kernel))) rfl
theorem w1_119 : Cond.fieldLink "GoodsDownhill" 135 "GoodsDownhill$Land" "weekNow" "I" ∈ gtb := gtb_in (tin1 (List.mem_of_getElem? (i := 119) (by decide +kernel))) rfl
theorem w1_12 : Cond.initialized "GoodsDownhill$Market" ∈ gtb := gtb_in (tin1 (List.mem_of_getElem? (i := 12) (by decide +kernel))) rfl
theorem w1_120 : Cond.fieldLink "GoodsDownhill$Land" 57 "GoodsDownhill$Land" "muleFrom" "I" ∈ gtb := gtb_in (tin1 (List.mem_of_getElem? (i := 120) (by decide +kernel))) rfl
theorem w1_121 : Cond.fieldLink "GoodsDownhill" 157 "GoodsDownhill$Land" "muleFrom" "I" ∈ gtb := gtb_in (tin1 (List.mem_of_getElem? (i := 121) (by decide +kernel))) rfl
theorem w1_13 : Cond.initialized "GoodsDownhill$Feigned" ∈ gtb := gtb_in (tin1 (List.mem_of_getElem? (i := 13) (by decide +kernel))) rfl
theorem w1_14 : Cond.initialized "java/lang/Math" ∈ gtb := gtb_in (tin1 (List.mem_of_getElem? (i := 14) (by decide +kernel))) rfl
theorem w1_141 : Cond.classLink "GoodsDownhill" 22 "GoodsDownhill$Tally" ∈ gtb := gtb_in (tin1 (List.mem_of_getElem? (i := 141) (by decide +kernel))) rfl
theorem w1_142 : Cond.instantiable "GoodsDownhill$Tally" 4 ∈ gtb := gtb_in (tin1 (List.mem_of_getElem? (i := 142) (by decide +kernel))) rfl
theorem w1_144 : Cond.instanceMethod ⟨"GoodsDownhill$Tally", "<init>", "()V"⟩ ∈ gtb := gtb_in (tin1 (List.mem_of_getElem? (i := 144) (by decide +kernel))) rfl
theorem w1_145 : Cond.code ⟨"GoodsDownhill$Tally", "<init>", "()V"⟩ prog_11_method_1_code 1 none ∈ gtb := gtb_in (tin1 (List.mem_of_getElem? (i := 145) (by decide +kernel))) rfl
theorem w1_146 : Cond.methodLink "GoodsDownhill$Tally" 3 ⟨"java/lang/Object", "<init>", "()V"⟩ ∈ gtb := gtb_in (tin1 (List.mem_of_getElem? (i := 146) (by decide +kernel))) rfl
theorem w1_147 : Cond.fieldLink "GoodsDownhill$Tally" 15 "GoodsDownhill$Tally" "servedInAll" "I" ∈ gtb := gtb_in (tin1 (List.mem_of_getElem? (i := 147) (by decide +kernel))) rfl
theorem w1_148 : Cond.fieldLink "GoodsDownhill" 176 "GoodsDownhill$Tally" "servedInAll" "I" ∈ gtb := gtb_in (tin1 (List.mem_of_getElem? (i := 148) (by decide +kernel))) rfl
theorem w1_149 : Cond.fieldLink "GoodsDownhill$Tally" 22 "GoodsDownhill$Tally" "salesOfWeek" "I" ∈ gtb := gtb_in (tin1 (List.mem_of_getElem? (i := 149) (by decide +kernel))) rfl
theorem w1_15 : Cond.initialized "GoodsDownhill$Trade" ∈ gtb := gtb_in (tin1 (List.mem_of_getElem? (i := 15) (by decide +kernel))) rfl
theorem w1_150 : Cond.fieldLink "GoodsDownhill$Land" 105 "GoodsDownhill$Tally" "salesOfWeek" "I" ∈ gtb := gtb_in (tin1 (List.mem_of_getElem? (i := 150) (by decide +kernel))) rfl
theorem w1_151 : Cond.fieldLink "GoodsDownhill" 199 "GoodsDownhill$Tally" "salesOfWeek" "I" ∈ gtb := gtb_in (tin1 (List.mem_of_getElem? (i := 151) (by decide +kernel))) rfl
theorem w1_152 : Cond.fieldLink "GoodsDownhill$Tally" 25 "GoodsDownhill$Tally" "lacksOfWeek" "I" ∈ gtb := gtb_in (tin1 (List.mem_of_getElem? (i := 152) (by decide +kernel))) rfl
theorem w1_153 : Cond.fieldLink "GoodsDownhill" 193 "GoodsDownhill$Tally" "lacksOfWeek" "I" ∈ gtb := gtb_in (tin1 (List.mem_of_getElem? (i := 153) (by decide +kernel))) rfl
theorem w1_154 : Cond.fieldLink "GoodsDownhill$Tally" 9 "GoodsDownhill$Tally" "servedOf" "[I" ∈ gtb := gtb_in (tin1 (List.mem_of_getElem? (i := 154) (by decide +kernel))) rfl
theorem w1_155 : Cond.fieldLink "GoodsDownhill" 202 "GoodsDownhill$Tally" "servedOf" "[I" ∈ gtb := gtb_in (tin1 (List.mem_of_getElem? (i := 155) (by decide +kernel))) rfl
theorem w1_165 : Cond.classLink "GoodsDownhill" 32 "GoodsDownhill$Letters" ∈ gtb := gtb_in (tin1 (List.mem_of_getElem? (i := 165) (by decide +kernel))) rfl
theorem w1_166 : Cond.instantiable "GoodsDownhill$Letters" 2 ∈ gtb := gtb_in (tin1 (List.mem_of_getElem? (i := 166) (by decide +kernel))) rfl
theorem w1_168 : Cond.instanceMethod ⟨"GoodsDownhill$Letters", "<init>", "()V"⟩ ∈ gtb := gtb_in (tin1 (List.mem_of_getElem? (i := 168) (by decide +kernel))) rfl
theorem w1_169 : Cond.code ⟨"GoodsDownhill$Letters", "<init>", "()V"⟩ prog_9_method_1_code 1 none ∈ gtb := gtb_in (tin1 (List.mem_of_getElem? (i := 169) (by decide +kernel))) rfl
theorem w1_170 : Cond.methodLink "GoodsDownhill$Letters" 3 ⟨"java/lang/Object", "<init>", "()V"⟩ ∈ gtb := gtb_in (tin1 (List.mem_of_getElem? (i := 170) (by decide +kernel))) rfl
theorem w1_171 : Cond.fieldLink "GoodsDownhill$Letters" 9 "GoodsDownhill$Letters" "signs" "[I" ∈ gtb := gtb_in (tin1 (List.mem_of_getElem? (i := 171) (by decide +kernel))) rfl
theorem w1_172 : Cond.fieldLink "GoodsDownhill$Letters" 15 "GoodsDownhill$Letters" "size" "I" ∈ gtb := gtb_in (tin1 (List.mem_of_getElem? (i := 172) (by decide +kernel))) rfl
theorem w1_173 : Cond.fieldLink "GoodsDownhill" 58 "GoodsDownhill$Letters" "size" "I" ∈ gtb := gtb_in (tin1 (List.mem_of_getElem? (i := 173) (by decide +kernel))) rfl
theorem w1_179 : Cond.fieldLink "GoodsDownhill" 10 "GoodsDownhill" "now" "LGoodsDownhill$Land;" ∈ gtb := gtb_in (tin1 (List.mem_of_getElem? (i := 179) (by decide +kernel))) rfl
theorem w1_180 : Cond.fieldLink "GoodsDownhill" 16 "GoodsDownhill" "mind" "LGoodsDownhill$Land;" ∈ gtb := gtb_in (tin1 (List.mem_of_getElem? (i := 180) (by decide +kernel))) rfl
theorem w1_181 : Cond.fieldLink "GoodsDownhill" 19 "GoodsDownhill" "kept" "LGoodsDownhill$Land;" ∈ gtb := gtb_in (tin1 (List.mem_of_getElem? (i := 181) (by decide +kernel))) rfl
theorem w1_182 : Cond.fieldLink "GoodsDownhill" 240 "GoodsDownhill" "isKept" "Z" ∈ gtb := gtb_in (tin1 (List.mem_of_getElem? (i := 182) (by decide +kernel))) rfl
theorem w1_183 : Cond.fieldLink "GoodsDownhill" 25 "GoodsDownhill" "tally" "LGoodsDownhill$Tally;" ∈ gtb := gtb_in (tin1 (List.mem_of_getElem? (i := 183) (by decide +kernel))) rfl
theorem w1_184 : Cond.fieldLink "GoodsDownhill" 29 "GoodsDownhill" "otherTally" "LGoodsDownhill$Tally;" ∈ gtb := gtb_in (tin1 (List.mem_of_getElem? (i := 184) (by decide +kernel))) rfl
theorem w1_185 : Cond.fieldLink "GoodsDownhill" 35 "GoodsDownhill" "letters" "LGoodsDownhill$Letters;" ∈ gtb := gtb_in (tin1 (List.mem_of_getElem? (i := 185) (by decide +kernel))) rfl
theorem w1_186 : Cond.fieldLink "GoodsDownhill" 39 "GoodsDownhill" "toldSales" "[I" ∈ gtb := gtb_in (tin1 (List.mem_of_getElem? (i := 186) (by decide +kernel))) rfl
theorem w1_187 : Cond.fieldLink "GoodsDownhill" 154 "GoodsDownhill" "toldCount" "I" ∈ gtb := gtb_in (tin1 (List.mem_of_getElem? (i := 187) (by decide +kernel))) rfl
theorem w1_188 : Cond.fieldLink "GoodsDownhill" 43 "GoodsDownhill" "refusals" "[I" ∈ gtb := gtb_in (tin1 (List.mem_of_getElem? (i := 188) (by decide +kernel))) rfl
theorem w1_2 : Cond.initialized "GoodsDownhill$Land" ∈ gtb := gtb_in (tin1 (List.mem_of_getElem? (i := 2) (by decide +kernel))) rfl
theorem w1_21 : Cond.methodLink "GoodsDownhill" 1 ⟨"java/lang/Object", "<init>", "()V"⟩ ∈ gtb := gtb_in (tin1 (List.mem_of_getElem? (i := 21) (by decide +kernel))) rfl
theorem w1_214 : Cond.methodLink "GoodsDownhill" 46 ⟨"GoodsDownhill", "refuse", "(I)I"⟩ ∈ gtb := gtb_in (tin1 (List.mem_of_getElem? (i := 214) (by decide +kernel))) rfl
theorem w1_216 : Cond.instanceMethod ⟨"GoodsDownhill", "refuse", "(I)I"⟩ ∈ gtb := gtb_in (tin1 (List.mem_of_getElem? (i := 216) (by decide +kernel))) rfl
theorem w1_217 : Cond.code ⟨"GoodsDownhill", "refuse", "(I)I"⟩ prog_1_method_33_code 3 (some .int) ∈ gtb := gtb_in (tin1 (List.mem_of_getElem? (i := 217) (by decide +kernel))) rfl
theorem w1_218 : Cond.methodLink "GoodsDownhill" 50 ⟨"GoodsDownhill$Letters", "isFull", "()Z"⟩ ∈ gtb := gtb_in (tin1 (List.mem_of_getElem? (i := 218) (by decide +kernel))) rfl
theorem w1_219 : Cond.instanceMethod ⟨"GoodsDownhill$Letters", "isFull", "()Z"⟩ ∈ gtb := gtb_in (tin1 (List.mem_of_getElem? (i := 219) (by decide +kernel))) rfl
theorem w1_22 : Cond.instanceMethod ⟨"java/lang/Object", "<init>", "()V"⟩ ∈ gtb := gtb_in (tin1 (List.mem_of_getElem? (i := 22) (by decide +kernel))) rfl
theorem w1_220 : Cond.selects "GoodsDownhill$Letters" ⟨"GoodsDownhill$Letters", "isFull", "()Z"⟩ ⟨"GoodsDownhill$Letters", "isFull", "()Z"⟩ ∈ gtb := gtb_in (tin1 (List.mem_of_getElem? (i := 220) (by decide +kernel))) rfl
theorem w1_221 : Cond.code ⟨"GoodsDownhill$Letters", "isFull", "()Z"⟩ prog_9_method_2_code 1 (some .boolean) ∈ gtb := gtb_in (tin1 (List.mem_of_getElem? (i := 221) (by decide +kernel))) rfl
theorem w1_222 : Cond.methodLink "GoodsDownhill" 54 ⟨"GoodsDownhill$Letters", "add", "(I)V"⟩ ∈ gtb := gtb_in (tin1 (List.mem_of_getElem? (i := 222) (by decide +kernel))) rfl
theorem w1_223 : Cond.instanceMethod ⟨"GoodsDownhill$Letters", "add", "(I)V"⟩ ∈ gtb := gtb_in (tin1 (List.mem_of_getElem? (i := 223) (by decide +kernel))) rfl
theorem w1_224 : Cond.selects "GoodsDownhill$Letters" ⟨"GoodsDownhill$Letters", "add", "(I)V"⟩ ⟨"GoodsDownhill$Letters", "add", "(I)V"⟩ ∈ gtb := gtb_in (tin1 (List.mem_of_getElem? (i := 224) (by decide +kernel))) rfl
theorem w1_225 : Cond.code ⟨"GoodsDownhill$Letters", "add", "(I)V"⟩ prog_9_method_3_code 2 none ∈ gtb := gtb_in (tin1 (List.mem_of_getElem? (i := 225) (by decide +kernel))) rfl
theorem w1_226 : Cond.methodLink "GoodsDownhill$Letters" 19 ⟨"GoodsDownhill$Letters", "isFull", "()Z"⟩ ∈ gtb := gtb_in (tin1 (List.mem_of_getElem? (i := 226) (by decide +kernel))) rfl
theorem w1_23 : Cond.code ⟨"java/lang/Object", "<init>", "()V"⟩ object_method_1_code 1 none ∈ gtb := gtb_in (tin1 (List.mem_of_getElem? (i := 23) (by decide +kernel))) rfl
theorem w1_231 : Cond.methodLink "GoodsDownhill" 62 ⟨"GoodsDownhill$Land", "copyFrom", "(LGoodsDownhill$Land;)V"⟩ ∈ gtb := gtb_in (tin1 (List.mem_of_getElem? (i := 231) (by decide +kernel))) rfl
theorem w1_232 : Cond.instanceMethod ⟨"GoodsDownhill$Land", "copyFrom", "(LGoodsDownhill$Land;)V"⟩ ∈ gtb := gtb_in (tin1 (List.mem_of_getElem? (i := 232) (by decide +kernel))) rfl
theorem w1_233 : Cond.selects "GoodsDownhill$Land" ⟨"GoodsDownhill$Land", "copyFrom", "(LGoodsDownhill$Land;)V"⟩ ⟨"GoodsDownhill$Land", "copyFrom", "(LGoodsDownhill$Land;)V"⟩ ∈ gtb := gtb_in (tin1 (List.mem_of_getElem? (i := 233) (by decide +kernel))) rfl
theorem w1_234 : Cond.code ⟨"GoodsDownhill$Land", "copyFrom", "(LGoodsDownhill$Land;)V"⟩ prog_8_method_2_code 3 none ∈ gtb := gtb_in (tin1 (List.mem_of_getElem? (i := 234) (by decide +kernel))) rfl
theorem w1_235 : Cond.methodLink "GoodsDownhill$Land" 41 ⟨"java/lang/System", "arraycopy", "(Ljava/lang/Object;ILjava/lang/Object;II)V"⟩ ∈ gtb := gtb_in (tin1 (List.mem_of_getElem? (i := 235) (by decide +kernel))) rfl
theorem w1_236 : Cond.static ⟨"java/lang/System", "arraycopy", "(Ljava/lang/Object;ILjava/lang/Object;II)V"⟩ ∈ gtb := gtb_in (tin1 (List.mem_of_getElem? (i := 236) (by decide +kernel))) rfl
theorem w1_237 : Cond.native ⟨"java/lang/System", "arraycopy", "(Ljava/lang/Object;ILjava/lang/Object;II)V"⟩ ∈ gtb := gtb_in (tin1 (List.mem_of_getElem? (i := 237) (by decide +kernel))) rfl
theorem w1_238 : Cond.methodLink "GoodsDownhill$Land" 47 ⟨"GoodsDownhill$Debts", "copyFrom", "(LGoodsDownhill$Debts;)V"⟩ ∈ gtb := gtb_in (tin1 (List.mem_of_getElem? (i := 238) (by decide +kernel))) rfl
theorem w1_239 : Cond.instanceMethod ⟨"GoodsDownhill$Debts", "copyFrom", "(LGoodsDownhill$Debts;)V"⟩ ∈ gtb := gtb_in (tin1 (List.mem_of_getElem? (i := 239) (by decide +kernel))) rfl
theorem w1_24 : Cond.classLink "GoodsDownhill" 7 "GoodsDownhill$Land" ∈ gtb := gtb_in (tin1 (List.mem_of_getElem? (i := 24) (by decide +kernel))) rfl
theorem w1_25 : Cond.instantiable "GoodsDownhill$Land" 9 ∈ gtb := gtb_in (tin1 (List.mem_of_getElem? (i := 25) (by decide +kernel))) rfl
theorem w1_26 : Cond.methodLink "GoodsDownhill" 9 ⟨"GoodsDownhill$Land", "<init>", "()V"⟩ ∈ gtb := gtb_in (tin1 (List.mem_of_getElem? (i := 26) (by decide +kernel))) rfl
theorem w1_27 : Cond.instanceMethod ⟨"GoodsDownhill$Land", "<init>", "()V"⟩ ∈ gtb := gtb_in (tin1 (List.mem_of_getElem? (i := 27) (by decide +kernel))) rfl
theorem w1_28 : Cond.code ⟨"GoodsDownhill$Land", "<init>", "()V"⟩ prog_8_method_1_code 3 none ∈ gtb := gtb_in (tin1 (List.mem_of_getElem? (i := 28) (by decide +kernel))) rfl
theorem w1_29 : Cond.methodLink "GoodsDownhill$Land" 3 ⟨"java/lang/Object", "<init>", "()V"⟩ ∈ gtb := gtb_in (tin1 (List.mem_of_getElem? (i := 29) (by decide +kernel))) rfl
theorem w1_3 : Cond.initialized "GoodsDownhill$Debts" ∈ gtb := gtb_in (tin1 (List.mem_of_getElem? (i := 3) (by decide +kernel))) rfl
theorem w1_30 : Cond.classLink "GoodsDownhill$Land" 9 "GoodsDownhill$House" ∈ gtb := gtb_in (tin1 (List.mem_of_getElem? (i := 30) (by decide +kernel))) rfl
theorem w1_32 : Cond.classLink "GoodsDownhill$Land" 27 "GoodsDownhill$Debts" ∈ gtb := gtb_in (tin1 (List.mem_of_getElem? (i := 32) (by decide +kernel))) rfl
theorem w1_33 : Cond.instantiable "GoodsDownhill$Debts" 1 ∈ gtb := gtb_in (tin1 (List.mem_of_getElem? (i := 33) (by decide +kernel))) rfl
theorem w1_35 : Cond.instanceMethod ⟨"GoodsDownhill$Debts", "<init>", "()V"⟩ ∈ gtb := gtb_in (tin1 (List.mem_of_getElem? (i := 35) (by decide +kernel))) rfl
theorem w1_36 : Cond.code ⟨"GoodsDownhill$Debts", "<init>", "()V"⟩ prog_3_method_1_code 1 none ∈ gtb := gtb_in (tin1 (List.mem_of_getElem? (i := 36) (by decide +kernel))) rfl
theorem w1_37 : Cond.methodLink "GoodsDownhill$Debts" 3 ⟨"java/lang/Object", "<init>", "()V"⟩ ∈ gtb := gtb_in (tin1 (List.mem_of_getElem? (i := 37) (by decide +kernel))) rfl
theorem w1_38 : Cond.fieldLink "GoodsDownhill$Debts" 9 "GoodsDownhill$Debts" "sums" "[I" ∈ gtb := gtb_in (tin1 (List.mem_of_getElem? (i := 38) (by decide +kernel))) rfl
theorem w1_4 : Cond.initialized "GoodsDownhill$House" ∈ gtb := gtb_in (tin1 (List.mem_of_getElem? (i := 4) (by decide +kernel))) rfl
theorem w1_42 : Cond.arrayClass .int ∈ gtb := gtb_in (tin1 (List.mem_of_getElem? (i := 42) (by decide +kernel))) rfl
theorem w1_43 : Cond.instantiable "GoodsDownhill$House" 6 ∈ gtb := gtb_in (tin1 (List.mem_of_getElem? (i := 43) (by decide +kernel))) rfl
theorem w1_44 : Cond.methodLink "GoodsDownhill$Land" 34 ⟨"GoodsDownhill$House", "<init>", "(IIIIII)V"⟩ ∈ gtb := gtb_in (tin1 (List.mem_of_getElem? (i := 44) (by decide +kernel))) rfl
theorem w1_45 : Cond.instanceMethod ⟨"GoodsDownhill$House", "<init>", "(IIIIII)V"⟩ ∈ gtb := gtb_in (tin1 (List.mem_of_getElem? (i := 45) (by decide +kernel))) rfl
theorem w1_46 : Cond.code ⟨"GoodsDownhill$House", "<init>", "(IIIIII)V"⟩ prog_6_method_1_code 7 none ∈ gtb := gtb_in (tin1 (List.mem_of_getElem? (i := 46) (by decide +kernel))) rfl
theorem w1_47 : Cond.methodLink "GoodsDownhill$House" 1 ⟨"java/lang/Object", "<init>", "()V"⟩ ∈ gtb := gtb_in (tin1 (List.mem_of_getElem? (i := 47) (by decide +kernel))) rfl
theorem w1_48 : Cond.fieldLink "GoodsDownhill$House" 7 "GoodsDownhill$House" "figure" "I" ∈ gtb := gtb_in (tin1 (List.mem_of_getElem? (i := 48) (by decide +kernel))) rfl
theorem w1_49 : Cond.fieldLink "GoodsDownhill$Market" 13 "GoodsDownhill$Market" "figure" "I" ∈ gtb := gtb_in (tin1 (List.mem_of_getElem? (i := 49) (by decide +kernel))) rfl
theorem w1_5 : Cond.initialized "GoodsDownhill$Tally" ∈ gtb := gtb_in (tin1 (List.mem_of_getElem? (i := 5) (by decide +kernel))) rfl
theorem w1_50 : Cond.sameField "GoodsDownhill$Market" "GoodsDownhill$House" "figure" "I" ∈ gtb := gtb_in (tin1 (List.mem_of_getElem? (i := 50) (by decide +kernel))) rfl
theorem w1_51 : Cond.fieldLink "GoodsDownhill$Joined" 13 "GoodsDownhill$Joined" "figure" "I" ∈ gtb := gtb_in (tin1 (List.mem_of_getElem? (i := 51) (by decide +kernel))) rfl
theorem w1_52 : Cond.sameField "GoodsDownhill$Joined" "GoodsDownhill$House" "figure" "I" ∈ gtb := gtb_in (tin1 (List.mem_of_getElem? (i := 52) (by decide +kernel))) rfl
theorem w1_53 : Cond.fieldLink "GoodsDownhill$Feigned" 13 "GoodsDownhill$Feigned" "figure" "I" ∈ gtb := gtb_in (tin1 (List.mem_of_getElem? (i := 53) (by decide +kernel))) rfl
theorem w1_54 : Cond.sameField "GoodsDownhill$Feigned" "GoodsDownhill$House" "figure" "I" ∈ gtb := gtb_in (tin1 (List.mem_of_getElem? (i := 54) (by decide +kernel))) rfl
theorem w1_55 : Cond.fieldLink "GoodsDownhill$Cellared" 27 "GoodsDownhill$Cellared" "figure" "I" ∈ gtb := gtb_in (tin1 (List.mem_of_getElem? (i := 55) (by decide +kernel))) rfl
theorem w1_56 : Cond.sameField "GoodsDownhill$Cellared" "GoodsDownhill$House" "figure" "I" ∈ gtb := gtb_in (tin1 (List.mem_of_getElem? (i := 56) (by decide +kernel))) rfl
theorem w1_57 : Cond.fieldLink "GoodsDownhill" 84 "GoodsDownhill$House" "figure" "I" ∈ gtb := gtb_in (tin1 (List.mem_of_getElem? (i := 57) (by decide +kernel))) rfl
theorem w1_58 : Cond.fieldLink "GoodsDownhill$House" 13 "GoodsDownhill$House" "height" "I" ∈ gtb := gtb_in (tin1 (List.mem_of_getElem? (i := 58) (by decide +kernel))) rfl
theorem w1_59 : Cond.fieldLink "GoodsDownhill$Cellared" 9 "GoodsDownhill$House" "height" "I" ∈ gtb := gtb_in (tin1 (List.mem_of_getElem? (i := 59) (by decide +kernel))) rfl
theorem w1_6 : Cond.initialized "GoodsDownhill$Letters" ∈ gtb := gtb_in (tin1 (List.mem_of_getElem? (i := 6) (by decide +kernel))) rfl
theorem w1_60 : Cond.fieldLink "GoodsDownhill$Market" 7 "GoodsDownhill$Market" "height" "I" ∈ gtb := gtb_in (tin1 (List.mem_of_getElem? (i := 60) (by decide +kernel))) rfl
theorem w1_61 : Cond.sameField "GoodsDownhill$Market" "GoodsDownhill$House" "height" "I" ∈ gtb := gtb_in (tin1 (List.mem_of_getElem? (i := 61) (by decide +kernel))) rfl
theorem w1_62 : Cond.fieldLink "GoodsDownhill$Joined" 7 "GoodsDownhill$Joined" "height" "I" ∈ gtb := gtb_in (tin1 (List.mem_of_getElem? (i := 62) (by decide +kernel))) rfl
theorem w1_63 : Cond.sameField "GoodsDownhill$Joined" "GoodsDownhill$House" "height" "I" ∈ gtb := gtb_in (tin1 (List.mem_of_getElem? (i := 63) (by decide +kernel))) rfl
theorem w1_64 : Cond.fieldLink "GoodsDownhill$Feigned" 7 "GoodsDownhill$Feigned" "height" "I" ∈ gtb := gtb_in (tin1 (List.mem_of_getElem? (i := 64) (by decide +kernel))) rfl
theorem w1_65 : Cond.sameField "GoodsDownhill$Feigned" "GoodsDownhill$House" "height" "I" ∈ gtb := gtb_in (tin1 (List.mem_of_getElem? (i := 65) (by decide +kernel))) rfl
theorem w1_66 : Cond.fieldLink "GoodsDownhill$Cellared" 26 "GoodsDownhill$Cellared" "height" "I" ∈ gtb := gtb_in (tin1 (List.mem_of_getElem? (i := 66) (by decide +kernel))) rfl
theorem w1_67 : Cond.sameField "GoodsDownhill$Cellared" "GoodsDownhill$House" "height" "I" ∈ gtb := gtb_in (tin1 (List.mem_of_getElem? (i := 67) (by decide +kernel))) rfl
theorem w1_68 : Cond.fieldLink "GoodsDownhill" 87 "GoodsDownhill$House" "height" "I" ∈ gtb := gtb_in (tin1 (List.mem_of_getElem? (i := 68) (by decide +kernel))) rfl
theorem w1_69 : Cond.fieldLink "GoodsDownhill$House" 16 "GoodsDownhill$House" "madeGood" "I" ∈ gtb := gtb_in (tin1 (List.mem_of_getElem? (i := 69) (by decide +kernel))) rfl
theorem w1_7 : Cond.initialized "GoodsDownhillModel" ∈ gtb := gtb_in (tin1 (List.mem_of_getElem? (i := 7) (by decide +kernel))) rfl
theorem w1_70 : Cond.fieldLink "GoodsDownhill$Cellared" 13 "GoodsDownhill$House" "madeGood" "I" ∈ gtb := gtb_in (tin1 (List.mem_of_getElem? (i := 70) (by decide +kernel))) rfl
theorem w1_71 : Cond.fieldLink "GoodsDownhill" 96 "GoodsDownhill$House" "madeGood" "I" ∈ gtb := gtb_in (tin1 (List.mem_of_getElem? (i := 71) (by decide +kernel))) rfl
theorem w1_72 : Cond.fieldLink "GoodsDownhill$Land" 121 "GoodsDownhill$House" "madeGood" "I" ∈ gtb := gtb_in (tin1 (List.mem_of_getElem? (i := 72) (by decide +kernel))) rfl
theorem w1_73 : Cond.fieldLink "GoodsDownhill$House" 19 "GoodsDownhill$House" "makes" "I" ∈ gtb := gtb_in (tin1 (List.mem_of_getElem? (i := 73) (by decide +kernel))) rfl
theorem w1_74 : Cond.fieldLink "GoodsDownhill$Cellared" 16 "GoodsDownhill$House" "makes" "I" ∈ gtb := gtb_in (tin1 (List.mem_of_getElem? (i := 74) (by decide +kernel))) rfl
theorem w1_75 : Cond.fieldLink "GoodsDownhill" 99 "GoodsDownhill$House" "makes" "I" ∈ gtb := gtb_in (tin1 (List.mem_of_getElem? (i := 75) (by decide +kernel))) rfl
theorem w1_76 : Cond.fieldLink "GoodsDownhill$Land" 124 "GoodsDownhill$House" "makes" "I" ∈ gtb := gtb_in (tin1 (List.mem_of_getElem? (i := 76) (by decide +kernel))) rfl
theorem w1_77 : Cond.fieldLink "GoodsDownhill$House" 22 "GoodsDownhill$House" "wantedGood" "I" ∈ gtb := gtb_in (tin1 (List.mem_of_getElem? (i := 77) (by decide +kernel))) rfl
theorem w1_78 : Cond.fieldLink "GoodsDownhill$Cellared" 19 "GoodsDownhill$House" "wantedGood" "I" ∈ gtb := gtb_in (tin1 (List.mem_of_getElem? (i := 78) (by decide +kernel))) rfl
theorem w1_79 : Cond.fieldLink "GoodsDownhill" 102 "GoodsDownhill$House" "wantedGood" "I" ∈ gtb := gtb_in (tin1 (List.mem_of_getElem? (i := 79) (by decide +kernel))) rfl
theorem w1_8 : Cond.initialized "java/lang/System" ∈ gtb := gtb_in (tin1 (List.mem_of_getElem? (i := 8) (by decide +kernel))) rfl
theorem w1_80 : Cond.fieldLink "GoodsDownhill$Land" 132 "GoodsDownhill$House" "wantedGood" "I" ∈ gtb := gtb_in (tin1 (List.mem_of_getElem? (i := 80) (by decide +kernel))) rfl
theorem w1_81 : Cond.fieldLink "GoodsDownhill$House" 25 "GoodsDownhill$House" "wants" "I" ∈ gtb := gtb_in (tin1 (List.mem_of_getElem? (i := 81) (by decide +kernel))) rfl
theorem w1_82 : Cond.fieldLink "GoodsDownhill$Cellared" 22 "GoodsDownhill$House" "wants" "I" ∈ gtb := gtb_in (tin1 (List.mem_of_getElem? (i := 82) (by decide +kernel))) rfl
theorem w1_83 : Cond.fieldLink "GoodsDownhill" 105 "GoodsDownhill$House" "wants" "I" ∈ gtb := gtb_in (tin1 (List.mem_of_getElem? (i := 83) (by decide +kernel))) rfl
theorem w1_84 : Cond.fieldLink "GoodsDownhill$Trade" 52 "GoodsDownhill$House" "wants" "I" ∈ gtb := gtb_in (tin1 (List.mem_of_getElem? (i := 84) (by decide +kernel))) rfl
theorem w1_85 : Cond.fieldLink "GoodsDownhill$Land" 115 "GoodsDownhill$House" "wants" "I" ∈ gtb := gtb_in (tin1 (List.mem_of_getElem? (i := 85) (by decide +kernel))) rfl
theorem w1_9 : Cond.initialized "GoodsDownhill$Cellared" ∈ gtb := gtb_in (tin1 (List.mem_of_getElem? (i := 9) (by decide +kernel))) rfl
theorem w1_99 : Cond.fieldLink "GoodsDownhill$Land" 11 "GoodsDownhill$Land" "houses" "[LGoodsDownhill$House;" ∈ gtb := gtb_in (tin1 (List.mem_of_getElem? (i := 99) (by decide +kernel))) rfl
theorem w2_0 : Cond.selects "GoodsDownhill$Debts" ⟨"GoodsDownhill$Debts", "copyFrom", "(LGoodsDownhill$Debts;)V"⟩ ⟨"GoodsDownhill$Debts", "copyFrom", "(LGoodsDownhill$Debts;)V"⟩ ∈ gtb := gtb_in (tin2 (List.mem_of_getElem? (i := 0) (by decide +kernel))) rfl
theorem w2_1 : Cond.code ⟨"GoodsDownhill$Debts", "copyFrom", "(LGoodsDownhill$Debts;)V"⟩ prog_3_method_2_code 2 none ∈ gtb := gtb_in (tin2 (List.mem_of_getElem? (i := 1) (by decide +kernel))) rfl
theorem w2_10 : Cond.code ⟨"GoodsDownhill$Letters", "firstWrongPlace", "()I"⟩ prog_9_method_4_code 5 (some .int) ∈ gtb := gtb_in (tin2 (List.mem_of_getElem? (i := 10) (by decide +kernel))) rfl
theorem w2_107 : Cond.methodLink "GoodsDownhill$Letters" 85 ⟨"GoodsDownhill$Land", "addHouse", "(LGoodsDownhill$House;I)Z"⟩ ∈ gtb := gtb_in (tin2 (List.mem_of_getElem? (i := 107) (by decide +kernel))) rfl
theorem w2_108 : Cond.instanceMethod ⟨"GoodsDownhill$Land", "addHouse", "(LGoodsDownhill$House;I)Z"⟩ ∈ gtb := gtb_in (tin2 (List.mem_of_getElem? (i := 108) (by decide +kernel))) rfl
theorem w2_109 : Cond.selects "GoodsDownhill$Land" ⟨"GoodsDownhill$Land", "addHouse", "(LGoodsDownhill$House;I)Z"⟩ ⟨"GoodsDownhill$Land", "addHouse", "(LGoodsDownhill$House;I)Z"⟩ ∈ gtb := gtb_in (tin2 (List.mem_of_getElem? (i := 109) (by decide +kernel))) rfl
theorem w2_11 : Cond.methodLink "GoodsDownhill$Letters" 23 ⟨"GoodsDownhill$Letters", "mostDigits", "(I)I"⟩ ∈ gtb := gtb_in (tin2 (List.mem_of_getElem? (i := 11) (by decide +kernel))) rfl
theorem w2_110 : Cond.code ⟨"GoodsDownhill$Land", "addHouse", "(LGoodsDownhill$House;I)Z"⟩ prog_8_method_3_code 3 (some .boolean) ∈ gtb := gtb_in (tin2 (List.mem_of_getElem? (i := 110) (by decide +kernel))) rfl
theorem w2_111 : Cond.methodLink "GoodsDownhill$Letters" 48 ⟨"GoodsDownhill$Letters", "tellPrice", "(LGoodsDownhill$Land;I)Z"⟩ ∈ gtb := gtb_in (tin2 (List.mem_of_getElem? (i := 111) (by decide +kernel))) rfl
theorem w2_113 : Cond.instanceMethod ⟨"GoodsDownhill$Letters", "tellPrice", "(LGoodsDownhill$Land;I)Z"⟩ ∈ gtb := gtb_in (tin2 (List.mem_of_getElem? (i := 113) (by decide +kernel))) rfl
theorem w2_114 : Cond.code ⟨"GoodsDownhill$Letters", "tellPrice", "(LGoodsDownhill$Land;I)Z"⟩ prog_9_method_13_code 5 (some .boolean) ∈ gtb := gtb_in (tin2 (List.mem_of_getElem? (i := 114) (by decide +kernel))) rfl
theorem w2_115 : Cond.methodLink "GoodsDownhill$Letters" 52 ⟨"GoodsDownhill$Letters", "tellLaw", "(LGoodsDownhill$Land;I)Z"⟩ ∈ gtb := gtb_in (tin2 (List.mem_of_getElem? (i := 115) (by decide +kernel))) rfl
theorem w2_117 : Cond.instanceMethod ⟨"GoodsDownhill$Letters", "tellLaw", "(LGoodsDownhill$Land;I)Z"⟩ ∈ gtb := gtb_in (tin2 (List.mem_of_getElem? (i := 117) (by decide +kernel))) rfl
theorem w2_118 : Cond.code ⟨"GoodsDownhill$Letters", "tellLaw", "(LGoodsDownhill$Land;I)Z"⟩ prog_9_method_14_code 4 (some .boolean) ∈ gtb := gtb_in (tin2 (List.mem_of_getElem? (i := 118) (by decide +kernel))) rfl
theorem w2_12 : Cond.static ⟨"GoodsDownhill$Letters", "mostDigits", "(I)I"⟩ ∈ gtb := gtb_in (tin2 (List.mem_of_getElem? (i := 12) (by decide +kernel))) rfl
theorem w2_120 : Cond.static ⟨"GoodsDownhill", "isLaw", "(I)Z"⟩ ∈ gtb := gtb_in (tin2 (List.mem_of_getElem? (i := 120) (by decide +kernel))) rfl
theorem w2_121 : Cond.code ⟨"GoodsDownhill", "isLaw", "(I)Z"⟩ prog_1_method_35_code 1 (some .boolean) ∈ gtb := gtb_in (tin2 (List.mem_of_getElem? (i := 121) (by decide +kernel))) rfl
theorem w2_122 : Cond.methodLink "GoodsDownhill$Letters" 55 ⟨"GoodsDownhill$Letters", "tellDebt", "(LGoodsDownhill$Land;II)Z"⟩ ∈ gtb := gtb_in (tin2 (List.mem_of_getElem? (i := 122) (by decide +kernel))) rfl
theorem w2_124 : Cond.instanceMethod ⟨"GoodsDownhill$Letters", "tellDebt", "(LGoodsDownhill$Land;II)Z"⟩ ∈ gtb := gtb_in (tin2 (List.mem_of_getElem? (i := 124) (by decide +kernel))) rfl
theorem w2_125 : Cond.code ⟨"GoodsDownhill$Letters", "tellDebt", "(LGoodsDownhill$Land;II)Z"⟩ prog_9_method_15_code 6 (some .boolean) ∈ gtb := gtb_in (tin2 (List.mem_of_getElem? (i := 125) (by decide +kernel))) rfl
theorem w2_126 : Cond.methodLink "GoodsDownhill$Letters" 100 ⟨"GoodsDownhill$Land", "areTwo", "(II)Z"⟩ ∈ gtb := gtb_in (tin2 (List.mem_of_getElem? (i := 126) (by decide +kernel))) rfl
theorem w2_127 : Cond.instanceMethod ⟨"GoodsDownhill$Land", "areTwo", "(II)Z"⟩ ∈ gtb := gtb_in (tin2 (List.mem_of_getElem? (i := 127) (by decide +kernel))) rfl
theorem w2_128 : Cond.selects "GoodsDownhill$Land" ⟨"GoodsDownhill$Land", "areTwo", "(II)Z"⟩ ⟨"GoodsDownhill$Land", "areTwo", "(II)Z"⟩ ∈ gtb := gtb_in (tin2 (List.mem_of_getElem? (i := 128) (by decide +kernel))) rfl
theorem w2_129 : Cond.code ⟨"GoodsDownhill$Land", "areTwo", "(II)Z"⟩ prog_8_method_5_code 3 (some .boolean) ∈ gtb := gtb_in (tin2 (List.mem_of_getElem? (i := 129) (by decide +kernel))) rfl
theorem w2_13 : Cond.code ⟨"GoodsDownhill$Letters", "mostDigits", "(I)I"⟩ prog_9_method_7_code 1 (some .int) ∈ gtb := gtb_in (tin2 (List.mem_of_getElem? (i := 13) (by decide +kernel))) rfl
theorem w2_130 : Cond.methodLink "GoodsDownhill$Land" 60 ⟨"GoodsDownhill$Land", "hasHouse", "(I)Z"⟩ ∈ gtb := gtb_in (tin2 (List.mem_of_getElem? (i := 130) (by decide +kernel))) rfl
theorem w2_131 : Cond.instanceMethod ⟨"GoodsDownhill$Land", "hasHouse", "(I)Z"⟩ ∈ gtb := gtb_in (tin2 (List.mem_of_getElem? (i := 131) (by decide +kernel))) rfl
theorem w2_132 : Cond.selects "GoodsDownhill$Land" ⟨"GoodsDownhill$Land", "hasHouse", "(I)Z"⟩ ⟨"GoodsDownhill$Land", "hasHouse", "(I)Z"⟩ ∈ gtb := gtb_in (tin2 (List.mem_of_getElem? (i := 132) (by decide +kernel))) rfl
theorem w2_133 : Cond.code ⟨"GoodsDownhill$Land", "hasHouse", "(I)Z"⟩ prog_8_method_4_code 2 (some .boolean) ∈ gtb := gtb_in (tin2 (List.mem_of_getElem? (i := 133) (by decide +kernel))) rfl
theorem w2_134 : Cond.methodLink "GoodsDownhill$Letters" 108 ⟨"GoodsDownhill$Debts", "put", "(III)V"⟩ ∈ gtb := gtb_in (tin2 (List.mem_of_getElem? (i := 134) (by decide +kernel))) rfl
theorem w2_135 : Cond.instanceMethod ⟨"GoodsDownhill$Debts", "put", "(III)V"⟩ ∈ gtb := gtb_in (tin2 (List.mem_of_getElem? (i := 135) (by decide +kernel))) rfl
theorem w2_136 : Cond.selects "GoodsDownhill$Debts" ⟨"GoodsDownhill$Debts", "put", "(III)V"⟩ ⟨"GoodsDownhill$Debts", "put", "(III)V"⟩ ∈ gtb := gtb_in (tin2 (List.mem_of_getElem? (i := 136) (by decide +kernel))) rfl
theorem w2_137 : Cond.code ⟨"GoodsDownhill$Debts", "put", "(III)V"⟩ prog_3_method_4_code 4 none ∈ gtb := gtb_in (tin2 (List.mem_of_getElem? (i := 137) (by decide +kernel))) rfl
theorem w2_14 : Cond.methodLink "GoodsDownhill$Letters" 27 ⟨"GoodsDownhill$Letters", "endOfDigits", "(II)I"⟩ ∈ gtb := gtb_in (tin2 (List.mem_of_getElem? (i := 14) (by decide +kernel))) rfl
theorem w2_142 : Cond.methodLink "GoodsDownhill" 70 ⟨"GoodsDownhill$Land", "hasHouse", "(I)Z"⟩ ∈ gtb := gtb_in (tin2 (List.mem_of_getElem? (i := 142) (by decide +kernel))) rfl
theorem w2_143 : Cond.methodLink "GoodsDownhill" 78 ⟨"GoodsDownhill$House", "kind", "()I"⟩ ∈ gtb := gtb_in (tin2 (List.mem_of_getElem? (i := 143) (by decide +kernel))) rfl
theorem w2_144 : Cond.instanceMethod ⟨"GoodsDownhill$House", "kind", "()I"⟩ ∈ gtb := gtb_in (tin2 (List.mem_of_getElem? (i := 144) (by decide +kernel))) rfl
theorem w2_145 : Cond.selects "GoodsDownhill$House" ⟨"GoodsDownhill$House", "kind", "()I"⟩ ⟨"GoodsDownhill$House", "kind", "()I"⟩ ∈ gtb := gtb_in (tin2 (List.mem_of_getElem? (i := 145) (by decide +kernel))) rfl
theorem w2_146 : Cond.sameMethod "GoodsDownhill$House" "GoodsDownhill$House" "kind" "()I" ∈ gtb := gtb_in (tin2 (List.mem_of_getElem? (i := 146) (by decide +kernel))) rfl
theorem w2_147 : Cond.selects "GoodsDownhill$Cellared" ⟨"GoodsDownhill$House", "kind", "()I"⟩ ⟨"GoodsDownhill$Cellared", "kind", "()I"⟩ ∈ gtb := gtb_in (tin2 (List.mem_of_getElem? (i := 147) (by decide +kernel))) rfl
theorem w2_148 : Cond.instanceMethod ⟨"GoodsDownhill$Cellared", "kind", "()I"⟩ ∈ gtb := gtb_in (tin2 (List.mem_of_getElem? (i := 148) (by decide +kernel))) rfl
theorem w2_149 : Cond.code ⟨"GoodsDownhill$Cellared", "kind", "()I"⟩ prog_2_method_3_code 1 (some .int) ∈ gtb := gtb_in (tin2 (List.mem_of_getElem? (i := 149) (by decide +kernel))) rfl
theorem w2_150 : Cond.selects "GoodsDownhill$Feigned" ⟨"GoodsDownhill$House", "kind", "()I"⟩ ⟨"GoodsDownhill$Feigned", "kind", "()I"⟩ ∈ gtb := gtb_in (tin2 (List.mem_of_getElem? (i := 150) (by decide +kernel))) rfl
theorem w2_151 : Cond.instanceMethod ⟨"GoodsDownhill$Feigned", "kind", "()I"⟩ ∈ gtb := gtb_in (tin2 (List.mem_of_getElem? (i := 151) (by decide +kernel))) rfl
theorem w2_152 : Cond.code ⟨"GoodsDownhill$Feigned", "kind", "()I"⟩ prog_4_method_2_code 1 (some .int) ∈ gtb := gtb_in (tin2 (List.mem_of_getElem? (i := 152) (by decide +kernel))) rfl
theorem w2_153 : Cond.selects "GoodsDownhill$Hermit" ⟨"GoodsDownhill$House", "kind", "()I"⟩ ⟨"GoodsDownhill$Hermit", "kind", "()I"⟩ ∈ gtb := gtb_in (tin2 (List.mem_of_getElem? (i := 153) (by decide +kernel))) rfl
theorem w2_154 : Cond.instanceMethod ⟨"GoodsDownhill$Hermit", "kind", "()I"⟩ ∈ gtb := gtb_in (tin2 (List.mem_of_getElem? (i := 154) (by decide +kernel))) rfl
theorem w2_155 : Cond.code ⟨"GoodsDownhill$Hermit", "kind", "()I"⟩ prog_5_method_2_code 1 (some .int) ∈ gtb := gtb_in (tin2 (List.mem_of_getElem? (i := 155) (by decide +kernel))) rfl
theorem w2_156 : Cond.selects "GoodsDownhill$Joined" ⟨"GoodsDownhill$House", "kind", "()I"⟩ ⟨"GoodsDownhill$Joined", "kind", "()I"⟩ ∈ gtb := gtb_in (tin2 (List.mem_of_getElem? (i := 156) (by decide +kernel))) rfl
theorem w2_157 : Cond.instanceMethod ⟨"GoodsDownhill$Joined", "kind", "()I"⟩ ∈ gtb := gtb_in (tin2 (List.mem_of_getElem? (i := 157) (by decide +kernel))) rfl
theorem w2_158 : Cond.code ⟨"GoodsDownhill$Joined", "kind", "()I"⟩ prog_7_method_2_code 1 (some .int) ∈ gtb := gtb_in (tin2 (List.mem_of_getElem? (i := 158) (by decide +kernel))) rfl
theorem w2_159 : Cond.selects "GoodsDownhill$Market" ⟨"GoodsDownhill$House", "kind", "()I"⟩ ⟨"GoodsDownhill$Market", "kind", "()I"⟩ ∈ gtb := gtb_in (tin2 (List.mem_of_getElem? (i := 159) (by decide +kernel))) rfl
theorem w2_16 : Cond.instanceMethod ⟨"GoodsDownhill$Letters", "endOfDigits", "(II)I"⟩ ∈ gtb := gtb_in (tin2 (List.mem_of_getElem? (i := 16) (by decide +kernel))) rfl
theorem w2_160 : Cond.instanceMethod ⟨"GoodsDownhill$Market", "kind", "()I"⟩ ∈ gtb := gtb_in (tin2 (List.mem_of_getElem? (i := 160) (by decide +kernel))) rfl
theorem w2_161 : Cond.code ⟨"GoodsDownhill$Market", "kind", "()I"⟩ prog_10_method_2_code 1 (some .int) ∈ gtb := gtb_in (tin2 (List.mem_of_getElem? (i := 161) (by decide +kernel))) rfl
theorem w2_162 : Cond.code ⟨"GoodsDownhill$House", "kind", "()I"⟩ prog_6_method_2_code 1 (some .int) ∈ gtb := gtb_in (tin2 (List.mem_of_getElem? (i := 162) (by decide +kernel))) rfl
theorem w2_163 : Cond.methodLink "GoodsDownhill" 90 ⟨"GoodsDownhill$House", "sellsAt", "()I"⟩ ∈ gtb := gtb_in (tin2 (List.mem_of_getElem? (i := 163) (by decide +kernel))) rfl
theorem w2_164 : Cond.instanceMethod ⟨"GoodsDownhill$House", "sellsAt", "()I"⟩ ∈ gtb := gtb_in (tin2 (List.mem_of_getElem? (i := 164) (by decide +kernel))) rfl
theorem w2_165 : Cond.selects "GoodsDownhill$House" ⟨"GoodsDownhill$House", "sellsAt", "()I"⟩ ⟨"GoodsDownhill$House", "sellsAt", "()I"⟩ ∈ gtb := gtb_in (tin2 (List.mem_of_getElem? (i := 165) (by decide +kernel))) rfl
theorem w2_166 : Cond.sameMethod "GoodsDownhill$House" "GoodsDownhill$House" "sellsAt" "()I" ∈ gtb := gtb_in (tin2 (List.mem_of_getElem? (i := 166) (by decide +kernel))) rfl
theorem w2_167 : Cond.selects "GoodsDownhill$Cellared" ⟨"GoodsDownhill$House", "sellsAt", "()I"⟩ ⟨"GoodsDownhill$House", "sellsAt", "()I"⟩ ∈ gtb := gtb_in (tin2 (List.mem_of_getElem? (i := 167) (by decide +kernel))) rfl
theorem w2_168 : Cond.selects "GoodsDownhill$Feigned" ⟨"GoodsDownhill$House", "sellsAt", "()I"⟩ ⟨"GoodsDownhill$Market", "sellsAt", "()I"⟩ ∈ gtb := gtb_in (tin2 (List.mem_of_getElem? (i := 168) (by decide +kernel))) rfl
theorem w2_169 : Cond.instanceMethod ⟨"GoodsDownhill$Market", "sellsAt", "()I"⟩ ∈ gtb := gtb_in (tin2 (List.mem_of_getElem? (i := 169) (by decide +kernel))) rfl
theorem w2_17 : Cond.code ⟨"GoodsDownhill$Letters", "endOfDigits", "(II)I"⟩ prog_9_method_5_code 4 (some .int) ∈ gtb := gtb_in (tin2 (List.mem_of_getElem? (i := 17) (by decide +kernel))) rfl
theorem w2_170 : Cond.code ⟨"GoodsDownhill$Market", "sellsAt", "()I"⟩ prog_10_method_3_code 1 (some .int) ∈ gtb := gtb_in (tin2 (List.mem_of_getElem? (i := 170) (by decide +kernel))) rfl
theorem w2_171 : Cond.selects "GoodsDownhill$Hermit" ⟨"GoodsDownhill$House", "sellsAt", "()I"⟩ ⟨"GoodsDownhill$House", "sellsAt", "()I"⟩ ∈ gtb := gtb_in (tin2 (List.mem_of_getElem? (i := 171) (by decide +kernel))) rfl
theorem w2_172 : Cond.selects "GoodsDownhill$Joined" ⟨"GoodsDownhill$House", "sellsAt", "()I"⟩ ⟨"GoodsDownhill$Joined", "sellsAt", "()I"⟩ ∈ gtb := gtb_in (tin2 (List.mem_of_getElem? (i := 172) (by decide +kernel))) rfl
theorem w2_173 : Cond.instanceMethod ⟨"GoodsDownhill$Joined", "sellsAt", "()I"⟩ ∈ gtb := gtb_in (tin2 (List.mem_of_getElem? (i := 173) (by decide +kernel))) rfl
theorem w2_174 : Cond.code ⟨"GoodsDownhill$Joined", "sellsAt", "()I"⟩ prog_7_method_3_code 1 (some .int) ∈ gtb := gtb_in (tin2 (List.mem_of_getElem? (i := 174) (by decide +kernel))) rfl
theorem w2_175 : Cond.selects "GoodsDownhill$Market" ⟨"GoodsDownhill$House", "sellsAt", "()I"⟩ ⟨"GoodsDownhill$Market", "sellsAt", "()I"⟩ ∈ gtb := gtb_in (tin2 (List.mem_of_getElem? (i := 175) (by decide +kernel))) rfl
theorem w2_176 : Cond.code ⟨"GoodsDownhill$House", "sellsAt", "()I"⟩ prog_6_method_3_code 1 (some .int) ∈ gtb := gtb_in (tin2 (List.mem_of_getElem? (i := 176) (by decide +kernel))) rfl
theorem w2_177 : Cond.methodLink "GoodsDownhill" 93 ⟨"GoodsDownhill$House", "buysAt", "()I"⟩ ∈ gtb := gtb_in (tin2 (List.mem_of_getElem? (i := 177) (by decide +kernel))) rfl
theorem w2_178 : Cond.instanceMethod ⟨"GoodsDownhill$House", "buysAt", "()I"⟩ ∈ gtb := gtb_in (tin2 (List.mem_of_getElem? (i := 178) (by decide +kernel))) rfl
theorem w2_179 : Cond.selects "GoodsDownhill$House" ⟨"GoodsDownhill$House", "buysAt", "()I"⟩ ⟨"GoodsDownhill$House", "buysAt", "()I"⟩ ∈ gtb := gtb_in (tin2 (List.mem_of_getElem? (i := 179) (by decide +kernel))) rfl
theorem w2_18 : Cond.methodLink "GoodsDownhill$Letters" 31 ⟨"GoodsDownhill$Letters", "leastDigits", "(I)I"⟩ ∈ gtb := gtb_in (tin2 (List.mem_of_getElem? (i := 18) (by decide +kernel))) rfl
theorem w2_180 : Cond.sameMethod "GoodsDownhill$House" "GoodsDownhill$House" "buysAt" "()I" ∈ gtb := gtb_in (tin2 (List.mem_of_getElem? (i := 180) (by decide +kernel))) rfl
theorem w2_181 : Cond.selects "GoodsDownhill$Cellared" ⟨"GoodsDownhill$House", "buysAt", "()I"⟩ ⟨"GoodsDownhill$Cellared", "buysAt", "()I"⟩ ∈ gtb := gtb_in (tin2 (List.mem_of_getElem? (i := 181) (by decide +kernel))) rfl
theorem w2_182 : Cond.instanceMethod ⟨"GoodsDownhill$Cellared", "buysAt", "()I"⟩ ∈ gtb := gtb_in (tin2 (List.mem_of_getElem? (i := 182) (by decide +kernel))) rfl
theorem w2_183 : Cond.code ⟨"GoodsDownhill$Cellared", "buysAt", "()I"⟩ prog_2_method_4_code 1 (some .int) ∈ gtb := gtb_in (tin2 (List.mem_of_getElem? (i := 183) (by decide +kernel))) rfl
theorem w2_184 : Cond.selects "GoodsDownhill$Feigned" ⟨"GoodsDownhill$House", "buysAt", "()I"⟩ ⟨"GoodsDownhill$Feigned", "buysAt", "()I"⟩ ∈ gtb := gtb_in (tin2 (List.mem_of_getElem? (i := 184) (by decide +kernel))) rfl
theorem w2_185 : Cond.instanceMethod ⟨"GoodsDownhill$Feigned", "buysAt", "()I"⟩ ∈ gtb := gtb_in (tin2 (List.mem_of_getElem? (i := 185) (by decide +kernel))) rfl
theorem w2_186 : Cond.code ⟨"GoodsDownhill$Feigned", "buysAt", "()I"⟩ prog_4_method_3_code 1 (some .int) ∈ gtb := gtb_in (tin2 (List.mem_of_getElem? (i := 186) (by decide +kernel))) rfl
theorem w2_187 : Cond.selects "GoodsDownhill$Hermit" ⟨"GoodsDownhill$House", "buysAt", "()I"⟩ ⟨"GoodsDownhill$Hermit", "buysAt", "()I"⟩ ∈ gtb := gtb_in (tin2 (List.mem_of_getElem? (i := 187) (by decide +kernel))) rfl
theorem w2_188 : Cond.instanceMethod ⟨"GoodsDownhill$Hermit", "buysAt", "()I"⟩ ∈ gtb := gtb_in (tin2 (List.mem_of_getElem? (i := 188) (by decide +kernel))) rfl
theorem w2_189 : Cond.code ⟨"GoodsDownhill$Hermit", "buysAt", "()I"⟩ prog_5_method_3_code 1 (some .int) ∈ gtb := gtb_in (tin2 (List.mem_of_getElem? (i := 189) (by decide +kernel))) rfl
theorem w2_19 : Cond.static ⟨"GoodsDownhill$Letters", "leastDigits", "(I)I"⟩ ∈ gtb := gtb_in (tin2 (List.mem_of_getElem? (i := 19) (by decide +kernel))) rfl
theorem w2_190 : Cond.selects "GoodsDownhill$Joined" ⟨"GoodsDownhill$House", "buysAt", "()I"⟩ ⟨"GoodsDownhill$House", "buysAt", "()I"⟩ ∈ gtb := gtb_in (tin2 (List.mem_of_getElem? (i := 190) (by decide +kernel))) rfl
theorem w2_191 : Cond.selects "GoodsDownhill$Market" ⟨"GoodsDownhill$House", "buysAt", "()I"⟩ ⟨"GoodsDownhill$Cellared", "buysAt", "()I"⟩ ∈ gtb := gtb_in (tin2 (List.mem_of_getElem? (i := 191) (by decide +kernel))) rfl
theorem w2_192 : Cond.code ⟨"GoodsDownhill$House", "buysAt", "()I"⟩ prog_6_method_4_code 1 (some .int) ∈ gtb := gtb_in (tin2 (List.mem_of_getElem? (i := 192) (by decide +kernel))) rfl
theorem w2_197 : Cond.methodLink "GoodsDownhill" 111 ⟨"GoodsDownhill", "isGood", "(I)Z"⟩ ∈ gtb := gtb_in (tin2 (List.mem_of_getElem? (i := 197) (by decide +kernel))) rfl
theorem w2_198 : Cond.methodLink "GoodsDownhill" 114 ⟨"GoodsDownhill$Land", "piecesOf", "(II)I"⟩ ∈ gtb := gtb_in (tin2 (List.mem_of_getElem? (i := 198) (by decide +kernel))) rfl
theorem w2_199 : Cond.instanceMethod ⟨"GoodsDownhill$Land", "piecesOf", "(II)I"⟩ ∈ gtb := gtb_in (tin2 (List.mem_of_getElem? (i := 199) (by decide +kernel))) rfl
theorem w2_2 : Cond.methodLink "GoodsDownhill$Debts" 15 ⟨"java/lang/System", "arraycopy", "(Ljava/lang/Object;ILjava/lang/Object;II)V"⟩ ∈ gtb := gtb_in (tin2 (List.mem_of_getElem? (i := 2) (by decide +kernel))) rfl
theorem w2_20 : Cond.code ⟨"GoodsDownhill$Letters", "leastDigits", "(I)I"⟩ prog_9_method_6_code 1 (some .int) ∈ gtb := gtb_in (tin2 (List.mem_of_getElem? (i := 20) (by decide +kernel))) rfl
theorem w2_200 : Cond.selects "GoodsDownhill$Land" ⟨"GoodsDownhill$Land", "piecesOf", "(II)I"⟩ ⟨"GoodsDownhill$Land", "piecesOf", "(II)I"⟩ ∈ gtb := gtb_in (tin2 (List.mem_of_getElem? (i := 200) (by decide +kernel))) rfl
theorem w2_201 : Cond.code ⟨"GoodsDownhill$Land", "piecesOf", "(II)I"⟩ prog_8_method_6_code 3 (some .int) ∈ gtb := gtb_in (tin2 (List.mem_of_getElem? (i := 201) (by decide +kernel))) rfl
theorem w2_21 : Cond.methodLink "GoodsDownhill$Letters" 41 ⟨"GoodsDownhill$Letters", "endOfStatement", "(I)I"⟩ ∈ gtb := gtb_in (tin2 (List.mem_of_getElem? (i := 21) (by decide +kernel))) rfl
theorem w2_210 : Cond.methodLink "GoodsDownhill" 121 ⟨"GoodsDownhill", "isLaw", "(I)Z"⟩ ∈ gtb := gtb_in (tin2 (List.mem_of_getElem? (i := 210) (by decide +kernel))) rfl
theorem w2_215 : Cond.methodLink "GoodsDownhill" 127 ⟨"GoodsDownhill$Land", "areTwo", "(II)Z"⟩ ∈ gtb := gtb_in (tin2 (List.mem_of_getElem? (i := 215) (by decide +kernel))) rfl
theorem w2_216 : Cond.methodLink "GoodsDownhill" 131 ⟨"GoodsDownhill$Land", "isLawful", "(II)Z"⟩ ∈ gtb := gtb_in (tin2 (List.mem_of_getElem? (i := 216) (by decide +kernel))) rfl
theorem w2_217 : Cond.instanceMethod ⟨"GoodsDownhill$Land", "isLawful", "(II)Z"⟩ ∈ gtb := gtb_in (tin2 (List.mem_of_getElem? (i := 217) (by decide +kernel))) rfl
theorem w2_218 : Cond.selects "GoodsDownhill$Land" ⟨"GoodsDownhill$Land", "isLawful", "(II)Z"⟩ ⟨"GoodsDownhill$Land", "isLawful", "(II)Z"⟩ ∈ gtb := gtb_in (tin2 (List.mem_of_getElem? (i := 218) (by decide +kernel))) rfl
theorem w2_219 : Cond.code ⟨"GoodsDownhill$Land", "isLawful", "(II)Z"⟩ prog_8_method_8_code 5 (some .boolean) ∈ gtb := gtb_in (tin2 (List.mem_of_getElem? (i := 219) (by decide +kernel))) rfl
theorem w2_220 : Cond.methodLink "GoodsDownhill$Land" 64 ⟨"GoodsDownhill$House", "buysAt", "()I"⟩ ∈ gtb := gtb_in (tin2 (List.mem_of_getElem? (i := 220) (by decide +kernel))) rfl
theorem w2_221 : Cond.methodLink "GoodsDownhill$Land" 68 ⟨"GoodsDownhill$House", "sellsAt", "()I"⟩ ∈ gtb := gtb_in (tin2 (List.mem_of_getElem? (i := 221) (by decide +kernel))) rfl
theorem w2_226 : Cond.methodLink "GoodsDownhill" 138 ⟨"GoodsDownhill", "sumOf", "([I)I"⟩ ∈ gtb := gtb_in (tin2 (List.mem_of_getElem? (i := 226) (by decide +kernel))) rfl
theorem w2_227 : Cond.static ⟨"GoodsDownhill", "sumOf", "([I)I"⟩ ∈ gtb := gtb_in (tin2 (List.mem_of_getElem? (i := 227) (by decide +kernel))) rfl
theorem w2_228 : Cond.code ⟨"GoodsDownhill", "sumOf", "([I)I"⟩ prog_1_method_36_code 6 (some .int) ∈ gtb := gtb_in (tin2 (List.mem_of_getElem? (i := 228) (by decide +kernel))) rfl
theorem w2_229 : Cond.methodLink "GoodsDownhill" 149 ⟨"GoodsDownhill$Debts", "total", "()I"⟩ ∈ gtb := gtb_in (tin2 (List.mem_of_getElem? (i := 229) (by decide +kernel))) rfl
theorem w2_23 : Cond.instanceMethod ⟨"GoodsDownhill$Letters", "endOfStatement", "(I)I"⟩ ∈ gtb := gtb_in (tin2 (List.mem_of_getElem? (i := 23) (by decide +kernel))) rfl
theorem w2_230 : Cond.instanceMethod ⟨"GoodsDownhill$Debts", "total", "()I"⟩ ∈ gtb := gtb_in (tin2 (List.mem_of_getElem? (i := 230) (by decide +kernel))) rfl
theorem w2_231 : Cond.selects "GoodsDownhill$Debts" ⟨"GoodsDownhill$Debts", "total", "()I"⟩ ⟨"GoodsDownhill$Debts", "total", "()I"⟩ ∈ gtb := gtb_in (tin2 (List.mem_of_getElem? (i := 231) (by decide +kernel))) rfl
theorem w2_232 : Cond.code ⟨"GoodsDownhill$Debts", "total", "()I"⟩ prog_3_method_5_code 1 (some .int) ∈ gtb := gtb_in (tin2 (List.mem_of_getElem? (i := 232) (by decide +kernel))) rfl
theorem w2_234 : Cond.methodLink "GoodsDownhill" 160 ⟨"java/lang/Math", "max", "(II)I"⟩ ∈ gtb := gtb_in (tin2 (List.mem_of_getElem? (i := 234) (by decide +kernel))) rfl
theorem w2_235 : Cond.static ⟨"java/lang/Math", "max", "(II)I"⟩ ∈ gtb := gtb_in (tin2 (List.mem_of_getElem? (i := 235) (by decide +kernel))) rfl
theorem w2_236 : Cond.code ⟨"java/lang/Math", "max", "(II)I"⟩ prog_15_method_65_code 2 (some .int) ∈ gtb := gtb_in (tin2 (List.mem_of_getElem? (i := 236) (by decide +kernel))) rfl
theorem w2_24 : Cond.code ⟨"GoodsDownhill$Letters", "endOfStatement", "(I)I"⟩ prog_9_method_8_code 3 (some .int) ∈ gtb := gtb_in (tin2 (List.mem_of_getElem? (i := 24) (by decide +kernel))) rfl
theorem w2_25 : Cond.methodLink "GoodsDownhill$Letters" 44 ⟨"GoodsDownhill$Letters", "tellHouse", "(LGoodsDownhill$Land;II)Z"⟩ ∈ gtb := gtb_in (tin2 (List.mem_of_getElem? (i := 25) (by decide +kernel))) rfl
theorem w2_27 : Cond.instanceMethod ⟨"GoodsDownhill$Letters", "tellHouse", "(LGoodsDownhill$Land;II)Z"⟩ ∈ gtb := gtb_in (tin2 (List.mem_of_getElem? (i := 27) (by decide +kernel))) rfl
theorem w2_28 : Cond.code ⟨"GoodsDownhill$Letters", "tellHouse", "(LGoodsDownhill$Land;II)Z"⟩ prog_9_method_12_code 11 (some .boolean) ∈ gtb := gtb_in (tin2 (List.mem_of_getElem? (i := 28) (by decide +kernel))) rfl
theorem w2_29 : Cond.methodLink "GoodsDownhill$Letters" 58 ⟨"GoodsDownhill$Letters", "digit", "(I)I"⟩ ∈ gtb := gtb_in (tin2 (List.mem_of_getElem? (i := 29) (by decide +kernel))) rfl
theorem w2_3 : Cond.methodLink "GoodsDownhill" 66 ⟨"GoodsDownhill$Letters", "tellTo", "(LGoodsDownhill$Land;)I"⟩ ∈ gtb := gtb_in (tin2 (List.mem_of_getElem? (i := 3) (by decide +kernel))) rfl
theorem w2_31 : Cond.instanceMethod ⟨"GoodsDownhill$Letters", "digit", "(I)I"⟩ ∈ gtb := gtb_in (tin2 (List.mem_of_getElem? (i := 31) (by decide +kernel))) rfl
theorem w2_32 : Cond.code ⟨"GoodsDownhill$Letters", "digit", "(I)I"⟩ prog_9_method_10_code 2 (some .int) ∈ gtb := gtb_in (tin2 (List.mem_of_getElem? (i := 32) (by decide +kernel))) rfl
theorem w2_33 : Cond.methodLink "GoodsDownhill$Letters" 34 ⟨"GoodsDownhill$Letters", "number", "(II)I"⟩ ∈ gtb := gtb_in (tin2 (List.mem_of_getElem? (i := 33) (by decide +kernel))) rfl
theorem w2_35 : Cond.instanceMethod ⟨"GoodsDownhill$Letters", "number", "(II)I"⟩ ∈ gtb := gtb_in (tin2 (List.mem_of_getElem? (i := 35) (by decide +kernel))) rfl
theorem w2_36 : Cond.code ⟨"GoodsDownhill$Letters", "number", "(II)I"⟩ prog_9_method_9_code 5 (some .int) ∈ gtb := gtb_in (tin2 (List.mem_of_getElem? (i := 36) (by decide +kernel))) rfl
theorem w2_38 : Cond.static ⟨"GoodsDownhill", "isGood", "(I)Z"⟩ ∈ gtb := gtb_in (tin2 (List.mem_of_getElem? (i := 38) (by decide +kernel))) rfl
theorem w2_39 : Cond.code ⟨"GoodsDownhill", "isGood", "(I)Z"⟩ prog_1_method_34_code 1 (some .boolean) ∈ gtb := gtb_in (tin2 (List.mem_of_getElem? (i := 39) (by decide +kernel))) rfl
theorem w2_4 : Cond.instanceMethod ⟨"GoodsDownhill$Letters", "tellTo", "(LGoodsDownhill$Land;)I"⟩ ∈ gtb := gtb_in (tin2 (List.mem_of_getElem? (i := 4) (by decide +kernel))) rfl
theorem w2_40 : Cond.classLink "GoodsDownhill$Letters" 65 "GoodsDownhill$House" ∈ gtb := gtb_in (tin2 (List.mem_of_getElem? (i := 40) (by decide +kernel))) rfl
theorem w2_41 : Cond.methodLink "GoodsDownhill$Letters" 67 ⟨"GoodsDownhill$House", "<init>", "(IIIIII)V"⟩ ∈ gtb := gtb_in (tin2 (List.mem_of_getElem? (i := 41) (by decide +kernel))) rfl
theorem w2_42 : Cond.classLink "GoodsDownhill$Letters" 70 "GoodsDownhill$Cellared" ∈ gtb := gtb_in (tin2 (List.mem_of_getElem? (i := 42) (by decide +kernel))) rfl
theorem w2_43 : Cond.instantiable "GoodsDownhill$Cellared" 6 ∈ gtb := gtb_in (tin2 (List.mem_of_getElem? (i := 43) (by decide +kernel))) rfl
theorem w2_44 : Cond.methodLink "GoodsDownhill$Letters" 72 ⟨"GoodsDownhill$Cellared", "<init>", "(IIIIII)V"⟩ ∈ gtb := gtb_in (tin2 (List.mem_of_getElem? (i := 44) (by decide +kernel))) rfl
theorem w2_45 : Cond.instanceMethod ⟨"GoodsDownhill$Cellared", "<init>", "(IIIIII)V"⟩ ∈ gtb := gtb_in (tin2 (List.mem_of_getElem? (i := 45) (by decide +kernel))) rfl
theorem w2_46 : Cond.code ⟨"GoodsDownhill$Cellared", "<init>", "(IIIIII)V"⟩ prog_2_method_1_code 7 none ∈ gtb := gtb_in (tin2 (List.mem_of_getElem? (i := 46) (by decide +kernel))) rfl
theorem w2_47 : Cond.methodLink "GoodsDownhill$Cellared" 1 ⟨"GoodsDownhill$House", "<init>", "(IIIIII)V"⟩ ∈ gtb := gtb_in (tin2 (List.mem_of_getElem? (i := 47) (by decide +kernel))) rfl
theorem w2_5 : Cond.selects "GoodsDownhill$Letters" ⟨"GoodsDownhill$Letters", "tellTo", "(LGoodsDownhill$Land;)I"⟩ ⟨"GoodsDownhill$Letters", "tellTo", "(LGoodsDownhill$Land;)I"⟩ ∈ gtb := gtb_in (tin2 (List.mem_of_getElem? (i := 5) (by decide +kernel))) rfl
theorem w2_55 : Cond.classLink "GoodsDownhill$Letters" 73 "GoodsDownhill$Joined" ∈ gtb := gtb_in (tin2 (List.mem_of_getElem? (i := 55) (by decide +kernel))) rfl
theorem w2_56 : Cond.instantiable "GoodsDownhill$Joined" 6 ∈ gtb := gtb_in (tin2 (List.mem_of_getElem? (i := 56) (by decide +kernel))) rfl
theorem w2_57 : Cond.methodLink "GoodsDownhill$Letters" 75 ⟨"GoodsDownhill$Joined", "<init>", "(IIIIII)V"⟩ ∈ gtb := gtb_in (tin2 (List.mem_of_getElem? (i := 57) (by decide +kernel))) rfl
theorem w2_58 : Cond.instanceMethod ⟨"GoodsDownhill$Joined", "<init>", "(IIIIII)V"⟩ ∈ gtb := gtb_in (tin2 (List.mem_of_getElem? (i := 58) (by decide +kernel))) rfl
theorem w2_59 : Cond.code ⟨"GoodsDownhill$Joined", "<init>", "(IIIIII)V"⟩ prog_7_method_1_code 7 none ∈ gtb := gtb_in (tin2 (List.mem_of_getElem? (i := 59) (by decide +kernel))) rfl
theorem w2_6 : Cond.code ⟨"GoodsDownhill$Letters", "tellTo", "(LGoodsDownhill$Land;)I"⟩ prog_9_method_11_code 7 (some .int) ∈ gtb := gtb_in (tin2 (List.mem_of_getElem? (i := 6) (by decide +kernel))) rfl
theorem w2_60 : Cond.methodLink "GoodsDownhill$Joined" 1 ⟨"GoodsDownhill$House", "<init>", "(IIIIII)V"⟩ ∈ gtb := gtb_in (tin2 (List.mem_of_getElem? (i := 60) (by decide +kernel))) rfl
theorem w2_68 : Cond.classLink "GoodsDownhill$Letters" 76 "GoodsDownhill$Hermit" ∈ gtb := gtb_in (tin2 (List.mem_of_getElem? (i := 68) (by decide +kernel))) rfl
theorem w2_69 : Cond.instantiable "GoodsDownhill$Hermit" 6 ∈ gtb := gtb_in (tin2 (List.mem_of_getElem? (i := 69) (by decide +kernel))) rfl
theorem w2_7 : Cond.methodLink "GoodsDownhill$Letters" 37 ⟨"GoodsDownhill$Letters", "firstWrongPlace", "()I"⟩ ∈ gtb := gtb_in (tin2 (List.mem_of_getElem? (i := 7) (by decide +kernel))) rfl
theorem w2_70 : Cond.methodLink "GoodsDownhill$Letters" 78 ⟨"GoodsDownhill$Hermit", "<init>", "(IIIIII)V"⟩ ∈ gtb := gtb_in (tin2 (List.mem_of_getElem? (i := 70) (by decide +kernel))) rfl
theorem w2_71 : Cond.instanceMethod ⟨"GoodsDownhill$Hermit", "<init>", "(IIIIII)V"⟩ ∈ gtb := gtb_in (tin2 (List.mem_of_getElem? (i := 71) (by decide +kernel))) rfl
theorem w2_72 : Cond.code ⟨"GoodsDownhill$Hermit", "<init>", "(IIIIII)V"⟩ prog_5_method_1_code 7 none ∈ gtb := gtb_in (tin2 (List.mem_of_getElem? (i := 72) (by decide +kernel))) rfl
theorem w2_73 : Cond.methodLink "GoodsDownhill$Hermit" 3 ⟨"GoodsDownhill$House", "<init>", "(IIIIII)V"⟩ ∈ gtb := gtb_in (tin2 (List.mem_of_getElem? (i := 73) (by decide +kernel))) rfl
theorem w2_8 : Cond.instanceMethod ⟨"GoodsDownhill$Letters", "firstWrongPlace", "()I"⟩ ∈ gtb := gtb_in (tin2 (List.mem_of_getElem? (i := 8) (by decide +kernel))) rfl
theorem w2_81 : Cond.classLink "GoodsDownhill$Letters" 79 "GoodsDownhill$Market" ∈ gtb := gtb_in (tin2 (List.mem_of_getElem? (i := 81) (by decide +kernel))) rfl
theorem w2_82 : Cond.instantiable "GoodsDownhill$Market" 6 ∈ gtb := gtb_in (tin2 (List.mem_of_getElem? (i := 82) (by decide +kernel))) rfl
theorem w2_83 : Cond.methodLink "GoodsDownhill$Letters" 81 ⟨"GoodsDownhill$Market", "<init>", "(IIIIII)V"⟩ ∈ gtb := gtb_in (tin2 (List.mem_of_getElem? (i := 83) (by decide +kernel))) rfl
theorem w2_84 : Cond.instanceMethod ⟨"GoodsDownhill$Market", "<init>", "(IIIIII)V"⟩ ∈ gtb := gtb_in (tin2 (List.mem_of_getElem? (i := 84) (by decide +kernel))) rfl
theorem w2_85 : Cond.code ⟨"GoodsDownhill$Market", "<init>", "(IIIIII)V"⟩ prog_10_method_1_code 7 none ∈ gtb := gtb_in (tin2 (List.mem_of_getElem? (i := 85) (by decide +kernel))) rfl
theorem w2_86 : Cond.methodLink "GoodsDownhill$Market" 1 ⟨"GoodsDownhill$Cellared", "<init>", "(IIIIII)V"⟩ ∈ gtb := gtb_in (tin2 (List.mem_of_getElem? (i := 86) (by decide +kernel))) rfl
theorem w2_9 : Cond.selects "GoodsDownhill$Letters" ⟨"GoodsDownhill$Letters", "firstWrongPlace", "()I"⟩ ⟨"GoodsDownhill$Letters", "firstWrongPlace", "()I"⟩ ∈ gtb := gtb_in (tin2 (List.mem_of_getElem? (i := 9) (by decide +kernel))) rfl
theorem w2_94 : Cond.classLink "GoodsDownhill$Letters" 82 "GoodsDownhill$Feigned" ∈ gtb := gtb_in (tin2 (List.mem_of_getElem? (i := 94) (by decide +kernel))) rfl
theorem w2_95 : Cond.instantiable "GoodsDownhill$Feigned" 6 ∈ gtb := gtb_in (tin2 (List.mem_of_getElem? (i := 95) (by decide +kernel))) rfl
theorem w2_96 : Cond.methodLink "GoodsDownhill$Letters" 84 ⟨"GoodsDownhill$Feigned", "<init>", "(IIIIII)V"⟩ ∈ gtb := gtb_in (tin2 (List.mem_of_getElem? (i := 96) (by decide +kernel))) rfl
theorem w2_97 : Cond.instanceMethod ⟨"GoodsDownhill$Feigned", "<init>", "(IIIIII)V"⟩ ∈ gtb := gtb_in (tin2 (List.mem_of_getElem? (i := 97) (by decide +kernel))) rfl
theorem w2_98 : Cond.code ⟨"GoodsDownhill$Feigned", "<init>", "(IIIIII)V"⟩ prog_4_method_1_code 7 none ∈ gtb := gtb_in (tin2 (List.mem_of_getElem? (i := 98) (by decide +kernel))) rfl
theorem w2_99 : Cond.methodLink "GoodsDownhill$Feigned" 1 ⟨"GoodsDownhill$Market", "<init>", "(IIIIII)V"⟩ ∈ gtb := gtb_in (tin2 (List.mem_of_getElem? (i := 99) (by decide +kernel))) rfl
theorem w3_1 : Cond.methodLink "GoodsDownhill" 165 ⟨"GoodsDownhill$Land", "trySale", "(III)Z"⟩ ∈ gtb := gtb_in (tin3 (List.mem_of_getElem? (i := 1) (by decide +kernel))) rfl
theorem w3_10 : Cond.instanceMethod ⟨"GoodsDownhill$Land", "hasMeans", "(III)Z"⟩ ∈ gtb := gtb_in (tin3 (List.mem_of_getElem? (i := 10) (by decide +kernel))) rfl
theorem w3_100 : Cond.methodLink "GoodsDownhill$Debts" 32 ⟨"GoodsDownhill$Debts", "strikeThree", "(III)I"⟩ ∈ gtb := gtb_in (tin3 (List.mem_of_getElem? (i := 100) (by decide +kernel))) rfl
theorem w3_102 : Cond.instanceMethod ⟨"GoodsDownhill$Debts", "strikeThree", "(III)I"⟩ ∈ gtb := gtb_in (tin3 (List.mem_of_getElem? (i := 102) (by decide +kernel))) rfl
theorem w3_103 : Cond.code ⟨"GoodsDownhill$Debts", "strikeThree", "(III)I"⟩ prog_3_method_9_code 5 (some .int) ∈ gtb := gtb_in (tin3 (List.mem_of_getElem? (i := 103) (by decide +kernel))) rfl
theorem w3_108 : Cond.methodLink "GoodsDownhill" 189 ⟨"GoodsDownhill", "passInMind", "(IILGoodsDownhill$Tally;)V"⟩ ∈ gtb := gtb_in (tin3 (List.mem_of_getElem? (i := 108) (by decide +kernel))) rfl
theorem w3_11 : Cond.code ⟨"GoodsDownhill$Land", "hasMeans", "(III)Z"⟩ prog_8_method_9_code 4 (some .boolean) ∈ gtb := gtb_in (tin3 (List.mem_of_getElem? (i := 11) (by decide +kernel))) rfl
theorem w3_110 : Cond.instanceMethod ⟨"GoodsDownhill", "passInMind", "(IILGoodsDownhill$Tally;)V"⟩ ∈ gtb := gtb_in (tin3 (List.mem_of_getElem? (i := 110) (by decide +kernel))) rfl
theorem w3_111 : Cond.code ⟨"GoodsDownhill", "passInMind", "(IILGoodsDownhill$Tally;)V"⟩ prog_1_method_19_code 5 none ∈ gtb := gtb_in (tin3 (List.mem_of_getElem? (i := 111) (by decide +kernel))) rfl
theorem w3_12 : Cond.methodLink "GoodsDownhill$Land" 71 ⟨"GoodsDownhill$Land", "piecesOf", "(II)I"⟩ ∈ gtb := gtb_in (tin3 (List.mem_of_getElem? (i := 12) (by decide +kernel))) rfl
theorem w3_120 : Cond.methodLink "GoodsDownhill" 196 ⟨"GoodsDownhill$Land", "richest", "()I"⟩ ∈ gtb := gtb_in (tin3 (List.mem_of_getElem? (i := 120) (by decide +kernel))) rfl
theorem w3_121 : Cond.instanceMethod ⟨"GoodsDownhill$Land", "richest", "()I"⟩ ∈ gtb := gtb_in (tin3 (List.mem_of_getElem? (i := 121) (by decide +kernel))) rfl
theorem w3_122 : Cond.selects "GoodsDownhill$Land" ⟨"GoodsDownhill$Land", "richest", "()I"⟩ ⟨"GoodsDownhill$Land", "richest", "()I"⟩ ∈ gtb := gtb_in (tin3 (List.mem_of_getElem? (i := 122) (by decide +kernel))) rfl
theorem w3_123 : Cond.code ⟨"GoodsDownhill$Land", "richest", "()I"⟩ prog_8_method_17_code 3 (some .int) ∈ gtb := gtb_in (tin3 (List.mem_of_getElem? (i := 123) (by decide +kernel))) rfl
theorem w3_13 : Cond.methodLink "GoodsDownhill$Land" 93 ⟨"GoodsDownhill$Land", "moveOnePiece", "(III)V"⟩ ∈ gtb := gtb_in (tin3 (List.mem_of_getElem? (i := 13) (by decide +kernel))) rfl
theorem w3_136 : Cond.methodLink "GoodsDownhill" 205 ⟨"GoodsDownhill", "nextSeed", "(I)I"⟩ ∈ gtb := gtb_in (tin3 (List.mem_of_getElem? (i := 136) (by decide +kernel))) rfl
theorem w3_137 : Cond.static ⟨"GoodsDownhill", "nextSeed", "(I)I"⟩ ∈ gtb := gtb_in (tin3 (List.mem_of_getElem? (i := 137) (by decide +kernel))) rfl
theorem w3_138 : Cond.code ⟨"GoodsDownhill", "nextSeed", "(I)I"⟩ prog_1_method_22_code 1 (some .int) ∈ gtb := gtb_in (tin3 (List.mem_of_getElem? (i := 138) (by decide +kernel))) rfl
theorem w3_139 : Cond.constant "GoodsDownhill" 211 1103515245 ∈ gtb := gtb_in (tin3 (List.mem_of_getElem? (i := 139) (by decide +kernel))) rfl
theorem w3_140 : Cond.methodLink "GoodsDownhill" 208 ⟨"GoodsDownhill", "drawBelow", "(II)I"⟩ ∈ gtb := gtb_in (tin3 (List.mem_of_getElem? (i := 140) (by decide +kernel))) rfl
theorem w3_141 : Cond.static ⟨"GoodsDownhill", "drawBelow", "(II)I"⟩ ∈ gtb := gtb_in (tin3 (List.mem_of_getElem? (i := 141) (by decide +kernel))) rfl
theorem w3_142 : Cond.code ⟨"GoodsDownhill", "drawBelow", "(II)I"⟩ prog_1_method_23_code 2 (some .int) ∈ gtb := gtb_in (tin3 (List.mem_of_getElem? (i := 142) (by decide +kernel))) rfl
theorem w3_143 : Cond.constant "GoodsDownhill" 212 2147483647 ∈ gtb := gtb_in (tin3 (List.mem_of_getElem? (i := 143) (by decide +kernel))) rfl
theorem w3_144 : Cond.constant "GoodsDownhill" 213 65536 ∈ gtb := gtb_in (tin3 (List.mem_of_getElem? (i := 144) (by decide +kernel))) rfl
theorem w3_149 : Cond.methodLink "GoodsDownhill" 214 ⟨"GoodsDownhill$Trade", "stuckOf", "(LGoodsDownhill$Land;I)I"⟩ ∈ gtb := gtb_in (tin3 (List.mem_of_getElem? (i := 149) (by decide +kernel))) rfl
theorem w3_15 : Cond.instanceMethod ⟨"GoodsDownhill$Land", "moveOnePiece", "(III)V"⟩ ∈ gtb := gtb_in (tin3 (List.mem_of_getElem? (i := 15) (by decide +kernel))) rfl
theorem w3_150 : Cond.static ⟨"GoodsDownhill$Trade", "stuckOf", "(LGoodsDownhill$Land;I)I"⟩ ∈ gtb := gtb_in (tin3 (List.mem_of_getElem? (i := 150) (by decide +kernel))) rfl
theorem w3_151 : Cond.code ⟨"GoodsDownhill$Trade", "stuckOf", "(LGoodsDownhill$Land;I)I"⟩ prog_12_method_2_code 4 (some .int) ∈ gtb := gtb_in (tin3 (List.mem_of_getElem? (i := 151) (by decide +kernel))) rfl
theorem w3_152 : Cond.methodLink "GoodsDownhill$Trade" 19 ⟨"GoodsDownhill$House", "wantsSome", "(I)Z"⟩ ∈ gtb := gtb_in (tin3 (List.mem_of_getElem? (i := 152) (by decide +kernel))) rfl
theorem w3_153 : Cond.methodLink "GoodsDownhill$Trade" 25 ⟨"GoodsDownhill$Trade", "hasBuyer", "(LGoodsDownhill$Land;II)Z"⟩ ∈ gtb := gtb_in (tin3 (List.mem_of_getElem? (i := 153) (by decide +kernel))) rfl
theorem w3_154 : Cond.static ⟨"GoodsDownhill$Trade", "hasBuyer", "(LGoodsDownhill$Land;II)Z"⟩ ∈ gtb := gtb_in (tin3 (List.mem_of_getElem? (i := 154) (by decide +kernel))) rfl
theorem w3_155 : Cond.code ⟨"GoodsDownhill$Trade", "hasBuyer", "(LGoodsDownhill$Land;II)Z"⟩ prog_12_method_3_code 4 (some .boolean) ∈ gtb := gtb_in (tin3 (List.mem_of_getElem? (i := 155) (by decide +kernel))) rfl
theorem w3_156 : Cond.methodLink "GoodsDownhill$Trade" 35 ⟨"GoodsDownhill$Land", "isLawful", "(II)Z"⟩ ∈ gtb := gtb_in (tin3 (List.mem_of_getElem? (i := 156) (by decide +kernel))) rfl
theorem w3_157 : Cond.methodLink "GoodsDownhill$Trade" 31 ⟨"GoodsDownhill$Land", "piecesOf", "(II)I"⟩ ∈ gtb := gtb_in (tin3 (List.mem_of_getElem? (i := 157) (by decide +kernel))) rfl
theorem w3_16 : Cond.code ⟨"GoodsDownhill$Land", "moveOnePiece", "(III)V"⟩ prog_8_method_10_code 4 none ∈ gtb := gtb_in (tin3 (List.mem_of_getElem? (i := 16) (by decide +kernel))) rfl
theorem w3_162 : Cond.methodLink "GoodsDownhill" 220 ⟨"GoodsDownhill$Trade", "mostOf", "(LGoodsDownhill$Land;I)I"⟩ ∈ gtb := gtb_in (tin3 (List.mem_of_getElem? (i := 162) (by decide +kernel))) rfl
theorem w3_163 : Cond.static ⟨"GoodsDownhill$Trade", "mostOf", "(LGoodsDownhill$Land;I)I"⟩ ∈ gtb := gtb_in (tin3 (List.mem_of_getElem? (i := 163) (by decide +kernel))) rfl
theorem w3_164 : Cond.code ⟨"GoodsDownhill$Trade", "mostOf", "(LGoodsDownhill$Land;I)I"⟩ prog_12_method_4_code 4 (some .int) ∈ gtb := gtb_in (tin3 (List.mem_of_getElem? (i := 164) (by decide +kernel))) rfl
theorem w3_165 : Cond.methodLink "GoodsDownhill$Trade" 39 ⟨"GoodsDownhill$Trade", "cutBeside", "(LGoodsDownhill$Land;II)I"⟩ ∈ gtb := gtb_in (tin3 (List.mem_of_getElem? (i := 165) (by decide +kernel))) rfl
theorem w3_166 : Cond.static ⟨"GoodsDownhill$Trade", "cutBeside", "(LGoodsDownhill$Land;II)I"⟩ ∈ gtb := gtb_in (tin3 (List.mem_of_getElem? (i := 166) (by decide +kernel))) rfl
theorem w3_167 : Cond.code ⟨"GoodsDownhill$Trade", "cutBeside", "(LGoodsDownhill$Land;II)I"⟩ prog_12_method_5_code 5 (some .int) ∈ gtb := gtb_in (tin3 (List.mem_of_getElem? (i := 167) (by decide +kernel))) rfl
theorem w3_168 : Cond.methodLink "GoodsDownhill$Trade" 48 ⟨"GoodsDownhill$Trade", "hasSellerAmong", "(LGoodsDownhill$Land;III)Z"⟩ ∈ gtb := gtb_in (tin3 (List.mem_of_getElem? (i := 168) (by decide +kernel))) rfl
theorem w3_169 : Cond.static ⟨"GoodsDownhill$Trade", "hasSellerAmong", "(LGoodsDownhill$Land;III)Z"⟩ ∈ gtb := gtb_in (tin3 (List.mem_of_getElem? (i := 169) (by decide +kernel))) rfl
theorem w3_17 : Cond.methodLink "GoodsDownhill$Land" 75 ⟨"GoodsDownhill$Land", "addPieces", "(III)V"⟩ ∈ gtb := gtb_in (tin3 (List.mem_of_getElem? (i := 17) (by decide +kernel))) rfl
theorem w3_170 : Cond.code ⟨"GoodsDownhill$Trade", "hasSellerAmong", "(LGoodsDownhill$Land;III)Z"⟩ prog_12_method_6_code 5 (some .boolean) ∈ gtb := gtb_in (tin3 (List.mem_of_getElem? (i := 170) (by decide +kernel))) rfl
theorem w3_171 : Cond.methodLink "GoodsDownhill$Trade" 43 ⟨"java/lang/Math", "min", "(II)I"⟩ ∈ gtb := gtb_in (tin3 (List.mem_of_getElem? (i := 171) (by decide +kernel))) rfl
theorem w3_176 : Cond.constant "GoodsDownhill" 223 1000000000 ∈ gtb := gtb_in (tin3 (List.mem_of_getElem? (i := 176) (by decide +kernel))) rfl
theorem w3_177 : Cond.methodLink "GoodsDownhill" 224 ⟨"GoodsDownhill$Cellared", "insteadOf", "(LGoodsDownhill$House;I)LGoodsDownhill$House;"⟩ ∈ gtb := gtb_in (tin3 (List.mem_of_getElem? (i := 177) (by decide +kernel))) rfl
theorem w3_178 : Cond.static ⟨"GoodsDownhill$Cellared", "insteadOf", "(LGoodsDownhill$House;I)LGoodsDownhill$House;"⟩ ∈ gtb := gtb_in (tin3 (List.mem_of_getElem? (i := 178) (by decide +kernel))) rfl
theorem w3_179 : Cond.code ⟨"GoodsDownhill$Cellared", "insteadOf", "(LGoodsDownhill$House;I)LGoodsDownhill$House;"⟩ prog_2_method_2_code 2 (some (.object "GoodsDownhill$House")) ∈ gtb := gtb_in (tin3 (List.mem_of_getElem? (i := 179) (by decide +kernel))) rfl
theorem w3_180 : Cond.classLink "GoodsDownhill$Cellared" 7 "GoodsDownhill$Cellared" ∈ gtb := gtb_in (tin3 (List.mem_of_getElem? (i := 180) (by decide +kernel))) rfl
theorem w3_181 : Cond.methodLink "GoodsDownhill$Cellared" 25 ⟨"GoodsDownhill$Cellared", "<init>", "(IIIIII)V"⟩ ∈ gtb := gtb_in (tin3 (List.mem_of_getElem? (i := 181) (by decide +kernel))) rfl
theorem w3_186 : Cond.methodLink "GoodsDownhill" 230 ⟨"GoodsDownhill$Trade", "ways", "(LGoodsDownhill$Land;II)I"⟩ ∈ gtb := gtb_in (tin3 (List.mem_of_getElem? (i := 186) (by decide +kernel))) rfl
theorem w3_187 : Cond.static ⟨"GoodsDownhill$Trade", "ways", "(LGoodsDownhill$Land;II)I"⟩ ∈ gtb := gtb_in (tin3 (List.mem_of_getElem? (i := 187) (by decide +kernel))) rfl
theorem w3_188 : Cond.code ⟨"GoodsDownhill$Trade", "ways", "(LGoodsDownhill$Land;II)I"⟩ prog_12_method_7_code 3 (some .int) ∈ gtb := gtb_in (tin3 (List.mem_of_getElem? (i := 188) (by decide +kernel))) rfl
theorem w3_189 : Cond.methodLink "GoodsDownhill$Trade" 55 ⟨"GoodsDownhill$Trade", "waysOn", "(LGoodsDownhill$Land;IIII)I"⟩ ∈ gtb := gtb_in (tin3 (List.mem_of_getElem? (i := 189) (by decide +kernel))) rfl
theorem w3_19 : Cond.instanceMethod ⟨"GoodsDownhill$Land", "addPieces", "(III)V"⟩ ∈ gtb := gtb_in (tin3 (List.mem_of_getElem? (i := 19) (by decide +kernel))) rfl
theorem w3_190 : Cond.static ⟨"GoodsDownhill$Trade", "waysOn", "(LGoodsDownhill$Land;IIII)I"⟩ ∈ gtb := gtb_in (tin3 (List.mem_of_getElem? (i := 190) (by decide +kernel))) rfl
theorem w3_191 : Cond.code ⟨"GoodsDownhill$Trade", "waysOn", "(LGoodsDownhill$Land;IIII)I"⟩ prog_12_method_8_code 7 (some .int) ∈ gtb := gtb_in (tin3 (List.mem_of_getElem? (i := 191) (by decide +kernel))) rfl
theorem w3_192 : Cond.methodLink "GoodsDownhill" 234 ⟨"GoodsDownhill$Trade", "fewestSales", "(LGoodsDownhill$Land;II)I"⟩ ∈ gtb := gtb_in (tin3 (List.mem_of_getElem? (i := 192) (by decide +kernel))) rfl
theorem w3_193 : Cond.static ⟨"GoodsDownhill$Trade", "fewestSales", "(LGoodsDownhill$Land;II)I"⟩ ∈ gtb := gtb_in (tin3 (List.mem_of_getElem? (i := 193) (by decide +kernel))) rfl
theorem w3_194 : Cond.code ⟨"GoodsDownhill$Trade", "fewestSales", "(LGoodsDownhill$Land;II)I"⟩ prog_12_method_9_code 5 (some .int) ∈ gtb := gtb_in (tin3 (List.mem_of_getElem? (i := 194) (by decide +kernel))) rfl
theorem w3_195 : Cond.methodLink "GoodsDownhill$Trade" 59 ⟨"GoodsDownhill$Trade", "oneSaleBehind", "(LGoodsDownhill$Land;I)I"⟩ ∈ gtb := gtb_in (tin3 (List.mem_of_getElem? (i := 195) (by decide +kernel))) rfl
theorem w3_196 : Cond.static ⟨"GoodsDownhill$Trade", "oneSaleBehind", "(LGoodsDownhill$Land;I)I"⟩ ∈ gtb := gtb_in (tin3 (List.mem_of_getElem? (i := 196) (by decide +kernel))) rfl
theorem w3_197 : Cond.code ⟨"GoodsDownhill$Trade", "oneSaleBehind", "(LGoodsDownhill$Land;I)I"⟩ prog_12_method_10_code 5 (some .int) ∈ gtb := gtb_in (tin3 (List.mem_of_getElem? (i := 197) (by decide +kernel))) rfl
theorem w3_2 : Cond.instanceMethod ⟨"GoodsDownhill$Land", "trySale", "(III)Z"⟩ ∈ gtb := gtb_in (tin3 (List.mem_of_getElem? (i := 2) (by decide +kernel))) rfl
theorem w3_20 : Cond.code ⟨"GoodsDownhill$Land", "addPieces", "(III)V"⟩ prog_8_method_7_code 4 none ∈ gtb := gtb_in (tin3 (List.mem_of_getElem? (i := 20) (by decide +kernel))) rfl
theorem w3_202 : Cond.methodLink "GoodsDownhill" 237 ⟨"GoodsDownhill$Debts", "owedTo", "(I)I"⟩ ∈ gtb := gtb_in (tin3 (List.mem_of_getElem? (i := 202) (by decide +kernel))) rfl
theorem w3_203 : Cond.instanceMethod ⟨"GoodsDownhill$Debts", "owedTo", "(I)I"⟩ ∈ gtb := gtb_in (tin3 (List.mem_of_getElem? (i := 203) (by decide +kernel))) rfl
theorem w3_204 : Cond.selects "GoodsDownhill$Debts" ⟨"GoodsDownhill$Debts", "owedTo", "(I)I"⟩ ⟨"GoodsDownhill$Debts", "owedTo", "(I)I"⟩ ∈ gtb := gtb_in (tin3 (List.mem_of_getElem? (i := 204) (by decide +kernel))) rfl
theorem w3_205 : Cond.code ⟨"GoodsDownhill$Debts", "owedTo", "(I)I"⟩ prog_3_method_6_code 4 (some .int) ∈ gtb := gtb_in (tin3 (List.mem_of_getElem? (i := 205) (by decide +kernel))) rfl
theorem w3_227 : Cond.methodLink "GoodsDownhillModel" 1 ⟨"java/lang/Object", "<init>", "()V"⟩ ∈ gtb := gtb_in (tin3 (List.mem_of_getElem? (i := 227) (by decide +kernel))) rfl
theorem w3_228 : Cond.fieldLink "GoodsDownhillModel" 77 "GoodsDownhillModel" "houses" "I" ∈ gtb := gtb_in (tin3 (List.mem_of_getElem? (i := 228) (by decide +kernel))) rfl
theorem w3_229 : Cond.fieldLink "GoodsDownhillModel" 97 "GoodsDownhillModel" "law" "I" ∈ gtb := gtb_in (tin3 (List.mem_of_getElem? (i := 229) (by decide +kernel))) rfl
theorem w3_230 : Cond.fieldLink "GoodsDownhillModel" 122 "GoodsDownhillModel" "weeks" "I" ∈ gtb := gtb_in (tin3 (List.mem_of_getElem? (i := 230) (by decide +kernel))) rfl
theorem w3_231 : Cond.fieldLink "GoodsDownhillModel" 153 "GoodsDownhillModel" "muleWeek" "I" ∈ gtb := gtb_in (tin3 (List.mem_of_getElem? (i := 231) (by decide +kernel))) rfl
theorem w3_232 : Cond.fieldLink "GoodsDownhillModel" 7 "GoodsDownhillModel" "kinds" "[I" ∈ gtb := gtb_in (tin3 (List.mem_of_getElem? (i := 232) (by decide +kernel))) rfl
theorem w3_233 : Cond.fieldLink "GoodsDownhillModel" 13 "GoodsDownhillModel" "figures" "[I" ∈ gtb := gtb_in (tin3 (List.mem_of_getElem? (i := 233) (by decide +kernel))) rfl
theorem w3_234 : Cond.fieldLink "GoodsDownhillModel" 16 "GoodsDownhillModel" "heights" "[I" ∈ gtb := gtb_in (tin3 (List.mem_of_getElem? (i := 234) (by decide +kernel))) rfl
theorem w3_235 : Cond.fieldLink "GoodsDownhillModel" 19 "GoodsDownhillModel" "madeGood" "[I" ∈ gtb := gtb_in (tin3 (List.mem_of_getElem? (i := 235) (by decide +kernel))) rfl
theorem w3_236 : Cond.fieldLink "GoodsDownhillModel" 22 "GoodsDownhillModel" "madeMany" "[I" ∈ gtb := gtb_in (tin3 (List.mem_of_getElem? (i := 236) (by decide +kernel))) rfl
theorem w3_237 : Cond.fieldLink "GoodsDownhillModel" 25 "GoodsDownhillModel" "wantGood" "[I" ∈ gtb := gtb_in (tin3 (List.mem_of_getElem? (i := 237) (by decide +kernel))) rfl
theorem w3_238 : Cond.fieldLink "GoodsDownhillModel" 28 "GoodsDownhillModel" "wantMany" "[I" ∈ gtb := gtb_in (tin3 (List.mem_of_getElem? (i := 238) (by decide +kernel))) rfl
theorem w3_239 : Cond.fieldLink "GoodsDownhillModel" 31 "GoodsDownhillModel" "coins" "[I" ∈ gtb := gtb_in (tin3 (List.mem_of_getElem? (i := 239) (by decide +kernel))) rfl
theorem w3_25 : Cond.methodLink "GoodsDownhill" 169 ⟨"GoodsDownhill$Tally", "clear", "()V"⟩ ∈ gtb := gtb_in (tin3 (List.mem_of_getElem? (i := 25) (by decide +kernel))) rfl
theorem w3_26 : Cond.instanceMethod ⟨"GoodsDownhill$Tally", "clear", "()V"⟩ ∈ gtb := gtb_in (tin3 (List.mem_of_getElem? (i := 26) (by decide +kernel))) rfl
theorem w3_27 : Cond.selects "GoodsDownhill$Tally" ⟨"GoodsDownhill$Tally", "clear", "()V"⟩ ⟨"GoodsDownhill$Tally", "clear", "()V"⟩ ∈ gtb := gtb_in (tin3 (List.mem_of_getElem? (i := 27) (by decide +kernel))) rfl
theorem w3_28 : Cond.code ⟨"GoodsDownhill$Tally", "clear", "()V"⟩ prog_11_method_2_code 2 none ∈ gtb := gtb_in (tin3 (List.mem_of_getElem? (i := 28) (by decide +kernel))) rfl
theorem w3_29 : Cond.methodLink "GoodsDownhill$Tally" 19 ⟨"GoodsDownhill$Tally", "beginWeek", "()V"⟩ ∈ gtb := gtb_in (tin3 (List.mem_of_getElem? (i := 29) (by decide +kernel))) rfl
theorem w3_3 : Cond.selects "GoodsDownhill$Land" ⟨"GoodsDownhill$Land", "trySale", "(III)Z"⟩ ⟨"GoodsDownhill$Land", "trySale", "(III)Z"⟩ ∈ gtb := gtb_in (tin3 (List.mem_of_getElem? (i := 3) (by decide +kernel))) rfl
theorem w3_30 : Cond.instanceMethod ⟨"GoodsDownhill$Tally", "beginWeek", "()V"⟩ ∈ gtb := gtb_in (tin3 (List.mem_of_getElem? (i := 30) (by decide +kernel))) rfl
theorem w3_31 : Cond.selects "GoodsDownhill$Tally" ⟨"GoodsDownhill$Tally", "beginWeek", "()V"⟩ ⟨"GoodsDownhill$Tally", "beginWeek", "()V"⟩ ∈ gtb := gtb_in (tin3 (List.mem_of_getElem? (i := 31) (by decide +kernel))) rfl
theorem w3_32 : Cond.code ⟨"GoodsDownhill$Tally", "beginWeek", "()V"⟩ prog_11_method_3_code 1 none ∈ gtb := gtb_in (tin3 (List.mem_of_getElem? (i := 32) (by decide +kernel))) rfl
theorem w3_33 : Cond.methodLink "GoodsDownhill" 172 ⟨"GoodsDownhill$Land", "passWeek", "(LGoodsDownhill$Tally;)V"⟩ ∈ gtb := gtb_in (tin3 (List.mem_of_getElem? (i := 33) (by decide +kernel))) rfl
theorem w3_34 : Cond.instanceMethod ⟨"GoodsDownhill$Land", "passWeek", "(LGoodsDownhill$Tally;)V"⟩ ∈ gtb := gtb_in (tin3 (List.mem_of_getElem? (i := 34) (by decide +kernel))) rfl
theorem w3_35 : Cond.selects "GoodsDownhill$Land" ⟨"GoodsDownhill$Land", "passWeek", "(LGoodsDownhill$Tally;)V"⟩ ⟨"GoodsDownhill$Land", "passWeek", "(LGoodsDownhill$Tally;)V"⟩ ∈ gtb := gtb_in (tin3 (List.mem_of_getElem? (i := 35) (by decide +kernel))) rfl
theorem w3_36 : Cond.code ⟨"GoodsDownhill$Land", "passWeek", "(LGoodsDownhill$Tally;)V"⟩ prog_8_method_12_code 3 none ∈ gtb := gtb_in (tin3 (List.mem_of_getElem? (i := 36) (by decide +kernel))) rfl
theorem w3_37 : Cond.methodLink "GoodsDownhill$Land" 96 ⟨"GoodsDownhill$Tally", "beginWeek", "()V"⟩ ∈ gtb := gtb_in (tin3 (List.mem_of_getElem? (i := 37) (by decide +kernel))) rfl
theorem w3_38 : Cond.methodLink "GoodsDownhill$Land" 101 ⟨"GoodsDownhill$Land", "makeGoods", "(I)V"⟩ ∈ gtb := gtb_in (tin3 (List.mem_of_getElem? (i := 38) (by decide +kernel))) rfl
theorem w3_4 : Cond.code ⟨"GoodsDownhill$Land", "trySale", "(III)Z"⟩ prog_8_method_11_code 4 (some .boolean) ∈ gtb := gtb_in (tin3 (List.mem_of_getElem? (i := 4) (by decide +kernel))) rfl
theorem w3_40 : Cond.instanceMethod ⟨"GoodsDownhill$Land", "makeGoods", "(I)V"⟩ ∈ gtb := gtb_in (tin3 (List.mem_of_getElem? (i := 40) (by decide +kernel))) rfl
theorem w3_41 : Cond.code ⟨"GoodsDownhill$Land", "makeGoods", "(I)V"⟩ prog_8_method_13_code 4 none ∈ gtb := gtb_in (tin3 (List.mem_of_getElem? (i := 41) (by decide +kernel))) rfl
theorem w3_42 : Cond.methodLink "GoodsDownhill$Land" 127 ⟨"java/lang/Math", "min", "(II)I"⟩ ∈ gtb := gtb_in (tin3 (List.mem_of_getElem? (i := 42) (by decide +kernel))) rfl
theorem w3_43 : Cond.static ⟨"java/lang/Math", "min", "(II)I"⟩ ∈ gtb := gtb_in (tin3 (List.mem_of_getElem? (i := 43) (by decide +kernel))) rfl
theorem w3_44 : Cond.code ⟨"java/lang/Math", "min", "(II)I"⟩ prog_15_method_69_code 2 (some .int) ∈ gtb := gtb_in (tin3 (List.mem_of_getElem? (i := 44) (by decide +kernel))) rfl
theorem w3_45 : Cond.methodLink "GoodsDownhill$Land" 108 ⟨"GoodsDownhill$Land", "buyWanted", "(I)I"⟩ ∈ gtb := gtb_in (tin3 (List.mem_of_getElem? (i := 45) (by decide +kernel))) rfl
theorem w3_47 : Cond.instanceMethod ⟨"GoodsDownhill$Land", "buyWanted", "(I)I"⟩ ∈ gtb := gtb_in (tin3 (List.mem_of_getElem? (i := 47) (by decide +kernel))) rfl
theorem w3_48 : Cond.code ⟨"GoodsDownhill$Land", "buyWanted", "(I)I"⟩ prog_8_method_14_code 6 (some .int) ∈ gtb := gtb_in (tin3 (List.mem_of_getElem? (i := 48) (by decide +kernel))) rfl
theorem w3_49 : Cond.methodLink "GoodsDownhill$Land" 135 ⟨"GoodsDownhill$Land", "fullestSellerTo", "(II)I"⟩ ∈ gtb := gtb_in (tin3 (List.mem_of_getElem? (i := 49) (by decide +kernel))) rfl
theorem w3_5 : Cond.methodLink "GoodsDownhill$Land" 79 ⟨"GoodsDownhill$Land", "areTwo", "(II)Z"⟩ ∈ gtb := gtb_in (tin3 (List.mem_of_getElem? (i := 5) (by decide +kernel))) rfl
theorem w3_51 : Cond.instanceMethod ⟨"GoodsDownhill$Land", "fullestSellerTo", "(II)I"⟩ ∈ gtb := gtb_in (tin3 (List.mem_of_getElem? (i := 51) (by decide +kernel))) rfl
theorem w3_52 : Cond.code ⟨"GoodsDownhill$Land", "fullestSellerTo", "(II)I"⟩ prog_8_method_15_code 5 (some .int) ∈ gtb := gtb_in (tin3 (List.mem_of_getElem? (i := 52) (by decide +kernel))) rfl
theorem w3_53 : Cond.methodLink "GoodsDownhill$Land" 141 ⟨"GoodsDownhill$House", "wantsSome", "(I)Z"⟩ ∈ gtb := gtb_in (tin3 (List.mem_of_getElem? (i := 53) (by decide +kernel))) rfl
theorem w3_54 : Cond.instanceMethod ⟨"GoodsDownhill$House", "wantsSome", "(I)Z"⟩ ∈ gtb := gtb_in (tin3 (List.mem_of_getElem? (i := 54) (by decide +kernel))) rfl
theorem w3_55 : Cond.selects "GoodsDownhill$House" ⟨"GoodsDownhill$House", "wantsSome", "(I)Z"⟩ ⟨"GoodsDownhill$House", "wantsSome", "(I)Z"⟩ ∈ gtb := gtb_in (tin3 (List.mem_of_getElem? (i := 55) (by decide +kernel))) rfl
theorem w3_56 : Cond.sameMethod "GoodsDownhill$House" "GoodsDownhill$House" "wantsSome" "(I)Z" ∈ gtb := gtb_in (tin3 (List.mem_of_getElem? (i := 56) (by decide +kernel))) rfl
theorem w3_57 : Cond.selects "GoodsDownhill$Cellared" ⟨"GoodsDownhill$House", "wantsSome", "(I)Z"⟩ ⟨"GoodsDownhill$House", "wantsSome", "(I)Z"⟩ ∈ gtb := gtb_in (tin3 (List.mem_of_getElem? (i := 57) (by decide +kernel))) rfl
theorem w3_58 : Cond.selects "GoodsDownhill$Feigned" ⟨"GoodsDownhill$House", "wantsSome", "(I)Z"⟩ ⟨"GoodsDownhill$House", "wantsSome", "(I)Z"⟩ ∈ gtb := gtb_in (tin3 (List.mem_of_getElem? (i := 58) (by decide +kernel))) rfl
theorem w3_59 : Cond.selects "GoodsDownhill$Hermit" ⟨"GoodsDownhill$House", "wantsSome", "(I)Z"⟩ ⟨"GoodsDownhill$House", "wantsSome", "(I)Z"⟩ ∈ gtb := gtb_in (tin3 (List.mem_of_getElem? (i := 59) (by decide +kernel))) rfl
theorem w3_60 : Cond.selects "GoodsDownhill$Joined" ⟨"GoodsDownhill$House", "wantsSome", "(I)Z"⟩ ⟨"GoodsDownhill$House", "wantsSome", "(I)Z"⟩ ∈ gtb := gtb_in (tin3 (List.mem_of_getElem? (i := 60) (by decide +kernel))) rfl
theorem w3_61 : Cond.selects "GoodsDownhill$Market" ⟨"GoodsDownhill$House", "wantsSome", "(I)Z"⟩ ⟨"GoodsDownhill$House", "wantsSome", "(I)Z"⟩ ∈ gtb := gtb_in (tin3 (List.mem_of_getElem? (i := 61) (by decide +kernel))) rfl
theorem w3_62 : Cond.code ⟨"GoodsDownhill$House", "wantsSome", "(I)Z"⟩ prog_6_method_5_code 2 (some .boolean) ∈ gtb := gtb_in (tin3 (List.mem_of_getElem? (i := 62) (by decide +kernel))) rfl
theorem w3_63 : Cond.methodLink "GoodsDownhill$Land" 138 ⟨"java/lang/Math", "max", "(II)I"⟩ ∈ gtb := gtb_in (tin3 (List.mem_of_getElem? (i := 63) (by decide +kernel))) rfl
theorem w3_64 : Cond.methodLink "GoodsDownhill$Land" 112 ⟨"GoodsDownhill$Land", "useWanted", "(I)I"⟩ ∈ gtb := gtb_in (tin3 (List.mem_of_getElem? (i := 64) (by decide +kernel))) rfl
theorem w3_66 : Cond.instanceMethod ⟨"GoodsDownhill$Land", "useWanted", "(I)I"⟩ ∈ gtb := gtb_in (tin3 (List.mem_of_getElem? (i := 66) (by decide +kernel))) rfl
theorem w3_67 : Cond.code ⟨"GoodsDownhill$Land", "useWanted", "(I)I"⟩ prog_8_method_16_code 4 (some .int) ∈ gtb := gtb_in (tin3 (List.mem_of_getElem? (i := 67) (by decide +kernel))) rfl
theorem w3_68 : Cond.methodLink "GoodsDownhill$Land" 118 ⟨"GoodsDownhill$Tally", "addUse", "(III)V"⟩ ∈ gtb := gtb_in (tin3 (List.mem_of_getElem? (i := 68) (by decide +kernel))) rfl
theorem w3_69 : Cond.instanceMethod ⟨"GoodsDownhill$Tally", "addUse", "(III)V"⟩ ∈ gtb := gtb_in (tin3 (List.mem_of_getElem? (i := 69) (by decide +kernel))) rfl
theorem w3_7 : Cond.methodLink "GoodsDownhill$Land" 86 ⟨"GoodsDownhill$Land", "isLawful", "(II)Z"⟩ ∈ gtb := gtb_in (tin3 (List.mem_of_getElem? (i := 7) (by decide +kernel))) rfl
theorem w3_70 : Cond.selects "GoodsDownhill$Tally" ⟨"GoodsDownhill$Tally", "addUse", "(III)V"⟩ ⟨"GoodsDownhill$Tally", "addUse", "(III)V"⟩ ∈ gtb := gtb_in (tin3 (List.mem_of_getElem? (i := 70) (by decide +kernel))) rfl
theorem w3_71 : Cond.code ⟨"GoodsDownhill$Tally", "addUse", "(III)V"⟩ prog_11_method_4_code 4 none ∈ gtb := gtb_in (tin3 (List.mem_of_getElem? (i := 71) (by decide +kernel))) rfl
theorem w3_8 : Cond.methodLink "GoodsDownhill$Land" 89 ⟨"GoodsDownhill$Land", "hasMeans", "(III)Z"⟩ ∈ gtb := gtb_in (tin3 (List.mem_of_getElem? (i := 8) (by decide +kernel))) rfl
theorem w3_80 : Cond.methodLink "GoodsDownhill" 179 ⟨"GoodsDownhill$Debts", "from", "(II)I"⟩ ∈ gtb := gtb_in (tin3 (List.mem_of_getElem? (i := 80) (by decide +kernel))) rfl
theorem w3_81 : Cond.instanceMethod ⟨"GoodsDownhill$Debts", "from", "(II)I"⟩ ∈ gtb := gtb_in (tin3 (List.mem_of_getElem? (i := 81) (by decide +kernel))) rfl
theorem w3_82 : Cond.selects "GoodsDownhill$Debts" ⟨"GoodsDownhill$Debts", "from", "(II)I"⟩ ⟨"GoodsDownhill$Debts", "from", "(II)I"⟩ ∈ gtb := gtb_in (tin3 (List.mem_of_getElem? (i := 82) (by decide +kernel))) rfl
theorem w3_83 : Cond.code ⟨"GoodsDownhill$Debts", "from", "(II)I"⟩ prog_3_method_3_code 3 (some .int) ∈ gtb := gtb_in (tin3 (List.mem_of_getElem? (i := 83) (by decide +kernel))) rfl
theorem w3_84 : Cond.methodLink "GoodsDownhill" 182 ⟨"GoodsDownhill$Debts", "put", "(III)V"⟩ ∈ gtb := gtb_in (tin3 (List.mem_of_getElem? (i := 84) (by decide +kernel))) rfl
theorem w3_89 : Cond.methodLink "GoodsDownhill" 186 ⟨"GoodsDownhill$Debts", "strikeRings", "()I"⟩ ∈ gtb := gtb_in (tin3 (List.mem_of_getElem? (i := 89) (by decide +kernel))) rfl
theorem w3_90 : Cond.instanceMethod ⟨"GoodsDownhill$Debts", "strikeRings", "()I"⟩ ∈ gtb := gtb_in (tin3 (List.mem_of_getElem? (i := 90) (by decide +kernel))) rfl
theorem w3_91 : Cond.selects "GoodsDownhill$Debts" ⟨"GoodsDownhill$Debts", "strikeRings", "()I"⟩ ⟨"GoodsDownhill$Debts", "strikeRings", "()I"⟩ ∈ gtb := gtb_in (tin3 (List.mem_of_getElem? (i := 91) (by decide +kernel))) rfl
theorem w3_92 : Cond.code ⟨"GoodsDownhill$Debts", "strikeRings", "()I"⟩ prog_3_method_7_code 5 (some .int) ∈ gtb := gtb_in (tin3 (List.mem_of_getElem? (i := 92) (by decide +kernel))) rfl
theorem w3_93 : Cond.methodLink "GoodsDownhill$Debts" 29 ⟨"GoodsDownhill$Debts", "strikeTwo", "(II)I"⟩ ∈ gtb := gtb_in (tin3 (List.mem_of_getElem? (i := 93) (by decide +kernel))) rfl
theorem w3_95 : Cond.instanceMethod ⟨"GoodsDownhill$Debts", "strikeTwo", "(II)I"⟩ ∈ gtb := gtb_in (tin3 (List.mem_of_getElem? (i := 95) (by decide +kernel))) rfl
theorem w3_96 : Cond.code ⟨"GoodsDownhill$Debts", "strikeTwo", "(II)I"⟩ prog_3_method_8_code 4 (some .int) ∈ gtb := gtb_in (tin3 (List.mem_of_getElem? (i := 96) (by decide +kernel))) rfl
theorem w3_97 : Cond.methodLink "GoodsDownhill$Debts" 25 ⟨"GoodsDownhill$Debts", "from", "(II)I"⟩ ∈ gtb := gtb_in (tin3 (List.mem_of_getElem? (i := 97) (by decide +kernel))) rfl
theorem w3_98 : Cond.methodLink "GoodsDownhill$Debts" 36 ⟨"java/lang/Math", "min", "(II)I"⟩ ∈ gtb := gtb_in (tin3 (List.mem_of_getElem? (i := 98) (by decide +kernel))) rfl
theorem w3_99 : Cond.methodLink "GoodsDownhill$Debts" 41 ⟨"GoodsDownhill$Debts", "put", "(III)V"⟩ ∈ gtb := gtb_in (tin3 (List.mem_of_getElem? (i := 99) (by decide +kernel))) rfl
theorem w4_0 : Cond.fieldLink "GoodsDownhillModel" 34 "GoodsDownhillModel" "stores" "[I" ∈ gtb := gtb_in (tin4 (List.mem_of_getElem? (i := 0) (by decide +kernel))) rfl
theorem w4_1 : Cond.fieldLink "GoodsDownhillModel" 37 "GoodsDownhillModel" "debts" "[I" ∈ gtb := gtb_in (tin4 (List.mem_of_getElem? (i := 1) (by decide +kernel))) rfl
theorem w4_10 : Cond.fieldLink "GoodsDownhillModel" 160 "GoodsDownhillModel" "hasImage" "Z" ∈ gtb := gtb_in (tin4 (List.mem_of_getElem? (i := 10) (by decide +kernel))) rfl
theorem w4_107 : Cond.methodLink "GoodsDownhillModel" 156 ⟨"GoodsDownhillModel", "carryAll", "([IZ)V"⟩ ∈ gtb := gtb_in (tin4 (List.mem_of_getElem? (i := 107) (by decide +kernel))) rfl
theorem w4_109 : Cond.instanceMethod ⟨"GoodsDownhillModel", "carryAll", "([IZ)V"⟩ ∈ gtb := gtb_in (tin4 (List.mem_of_getElem? (i := 109) (by decide +kernel))) rfl
theorem w4_11 : Cond.fieldLink "GoodsDownhillModel" 147 "GoodsDownhillModel" "place" "I" ∈ gtb := gtb_in (tin4 (List.mem_of_getElem? (i := 11) (by decide +kernel))) rfl
theorem w4_110 : Cond.code ⟨"GoodsDownhillModel", "carryAll", "([IZ)V"⟩ prog_14_method_21_code 4 none ∈ gtb := gtb_in (tin4 (List.mem_of_getElem? (i := 110) (by decide +kernel))) rfl
theorem w4_111 : Cond.methodLink "GoodsDownhillModel" 150 ⟨"GoodsDownhillModel", "carry", "(I)I"⟩ ∈ gtb := gtb_in (tin4 (List.mem_of_getElem? (i := 111) (by decide +kernel))) rfl
theorem w4_113 : Cond.instanceMethod ⟨"GoodsDownhillModel", "carry", "(I)I"⟩ ∈ gtb := gtb_in (tin4 (List.mem_of_getElem? (i := 113) (by decide +kernel))) rfl
theorem w4_114 : Cond.code ⟨"GoodsDownhillModel", "carry", "(I)I"⟩ prog_14_method_20_code 2 (some .int) ∈ gtb := gtb_in (tin4 (List.mem_of_getElem? (i := 114) (by decide +kernel))) rfl
theorem w4_119 : Cond.methodLink "GoodsDownhillModel" 163 ⟨"GoodsDownhillModel", "refuse", "(I)I"⟩ ∈ gtb := gtb_in (tin4 (List.mem_of_getElem? (i := 119) (by decide +kernel))) rfl
theorem w4_12 : Cond.fieldLink "GoodsDownhillModel" 140 "GoodsDownhillModel" "isTaking" "Z" ∈ gtb := gtb_in (tin4 (List.mem_of_getElem? (i := 12) (by decide +kernel))) rfl
theorem w4_121 : Cond.instanceMethod ⟨"GoodsDownhillModel", "refuse", "(I)I"⟩ ∈ gtb := gtb_in (tin4 (List.mem_of_getElem? (i := 121) (by decide +kernel))) rfl
theorem w4_122 : Cond.code ⟨"GoodsDownhillModel", "refuse", "(I)I"⟩ prog_14_method_4_code 2 (some .int) ∈ gtb := gtb_in (tin4 (List.mem_of_getElem? (i := 122) (by decide +kernel))) rfl
theorem w4_13 : Cond.fieldLink "GoodsDownhillModel" 144 "GoodsDownhillModel" "keptIn" "[I" ∈ gtb := gtb_in (tin4 (List.mem_of_getElem? (i := 13) (by decide +kernel))) rfl
theorem w4_131 : Cond.methodLink "GoodsDownhillModel" 198 ⟨"GoodsDownhillModel", "readStatement", "()V"⟩ ∈ gtb := gtb_in (tin4 (List.mem_of_getElem? (i := 131) (by decide +kernel))) rfl
theorem w4_133 : Cond.instanceMethod ⟨"GoodsDownhillModel", "readStatement", "()V"⟩ ∈ gtb := gtb_in (tin4 (List.mem_of_getElem? (i := 133) (by decide +kernel))) rfl
theorem w4_134 : Cond.code ⟨"GoodsDownhillModel", "readStatement", "()V"⟩ prog_14_method_30_code 5 none ∈ gtb := gtb_in (tin4 (List.mem_of_getElem? (i := 134) (by decide +kernel))) rfl
theorem w4_135 : Cond.methodLink "GoodsDownhillModel" 175 ⟨"GoodsDownhillModel", "here", "()I"⟩ ∈ gtb := gtb_in (tin4 (List.mem_of_getElem? (i := 135) (by decide +kernel))) rfl
theorem w4_137 : Cond.instanceMethod ⟨"GoodsDownhillModel", "here", "()I"⟩ ∈ gtb := gtb_in (tin4 (List.mem_of_getElem? (i := 137) (by decide +kernel))) rfl
theorem w4_138 : Cond.code ⟨"GoodsDownhillModel", "here", "()I"⟩ prog_14_method_27_code 1 (some .int) ∈ gtb := gtb_in (tin4 (List.mem_of_getElem? (i := 138) (by decide +kernel))) rfl
theorem w4_139 : Cond.methodLink "GoodsDownhillModel" 183 ⟨"GoodsDownhillModel", "readDigit", "()I"⟩ ∈ gtb := gtb_in (tin4 (List.mem_of_getElem? (i := 139) (by decide +kernel))) rfl
theorem w4_14 : Cond.fieldLink "GoodsDownhillModel" 55 "GoodsDownhillModel" "letters" "[I" ∈ gtb := gtb_in (tin4 (List.mem_of_getElem? (i := 14) (by decide +kernel))) rfl
theorem w4_141 : Cond.instanceMethod ⟨"GoodsDownhillModel", "readDigit", "()I"⟩ ∈ gtb := gtb_in (tin4 (List.mem_of_getElem? (i := 141) (by decide +kernel))) rfl
theorem w4_142 : Cond.code ⟨"GoodsDownhillModel", "readDigit", "()I"⟩ prog_14_method_28_code 1 (some .int) ∈ gtb := gtb_in (tin4 (List.mem_of_getElem? (i := 142) (by decide +kernel))) rfl
theorem w4_143 : Cond.constantLong "GoodsDownhillModel" 179 48 ∈ gtb := gtb_in (tin4 (List.mem_of_getElem? (i := 143) (by decide +kernel))) rfl
theorem w4_144 : Cond.constantLong "GoodsDownhillModel" 181 57 ∈ gtb := gtb_in (tin4 (List.mem_of_getElem? (i := 144) (by decide +kernel))) rfl
theorem w4_145 : Cond.methodLink "GoodsDownhillModel" 80 ⟨"GoodsDownhillModel", "in", "(JJJ)Z"⟩ ∈ gtb := gtb_in (tin4 (List.mem_of_getElem? (i := 145) (by decide +kernel))) rfl
theorem w4_146 : Cond.static ⟨"GoodsDownhillModel", "in", "(JJJ)Z"⟩ ∈ gtb := gtb_in (tin4 (List.mem_of_getElem? (i := 146) (by decide +kernel))) rfl
theorem w4_147 : Cond.code ⟨"GoodsDownhillModel", "in", "(JJJ)Z"⟩ prog_14_method_3_code 6 (some .boolean) ∈ gtb := gtb_in (tin4 (List.mem_of_getElem? (i := 147) (by decide +kernel))) rfl
theorem w4_148 : Cond.methodLink "GoodsDownhillModel" 189 ⟨"GoodsDownhillModel", "readNumber", "(I)I"⟩ ∈ gtb := gtb_in (tin4 (List.mem_of_getElem? (i := 148) (by decide +kernel))) rfl
theorem w4_15 : Cond.fieldLink "GoodsDownhillModel" 166 "GoodsDownhillModel" "letterMany" "I" ∈ gtb := gtb_in (tin4 (List.mem_of_getElem? (i := 15) (by decide +kernel))) rfl
theorem w4_150 : Cond.instanceMethod ⟨"GoodsDownhillModel", "readNumber", "(I)I"⟩ ∈ gtb := gtb_in (tin4 (List.mem_of_getElem? (i := 150) (by decide +kernel))) rfl
theorem w4_151 : Cond.code ⟨"GoodsDownhillModel", "readNumber", "(I)I"⟩ prog_14_method_29_code 4 (some .int) ∈ gtb := gtb_in (tin4 (List.mem_of_getElem? (i := 151) (by decide +kernel))) rfl
theorem w4_152 : Cond.methodLink "GoodsDownhillModel" 201 ⟨"GoodsDownhillModel", "open", "()V"⟩ ∈ gtb := gtb_in (tin4 (List.mem_of_getElem? (i := 152) (by decide +kernel))) rfl
theorem w4_154 : Cond.instanceMethod ⟨"GoodsDownhillModel", "open", "()V"⟩ ∈ gtb := gtb_in (tin4 (List.mem_of_getElem? (i := 154) (by decide +kernel))) rfl
theorem w4_155 : Cond.code ⟨"GoodsDownhillModel", "open", "()V"⟩ prog_14_method_22_code 2 none ∈ gtb := gtb_in (tin4 (List.mem_of_getElem? (i := 155) (by decide +kernel))) rfl
theorem w4_156 : Cond.methodLink "GoodsDownhillModel" 204 ⟨"GoodsDownhillModel", "comes", "(I)Z"⟩ ∈ gtb := gtb_in (tin4 (List.mem_of_getElem? (i := 156) (by decide +kernel))) rfl
theorem w4_158 : Cond.instanceMethod ⟨"GoodsDownhillModel", "comes", "(I)Z"⟩ ∈ gtb := gtb_in (tin4 (List.mem_of_getElem? (i := 158) (by decide +kernel))) rfl
theorem w4_159 : Cond.code ⟨"GoodsDownhillModel", "comes", "(I)Z"⟩ prog_14_method_32_code 5 (some .boolean) ∈ gtb := gtb_in (tin4 (List.mem_of_getElem? (i := 159) (by decide +kernel))) rfl
theorem w4_16 : Cond.fieldLink "GoodsDownhillModel" 169 "GoodsDownhillModel" "at" "I" ∈ gtb := gtb_in (tin4 (List.mem_of_getElem? (i := 16) (by decide +kernel))) rfl
theorem w4_160 : Cond.methodLink "GoodsDownhillModel" 192 ⟨"GoodsDownhillModel", "houseComes", "(I)Z"⟩ ∈ gtb := gtb_in (tin4 (List.mem_of_getElem? (i := 160) (by decide +kernel))) rfl
theorem w4_162 : Cond.instanceMethod ⟨"GoodsDownhillModel", "houseComes", "(I)Z"⟩ ∈ gtb := gtb_in (tin4 (List.mem_of_getElem? (i := 162) (by decide +kernel))) rfl
theorem w4_163 : Cond.code ⟨"GoodsDownhillModel", "houseComes", "(I)Z"⟩ prog_14_method_31_code 5 (some .boolean) ∈ gtb := gtb_in (tin4 (List.mem_of_getElem? (i := 163) (by decide +kernel))) rfl
theorem w4_164 : Cond.methodLink "GoodsDownhillModel" 195 ⟨"GoodsDownhillModel", "areTwo", "(II)Z"⟩ ∈ gtb := gtb_in (tin4 (List.mem_of_getElem? (i := 164) (by decide +kernel))) rfl
theorem w4_166 : Cond.instanceMethod ⟨"GoodsDownhillModel", "areTwo", "(II)Z"⟩ ∈ gtb := gtb_in (tin4 (List.mem_of_getElem? (i := 166) (by decide +kernel))) rfl
theorem w4_167 : Cond.code ⟨"GoodsDownhillModel", "areTwo", "(II)Z"⟩ prog_14_method_6_code 3 (some .boolean) ∈ gtb := gtb_in (tin4 (List.mem_of_getElem? (i := 167) (by decide +kernel))) rfl
theorem w4_168 : Cond.methodLink "GoodsDownhillModel" 84 ⟨"GoodsDownhillModel", "isHouse", "(I)Z"⟩ ∈ gtb := gtb_in (tin4 (List.mem_of_getElem? (i := 168) (by decide +kernel))) rfl
theorem w4_17 : Cond.fieldLink "GoodsDownhillModel" 172 "GoodsDownhillModel" "isBad" "Z" ∈ gtb := gtb_in (tin4 (List.mem_of_getElem? (i := 17) (by decide +kernel))) rfl
theorem w4_170 : Cond.instanceMethod ⟨"GoodsDownhillModel", "isHouse", "(I)Z"⟩ ∈ gtb := gtb_in (tin4 (List.mem_of_getElem? (i := 170) (by decide +kernel))) rfl
theorem w4_171 : Cond.code ⟨"GoodsDownhillModel", "isHouse", "(I)Z"⟩ prog_14_method_5_code 2 (some .boolean) ∈ gtb := gtb_in (tin4 (List.mem_of_getElem? (i := 171) (by decide +kernel))) rfl
theorem w4_172 : Cond.methodLink "GoodsDownhillModel" 207 ⟨"GoodsDownhillModel", "close", "()V"⟩ ∈ gtb := gtb_in (tin4 (List.mem_of_getElem? (i := 172) (by decide +kernel))) rfl
theorem w4_174 : Cond.instanceMethod ⟨"GoodsDownhillModel", "close", "()V"⟩ ∈ gtb := gtb_in (tin4 (List.mem_of_getElem? (i := 174) (by decide +kernel))) rfl
theorem w4_175 : Cond.code ⟨"GoodsDownhillModel", "close", "()V"⟩ prog_14_method_23_code 1 none ∈ gtb := gtb_in (tin4 (List.mem_of_getElem? (i := 175) (by decide +kernel))) rfl
theorem w4_18 : Cond.fieldLink "GoodsDownhillModel" 186 "GoodsDownhillModel" "statements" "I" ∈ gtb := gtb_in (tin4 (List.mem_of_getElem? (i := 18) (by decide +kernel))) rfl
theorem w4_180 : Cond.methodLink "GoodsDownhillModel" 90 ⟨"GoodsDownhillModel", "sellsAt", "(I)I"⟩ ∈ gtb := gtb_in (tin4 (List.mem_of_getElem? (i := 180) (by decide +kernel))) rfl
theorem w4_182 : Cond.instanceMethod ⟨"GoodsDownhillModel", "sellsAt", "(I)I"⟩ ∈ gtb := gtb_in (tin4 (List.mem_of_getElem? (i := 182) (by decide +kernel))) rfl
theorem w4_183 : Cond.code ⟨"GoodsDownhillModel", "sellsAt", "(I)I"⟩ prog_14_method_8_code 3 (some .int) ∈ gtb := gtb_in (tin4 (List.mem_of_getElem? (i := 183) (by decide +kernel))) rfl
theorem w4_184 : Cond.methodLink "GoodsDownhillModel" 94 ⟨"GoodsDownhillModel", "buysAt", "(I)I"⟩ ∈ gtb := gtb_in (tin4 (List.mem_of_getElem? (i := 184) (by decide +kernel))) rfl
theorem w4_186 : Cond.instanceMethod ⟨"GoodsDownhillModel", "buysAt", "(I)I"⟩ ∈ gtb := gtb_in (tin4 (List.mem_of_getElem? (i := 186) (by decide +kernel))) rfl
theorem w4_187 : Cond.code ⟨"GoodsDownhillModel", "buysAt", "(I)I"⟩ prog_14_method_9_code 4 (some .int) ∈ gtb := gtb_in (tin4 (List.mem_of_getElem? (i := 187) (by decide +kernel))) rfl
theorem w4_19 : Cond.fieldLink "GoodsDownhillModel" 58 "GoodsDownhillModel" "placeOf" "[I" ∈ gtb := gtb_in (tin4 (List.mem_of_getElem? (i := 19) (by decide +kernel))) rfl
theorem w4_192 : Cond.methodLink "GoodsDownhillModel" 210 ⟨"GoodsDownhillModel", "isGood", "(I)Z"⟩ ∈ gtb := gtb_in (tin4 (List.mem_of_getElem? (i := 192) (by decide +kernel))) rfl
theorem w4_193 : Cond.static ⟨"GoodsDownhillModel", "isGood", "(I)Z"⟩ ∈ gtb := gtb_in (tin4 (List.mem_of_getElem? (i := 193) (by decide +kernel))) rfl
theorem w4_194 : Cond.code ⟨"GoodsDownhillModel", "isGood", "(I)Z"⟩ prog_14_method_7_code 1 (some .boolean) ∈ gtb := gtb_in (tin4 (List.mem_of_getElem? (i := 194) (by decide +kernel))) rfl
theorem w4_195 : Cond.constantLong "GoodsDownhillModel" 88 2 ∈ gtb := gtb_in (tin4 (List.mem_of_getElem? (i := 195) (by decide +kernel))) rfl
theorem w4_2 : Cond.fieldLink "GoodsDownhillModel" 40 "GoodsDownhillModel" "prices" "[I" ∈ gtb := gtb_in (tin4 (List.mem_of_getElem? (i := 2) (by decide +kernel))) rfl
theorem w4_20 : Cond.fieldLink "GoodsDownhillModel" 61 "GoodsDownhillModel" "letterOf" "[I" ∈ gtb := gtb_in (tin4 (List.mem_of_getElem? (i := 20) (by decide +kernel))) rfl
theorem w4_208 : Cond.methodLink "GoodsDownhillModel" 100 ⟨"GoodsDownhillModel", "isLawful", "(II)Z"⟩ ∈ gtb := gtb_in (tin4 (List.mem_of_getElem? (i := 208) (by decide +kernel))) rfl
theorem w4_21 : Cond.fieldLink "GoodsDownhillModel" 64 "GoodsDownhillModel" "told" "[I" ∈ gtb := gtb_in (tin4 (List.mem_of_getElem? (i := 21) (by decide +kernel))) rfl
theorem w4_210 : Cond.instanceMethod ⟨"GoodsDownhillModel", "isLawful", "(II)Z"⟩ ∈ gtb := gtb_in (tin4 (List.mem_of_getElem? (i := 210) (by decide +kernel))) rfl
theorem w4_211 : Cond.code ⟨"GoodsDownhillModel", "isLawful", "(II)Z"⟩ prog_14_method_10_code 5 (some .boolean) ∈ gtb := gtb_in (tin4 (List.mem_of_getElem? (i := 211) (by decide +kernel))) rfl
theorem w4_216 : Cond.methodLink "GoodsDownhillModel" 107 ⟨"GoodsDownhillModel", "canSell", "(III)Z"⟩ ∈ gtb := gtb_in (tin4 (List.mem_of_getElem? (i := 216) (by decide +kernel))) rfl
theorem w4_218 : Cond.instanceMethod ⟨"GoodsDownhillModel", "canSell", "(III)Z"⟩ ∈ gtb := gtb_in (tin4 (List.mem_of_getElem? (i := 218) (by decide +kernel))) rfl
theorem w4_219 : Cond.code ⟨"GoodsDownhillModel", "canSell", "(III)Z"⟩ prog_14_method_11_code 4 (some .boolean) ∈ gtb := gtb_in (tin4 (List.mem_of_getElem? (i := 219) (by decide +kernel))) rfl
theorem w4_22 : Cond.fieldLink "GoodsDownhillModel" 67 "GoodsDownhillModel" "servedNow" "[I" ∈ gtb := gtb_in (tin4 (List.mem_of_getElem? (i := 22) (by decide +kernel))) rfl
theorem w4_220 : Cond.methodLink "GoodsDownhillModel" 111 ⟨"GoodsDownhillModel", "sell", "(III)V"⟩ ∈ gtb := gtb_in (tin4 (List.mem_of_getElem? (i := 220) (by decide +kernel))) rfl
theorem w4_222 : Cond.instanceMethod ⟨"GoodsDownhillModel", "sell", "(III)V"⟩ ∈ gtb := gtb_in (tin4 (List.mem_of_getElem? (i := 222) (by decide +kernel))) rfl
theorem w4_223 : Cond.code ⟨"GoodsDownhillModel", "sell", "(III)V"⟩ prog_14_method_12_code 4 none ∈ gtb := gtb_in (tin4 (List.mem_of_getElem? (i := 223) (by decide +kernel))) rfl
theorem w4_228 : Cond.methodLink "GoodsDownhillModel" 213 ⟨"GoodsDownhillModel", "weekOn", "()I"⟩ ∈ gtb := gtb_in (tin4 (List.mem_of_getElem? (i := 228) (by decide +kernel))) rfl
theorem w4_23 : Cond.fieldLink "GoodsDownhillModel" 70 "GoodsDownhillModel" "row" "[I" ∈ gtb := gtb_in (tin4 (List.mem_of_getElem? (i := 23) (by decide +kernel))) rfl
theorem w4_230 : Cond.instanceMethod ⟨"GoodsDownhillModel", "weekOn", "()I"⟩ ∈ gtb := gtb_in (tin4 (List.mem_of_getElem? (i := 230) (by decide +kernel))) rfl
theorem w4_231 : Cond.code ⟨"GoodsDownhillModel", "weekOn", "()I"⟩ prog_14_method_15_code 5 (some .int) ∈ gtb := gtb_in (tin4 (List.mem_of_getElem? (i := 231) (by decide +kernel))) rfl
theorem w4_232 : Cond.methodLink "GoodsDownhillModel" 118 ⟨"GoodsDownhillModel", "buyFor", "(I)V"⟩ ∈ gtb := gtb_in (tin4 (List.mem_of_getElem? (i := 232) (by decide +kernel))) rfl
theorem w4_234 : Cond.instanceMethod ⟨"GoodsDownhillModel", "buyFor", "(I)V"⟩ ∈ gtb := gtb_in (tin4 (List.mem_of_getElem? (i := 234) (by decide +kernel))) rfl
theorem w4_235 : Cond.code ⟨"GoodsDownhillModel", "buyFor", "(I)V"⟩ prog_14_method_14_code 7 none ∈ gtb := gtb_in (tin4 (List.mem_of_getElem? (i := 235) (by decide +kernel))) rfl
theorem w4_236 : Cond.methodLink "GoodsDownhillModel" 104 ⟨"GoodsDownhillModel", "wants", "(II)Z"⟩ ∈ gtb := gtb_in (tin4 (List.mem_of_getElem? (i := 236) (by decide +kernel))) rfl
theorem w4_238 : Cond.instanceMethod ⟨"GoodsDownhillModel", "wants", "(II)Z"⟩ ∈ gtb := gtb_in (tin4 (List.mem_of_getElem? (i := 238) (by decide +kernel))) rfl
theorem w4_239 : Cond.code ⟨"GoodsDownhillModel", "wants", "(II)Z"⟩ prog_14_method_13_code 3 (some .boolean) ∈ gtb := gtb_in (tin4 (List.mem_of_getElem? (i := 239) (by decide +kernel))) rfl
theorem w4_24 : Cond.fieldLink "GoodsDownhillModel" 233 "GoodsDownhillModel" "rowMany" "I" ∈ gtb := gtb_in (tin4 (List.mem_of_getElem? (i := 24) (by decide +kernel))) rfl
theorem w4_25 : Cond.fieldLink "GoodsDownhillModel" 239 "GoodsDownhillModel" "seed" "I" ∈ gtb := gtb_in (tin4 (List.mem_of_getElem? (i := 25) (by decide +kernel))) rfl
theorem w4_3 : Cond.fieldLink "GoodsDownhillModel" 73 "GoodsDownhillModel" "thrown" "I" ∈ gtb := gtb_in (tin4 (List.mem_of_getElem? (i := 3) (by decide +kernel))) rfl
theorem w4_4 : Cond.fieldLink "GoodsDownhillModel" 43 "GoodsDownhillModel" "refusals" "[I" ∈ gtb := gtb_in (tin4 (List.mem_of_getElem? (i := 4) (by decide +kernel))) rfl
theorem w4_5 : Cond.fieldLink "GoodsDownhillModel" 115 "GoodsDownhillModel" "sales" "I" ∈ gtb := gtb_in (tin4 (List.mem_of_getElem? (i := 5) (by decide +kernel))) rfl
theorem w4_6 : Cond.fieldLink "GoodsDownhillModel" 46 "GoodsDownhillModel" "servedOf" "[I" ∈ gtb := gtb_in (tin4 (List.mem_of_getElem? (i := 6) (by decide +kernel))) rfl
theorem w4_7 : Cond.fieldLink "GoodsDownhillModel" 133 "GoodsDownhillModel" "struckSum" "I" ∈ gtb := gtb_in (tin4 (List.mem_of_getElem? (i := 7) (by decide +kernel))) rfl
theorem w4_8 : Cond.fieldLink "GoodsDownhillModel" 49 "GoodsDownhillModel" "kept" "[I" ∈ gtb := gtb_in (tin4 (List.mem_of_getElem? (i := 8) (by decide +kernel))) rfl
theorem w4_9 : Cond.fieldLink "GoodsDownhillModel" 52 "GoodsDownhillModel" "imaged" "[I" ∈ gtb := gtb_in (tin4 (List.mem_of_getElem? (i := 9) (by decide +kernel))) rfl
theorem w5_10 : Cond.instanceMethod ⟨"GoodsDownhillModel", "debt", "(II)I"⟩ ∈ gtb := gtb_in (tin5 (List.mem_of_getElem? (i := 10) (by decide +kernel))) rfl
theorem w5_101 : Cond.methodLink "GoodsDownhillModel" 245 ⟨"GoodsDownhillModel", "draw", "(I)I"⟩ ∈ gtb := gtb_in (tin5 (List.mem_of_getElem? (i := 101) (by decide +kernel))) rfl
theorem w5_103 : Cond.instanceMethod ⟨"GoodsDownhillModel", "draw", "(I)I"⟩ ∈ gtb := gtb_in (tin5 (List.mem_of_getElem? (i := 103) (by decide +kernel))) rfl
theorem w5_104 : Cond.code ⟨"GoodsDownhillModel", "draw", "(I)I"⟩ prog_14_method_61_code 2 (some .int) ∈ gtb := gtb_in (tin5 (List.mem_of_getElem? (i := 104) (by decide +kernel))) rfl
theorem w5_105 : Cond.constant "GoodsDownhillModel" 242 1103515245 ∈ gtb := gtb_in (tin5 (List.mem_of_getElem? (i := 105) (by decide +kernel))) rfl
theorem w5_106 : Cond.constant "GoodsDownhillModel" 243 2147483647 ∈ gtb := gtb_in (tin5 (List.mem_of_getElem? (i := 106) (by decide +kernel))) rfl
theorem w5_107 : Cond.constant "GoodsDownhillModel" 244 65536 ∈ gtb := gtb_in (tin5 (List.mem_of_getElem? (i := 107) (by decide +kernel))) rfl
theorem w5_11 : Cond.code ⟨"GoodsDownhillModel", "debt", "(II)I"⟩ prog_14_method_16_code 3 (some .int) ∈ gtb := gtb_in (tin5 (List.mem_of_getElem? (i := 11) (by decide +kernel))) rfl
theorem w5_112 : Cond.methodLink "GoodsDownhillModel" 248 ⟨"GoodsDownhillModel", "sumOf", "([II)I"⟩ ∈ gtb := gtb_in (tin5 (List.mem_of_getElem? (i := 112) (by decide +kernel))) rfl
theorem w5_114 : Cond.instanceMethod ⟨"GoodsDownhillModel", "sumOf", "([II)I"⟩ ∈ gtb := gtb_in (tin5 (List.mem_of_getElem? (i := 114) (by decide +kernel))) rfl
theorem w5_115 : Cond.code ⟨"GoodsDownhillModel", "sumOf", "([II)I"⟩ prog_14_method_63_code 5 (some .int) ∈ gtb := gtb_in (tin5 (List.mem_of_getElem? (i := 115) (by decide +kernel))) rfl
theorem w5_116 : Cond.constantLong "GoodsDownhillModel" 252 11 ∈ gtb := gtb_in (tin5 (List.mem_of_getElem? (i := 116) (by decide +kernel))) rfl
theorem w5_117 : Cond.constantLong "GoodsDownhillModel" 254 16 ∈ gtb := gtb_in (tin5 (List.mem_of_getElem? (i := 117) (by decide +kernel))) rfl
theorem w5_16 : Cond.methodLink "GoodsDownhillModel" 216 ⟨"GoodsDownhillModel", "strikeAll", "()I"⟩ ∈ gtb := gtb_in (tin5 (List.mem_of_getElem? (i := 16) (by decide +kernel))) rfl
theorem w5_18 : Cond.instanceMethod ⟨"GoodsDownhillModel", "strikeAll", "()I"⟩ ∈ gtb := gtb_in (tin5 (List.mem_of_getElem? (i := 18) (by decide +kernel))) rfl
theorem w5_19 : Cond.code ⟨"GoodsDownhillModel", "strikeAll", "()I"⟩ prog_14_method_19_code 2 (some .int) ∈ gtb := gtb_in (tin5 (List.mem_of_getElem? (i := 19) (by decide +kernel))) rfl
theorem w5_20 : Cond.methodLink "GoodsDownhillModel" 136 ⟨"GoodsDownhillModel", "strikeOne", "()Z"⟩ ∈ gtb := gtb_in (tin5 (List.mem_of_getElem? (i := 20) (by decide +kernel))) rfl
theorem w5_22 : Cond.instanceMethod ⟨"GoodsDownhillModel", "strikeOne", "()Z"⟩ ∈ gtb := gtb_in (tin5 (List.mem_of_getElem? (i := 22) (by decide +kernel))) rfl
theorem w5_23 : Cond.code ⟨"GoodsDownhillModel", "strikeOne", "()Z"⟩ prog_14_method_18_code 6 (some .boolean) ∈ gtb := gtb_in (tin5 (List.mem_of_getElem? (i := 23) (by decide +kernel))) rfl
theorem w5_24 : Cond.methodLink "GoodsDownhillModel" 129 ⟨"GoodsDownhillModel", "lessen", "(III)I"⟩ ∈ gtb := gtb_in (tin5 (List.mem_of_getElem? (i := 24) (by decide +kernel))) rfl
theorem w5_26 : Cond.instanceMethod ⟨"GoodsDownhillModel", "lessen", "(III)I"⟩ ∈ gtb := gtb_in (tin5 (List.mem_of_getElem? (i := 26) (by decide +kernel))) rfl
theorem w5_27 : Cond.code ⟨"GoodsDownhillModel", "lessen", "(III)I"⟩ prog_14_method_17_code 6 (some .int) ∈ gtb := gtb_in (tin5 (List.mem_of_getElem? (i := 27) (by decide +kernel))) rfl
theorem w5_32 : Cond.methodLink "GoodsDownhillModel" 219 ⟨"GoodsDownhillModel", "servedIn", "(I)I"⟩ ∈ gtb := gtb_in (tin5 (List.mem_of_getElem? (i := 32) (by decide +kernel))) rfl
theorem w5_34 : Cond.instanceMethod ⟨"GoodsDownhillModel", "servedIn", "(I)I"⟩ ∈ gtb := gtb_in (tin5 (List.mem_of_getElem? (i := 34) (by decide +kernel))) rfl
theorem w5_35 : Cond.code ⟨"GoodsDownhillModel", "servedIn", "(I)I"⟩ prog_14_method_44_code 4 (some .int) ∈ gtb := gtb_in (tin5 (List.mem_of_getElem? (i := 35) (by decide +kernel))) rfl
theorem w5_40 : Cond.methodLink "GoodsDownhillModel" 222 ⟨"GoodsDownhillModel", "wantsOfAll", "()I"⟩ ∈ gtb := gtb_in (tin5 (List.mem_of_getElem? (i := 40) (by decide +kernel))) rfl
theorem w5_42 : Cond.instanceMethod ⟨"GoodsDownhillModel", "wantsOfAll", "()I"⟩ ∈ gtb := gtb_in (tin5 (List.mem_of_getElem? (i := 42) (by decide +kernel))) rfl
theorem w5_43 : Cond.code ⟨"GoodsDownhillModel", "wantsOfAll", "()I"⟩ prog_14_method_46_code 3 (some .int) ∈ gtb := gtb_in (tin5 (List.mem_of_getElem? (i := 43) (by decide +kernel))) rfl
theorem w5_56 : Cond.methodLink "GoodsDownhillModel" 225 ⟨"GoodsDownhillModel", "mostOf", "(I)I"⟩ ∈ gtb := gtb_in (tin5 (List.mem_of_getElem? (i := 56) (by decide +kernel))) rfl
theorem w5_58 : Cond.instanceMethod ⟨"GoodsDownhillModel", "mostOf", "(I)I"⟩ ∈ gtb := gtb_in (tin5 (List.mem_of_getElem? (i := 58) (by decide +kernel))) rfl
theorem w5_59 : Cond.code ⟨"GoodsDownhillModel", "mostOf", "(I)I"⟩ prog_14_method_50_code 9 (some .int) ∈ gtb := gtb_in (tin5 (List.mem_of_getElem? (i := 59) (by decide +kernel))) rfl
theorem w5_64 : Cond.constant "GoodsDownhillModel" 228 1000000000 ∈ gtb := gtb_in (tin5 (List.mem_of_getElem? (i := 64) (by decide +kernel))) rfl
theorem w5_69 : Cond.methodLink "GoodsDownhillModel" 229 ⟨"GoodsDownhillModel", "isPath", "(IIII)Z"⟩ ∈ gtb := gtb_in (tin5 (List.mem_of_getElem? (i := 69) (by decide +kernel))) rfl
theorem w5_71 : Cond.instanceMethod ⟨"GoodsDownhillModel", "isPath", "(IIII)Z"⟩ ∈ gtb := gtb_in (tin5 (List.mem_of_getElem? (i := 71) (by decide +kernel))) rfl
theorem w5_72 : Cond.code ⟨"GoodsDownhillModel", "isPath", "(IIII)Z"⟩ prog_14_method_53_code 11 (some .boolean) ∈ gtb := gtb_in (tin5 (List.mem_of_getElem? (i := 72) (by decide +kernel))) rfl
theorem w5_8 : Cond.methodLink "GoodsDownhillModel" 125 ⟨"GoodsDownhillModel", "debt", "(II)I"⟩ ∈ gtb := gtb_in (tin5 (List.mem_of_getElem? (i := 8) (by decide +kernel))) rfl
theorem w5_93 : Cond.methodLink "GoodsDownhillModel" 236 ⟨"GoodsDownhillModel", "isSold", "(III)Z"⟩ ∈ gtb := gtb_in (tin5 (List.mem_of_getElem? (i := 93) (by decide +kernel))) rfl
theorem w5_95 : Cond.instanceMethod ⟨"GoodsDownhillModel", "isSold", "(III)Z"⟩ ∈ gtb := gtb_in (tin5 (List.mem_of_getElem? (i := 95) (by decide +kernel))) rfl
theorem w5_96 : Cond.code ⟨"GoodsDownhillModel", "isSold", "(III)Z"⟩ prog_14_method_59_code 5 (some .boolean) ∈ gtb := gtb_in (tin5 (List.mem_of_getElem? (i := 96) (by decide +kernel))) rfl
theorem hfam0 : ∀ ci, isF ci = true → ∀ (C : String) (TT : u_T) (N : Nat), vwCl[ci]? = some (C, TT, N) → (TT 0).1 = "GoodsDownhill$House" := by
  intro ci h C TT N hv
  rcases isF_c h with h | h | h | h | h | h <;> subst h <;> cases hv <;> rfl
theorem hfam1 : ∀ ci, isF ci = true → ∀ (C : String) (TT : u_T) (N : Nat), vwCl[ci]? = some (C, TT, N) → (TT 1).1 = "GoodsDownhill$House" := by
  intro ci h C TT N hv
  rcases isF_c h with h | h | h | h | h | h <;> subst h <;> cases hv <;> rfl
theorem hfam2 : ∀ ci, isF ci = true → ∀ (C : String) (TT : u_T) (N : Nat), vwCl[ci]? = some (C, TT, N) → (TT 2).1 = "GoodsDownhill$House" := by
  intro ci h C TT N hv
  rcases isF_c h with h | h | h | h | h | h <;> subst h <;> cases hv <;> rfl
theorem hfam3 : ∀ ci, isF ci = true → ∀ (C : String) (TT : u_T) (N : Nat), vwCl[ci]? = some (C, TT, N) → (TT 3).1 = "GoodsDownhill$House" := by
  intro ci h C TT N hv
  rcases isF_c h with h | h | h | h | h | h <;> subst h <;> cases hv <;> rfl
theorem hfam4 : ∀ ci, isF ci = true → ∀ (C : String) (TT : u_T) (N : Nat), vwCl[ci]? = some (C, TT, N) → (TT 4).1 = "GoodsDownhill$House" := by
  intro ci h C TT N hv
  rcases isF_c h with h | h | h | h | h | h <;> subst h <;> cases hv <;> rfl
theorem hfam5 : ∀ ci, isF ci = true → ∀ (C : String) (TT : u_T) (N : Nat), vwCl[ci]? = some (C, TT, N) → (TT 5).1 = "GoodsDownhill$House" := by
  intro ci h C TT N hv
  rcases isF_c h with h | h | h | h | h | h <;> subst h <;> cases hv <;> rfl
theorem fs0_13_0 : FS "GoodsDownhill$Cellared" 13 0 2 true .int := ⟨RX0, TX0, 6, "GoodsDownhill$House", rfl, by decide, w1_70, Or.inl rfl, rfl, tyX0_ok 2 (by decide)⟩
theorem fs0_13_2 : FS "GoodsDownhill$Cellared" 13 2 2 true .int := ⟨RX2, TX2, 6, "GoodsDownhill$House", rfl, by decide, w1_70, Or.inl rfl, rfl, tyX2_ok 2 (by decide)⟩
theorem fs0_13_3 : FS "GoodsDownhill$Cellared" 13 3 2 true .int := ⟨RX3, TX3, 6, "GoodsDownhill$House", rfl, by decide, w1_70, Or.inl rfl, rfl, tyX3_ok 2 (by decide)⟩
theorem fs0_13_4 : FS "GoodsDownhill$Cellared" 13 4 2 true .int := ⟨RX4, TX4, 6, "GoodsDownhill$House", rfl, by decide, w1_70, Or.inl rfl, rfl, tyX4_ok 2 (by decide)⟩
theorem fs0_13_5 : FS "GoodsDownhill$Cellared" 13 5 2 true .int := ⟨RX5, TX5, 6, "GoodsDownhill$House", rfl, by decide, w1_70, Or.inl rfl, rfl, tyX5_ok 2 (by decide)⟩
theorem fs0_13_8 : FS "GoodsDownhill$Cellared" 13 8 2 true .int := ⟨RX8, TX8, 6, "GoodsDownhill$House", rfl, by decide, w1_70, Or.inl rfl, rfl, tyX8_ok 2 (by decide)⟩
theorem fs0_16_0 : FS "GoodsDownhill$Cellared" 16 0 3 true .int := ⟨RX0, TX0, 6, "GoodsDownhill$House", rfl, by decide, w1_74, Or.inl rfl, rfl, tyX0_ok 3 (by decide)⟩
theorem fs0_16_2 : FS "GoodsDownhill$Cellared" 16 2 3 true .int := ⟨RX2, TX2, 6, "GoodsDownhill$House", rfl, by decide, w1_74, Or.inl rfl, rfl, tyX2_ok 3 (by decide)⟩
theorem fs0_16_3 : FS "GoodsDownhill$Cellared" 16 3 3 true .int := ⟨RX3, TX3, 6, "GoodsDownhill$House", rfl, by decide, w1_74, Or.inl rfl, rfl, tyX3_ok 3 (by decide)⟩
theorem fs0_16_4 : FS "GoodsDownhill$Cellared" 16 4 3 true .int := ⟨RX4, TX4, 6, "GoodsDownhill$House", rfl, by decide, w1_74, Or.inl rfl, rfl, tyX4_ok 3 (by decide)⟩
theorem fs0_16_5 : FS "GoodsDownhill$Cellared" 16 5 3 true .int := ⟨RX5, TX5, 6, "GoodsDownhill$House", rfl, by decide, w1_74, Or.inl rfl, rfl, tyX5_ok 3 (by decide)⟩
theorem fs0_16_8 : FS "GoodsDownhill$Cellared" 16 8 3 true .int := ⟨RX8, TX8, 6, "GoodsDownhill$House", rfl, by decide, w1_74, Or.inl rfl, rfl, tyX8_ok 3 (by decide)⟩
theorem fs0_19_0 : FS "GoodsDownhill$Cellared" 19 0 4 true .int := ⟨RX0, TX0, 6, "GoodsDownhill$House", rfl, by decide, w1_78, Or.inl rfl, rfl, tyX0_ok 4 (by decide)⟩
theorem fs0_19_2 : FS "GoodsDownhill$Cellared" 19 2 4 true .int := ⟨RX2, TX2, 6, "GoodsDownhill$House", rfl, by decide, w1_78, Or.inl rfl, rfl, tyX2_ok 4 (by decide)⟩
theorem fs0_19_3 : FS "GoodsDownhill$Cellared" 19 3 4 true .int := ⟨RX3, TX3, 6, "GoodsDownhill$House", rfl, by decide, w1_78, Or.inl rfl, rfl, tyX3_ok 4 (by decide)⟩
theorem fs0_19_4 : FS "GoodsDownhill$Cellared" 19 4 4 true .int := ⟨RX4, TX4, 6, "GoodsDownhill$House", rfl, by decide, w1_78, Or.inl rfl, rfl, tyX4_ok 4 (by decide)⟩
theorem fs0_19_5 : FS "GoodsDownhill$Cellared" 19 5 4 true .int := ⟨RX5, TX5, 6, "GoodsDownhill$House", rfl, by decide, w1_78, Or.inl rfl, rfl, tyX5_ok 4 (by decide)⟩
theorem fs0_19_8 : FS "GoodsDownhill$Cellared" 19 8 4 true .int := ⟨RX8, TX8, 6, "GoodsDownhill$House", rfl, by decide, w1_78, Or.inl rfl, rfl, tyX8_ok 4 (by decide)⟩
theorem fs0_22_0 : FS "GoodsDownhill$Cellared" 22 0 5 true .int := ⟨RX0, TX0, 6, "GoodsDownhill$House", rfl, by decide, w1_82, Or.inl rfl, rfl, tyX0_ok 5 (by decide)⟩
theorem fs0_22_2 : FS "GoodsDownhill$Cellared" 22 2 5 true .int := ⟨RX2, TX2, 6, "GoodsDownhill$House", rfl, by decide, w1_82, Or.inl rfl, rfl, tyX2_ok 5 (by decide)⟩
theorem fs0_22_3 : FS "GoodsDownhill$Cellared" 22 3 5 true .int := ⟨RX3, TX3, 6, "GoodsDownhill$House", rfl, by decide, w1_82, Or.inl rfl, rfl, tyX3_ok 5 (by decide)⟩
theorem fs0_22_4 : FS "GoodsDownhill$Cellared" 22 4 5 true .int := ⟨RX4, TX4, 6, "GoodsDownhill$House", rfl, by decide, w1_82, Or.inl rfl, rfl, tyX4_ok 5 (by decide)⟩
theorem fs0_22_5 : FS "GoodsDownhill$Cellared" 22 5 5 true .int := ⟨RX5, TX5, 6, "GoodsDownhill$House", rfl, by decide, w1_82, Or.inl rfl, rfl, tyX5_ok 5 (by decide)⟩
theorem fs0_22_8 : FS "GoodsDownhill$Cellared" 22 8 5 true .int := ⟨RX8, TX8, 6, "GoodsDownhill$House", rfl, by decide, w1_82, Or.inl rfl, rfl, tyX8_ok 5 (by decide)⟩
theorem fs0_26_0 : FS "GoodsDownhill$Cellared" 26 0 1 true .int := ⟨RX0, TX0, 6, "GoodsDownhill$Cellared", rfl, by decide, w1_66, Or.inr w1_67, rfl, tyX0_ok 1 (by decide)⟩
theorem fs0_26_2 : FS "GoodsDownhill$Cellared" 26 2 1 true .int := ⟨RX2, TX2, 6, "GoodsDownhill$Cellared", rfl, by decide, w1_66, Or.inr w1_67, rfl, tyX2_ok 1 (by decide)⟩
theorem fs0_26_3 : FS "GoodsDownhill$Cellared" 26 3 1 true .int := ⟨RX3, TX3, 6, "GoodsDownhill$Cellared", rfl, by decide, w1_66, Or.inr w1_67, rfl, tyX3_ok 1 (by decide)⟩
theorem fs0_26_4 : FS "GoodsDownhill$Cellared" 26 4 1 true .int := ⟨RX4, TX4, 6, "GoodsDownhill$Cellared", rfl, by decide, w1_66, Or.inr w1_67, rfl, tyX4_ok 1 (by decide)⟩
theorem fs0_26_5 : FS "GoodsDownhill$Cellared" 26 5 1 true .int := ⟨RX5, TX5, 6, "GoodsDownhill$Cellared", rfl, by decide, w1_66, Or.inr w1_67, rfl, tyX5_ok 1 (by decide)⟩
theorem fs0_26_8 : FS "GoodsDownhill$Cellared" 26 8 1 true .int := ⟨RX8, TX8, 6, "GoodsDownhill$Cellared", rfl, by decide, w1_66, Or.inr w1_67, rfl, tyX8_ok 1 (by decide)⟩
theorem fs0_27_0 : FS "GoodsDownhill$Cellared" 27 0 0 true .int := ⟨RX0, TX0, 6, "GoodsDownhill$Cellared", rfl, by decide, w1_55, Or.inr w1_56, rfl, tyX0_ok 0 (by decide)⟩
theorem fs0_27_2 : FS "GoodsDownhill$Cellared" 27 2 0 true .int := ⟨RX2, TX2, 6, "GoodsDownhill$Cellared", rfl, by decide, w1_55, Or.inr w1_56, rfl, tyX2_ok 0 (by decide)⟩
theorem fs0_27_3 : FS "GoodsDownhill$Cellared" 27 3 0 true .int := ⟨RX3, TX3, 6, "GoodsDownhill$Cellared", rfl, by decide, w1_55, Or.inr w1_56, rfl, tyX3_ok 0 (by decide)⟩
theorem fs0_27_4 : FS "GoodsDownhill$Cellared" 27 4 0 true .int := ⟨RX4, TX4, 6, "GoodsDownhill$Cellared", rfl, by decide, w1_55, Or.inr w1_56, rfl, tyX4_ok 0 (by decide)⟩
theorem fs0_27_5 : FS "GoodsDownhill$Cellared" 27 5 0 true .int := ⟨RX5, TX5, 6, "GoodsDownhill$Cellared", rfl, by decide, w1_55, Or.inr w1_56, rfl, tyX5_ok 0 (by decide)⟩
theorem fs0_27_8 : FS "GoodsDownhill$Cellared" 27 8 0 true .int := ⟨RX8, TX8, 6, "GoodsDownhill$Cellared", rfl, by decide, w1_55, Or.inr w1_56, rfl, tyX8_ok 0 (by decide)⟩
theorem fs0_9_0 : FS "GoodsDownhill$Cellared" 9 0 1 true .int := ⟨RX0, TX0, 6, "GoodsDownhill$House", rfl, by decide, w1_59, Or.inl rfl, rfl, tyX0_ok 1 (by decide)⟩
theorem fs0_9_2 : FS "GoodsDownhill$Cellared" 9 2 1 true .int := ⟨RX2, TX2, 6, "GoodsDownhill$House", rfl, by decide, w1_59, Or.inl rfl, rfl, tyX2_ok 1 (by decide)⟩
theorem fs0_9_3 : FS "GoodsDownhill$Cellared" 9 3 1 true .int := ⟨RX3, TX3, 6, "GoodsDownhill$House", rfl, by decide, w1_59, Or.inl rfl, rfl, tyX3_ok 1 (by decide)⟩
theorem fs0_9_4 : FS "GoodsDownhill$Cellared" 9 4 1 true .int := ⟨RX4, TX4, 6, "GoodsDownhill$House", rfl, by decide, w1_59, Or.inl rfl, rfl, tyX4_ok 1 (by decide)⟩
theorem fs0_9_5 : FS "GoodsDownhill$Cellared" 9 5 1 true .int := ⟨RX5, TX5, 6, "GoodsDownhill$House", rfl, by decide, w1_59, Or.inl rfl, rfl, tyX5_ok 1 (by decide)⟩
theorem fs0_9_8 : FS "GoodsDownhill$Cellared" 9 8 1 true .int := ⟨RX8, TX8, 6, "GoodsDownhill$House", rfl, by decide, w1_59, Or.inl rfl, rfl, tyX8_ok 1 (by decide)⟩
theorem fs10_15_6 : FS "GoodsDownhill$Trade" 15 6 0 true (.array (.object "GoodsDownhill$House")) := ⟨RX6, TX6, 9, "GoodsDownhill$Land", rfl, by decide, w1_100, Or.inl rfl, rfl, tyX6_ok 0 (by decide)⟩
theorem fs10_52_0 : FS "GoodsDownhill$Trade" 52 0 5 true .int := ⟨RX0, TX0, 6, "GoodsDownhill$House", rfl, by decide, w1_84, Or.inl rfl, rfl, tyX0_ok 5 (by decide)⟩
theorem fs10_52_2 : FS "GoodsDownhill$Trade" 52 2 5 true .int := ⟨RX2, TX2, 6, "GoodsDownhill$House", rfl, by decide, w1_84, Or.inl rfl, rfl, tyX2_ok 5 (by decide)⟩
theorem fs10_52_3 : FS "GoodsDownhill$Trade" 52 3 5 true .int := ⟨RX3, TX3, 6, "GoodsDownhill$House", rfl, by decide, w1_84, Or.inl rfl, rfl, tyX3_ok 5 (by decide)⟩
theorem fs10_52_4 : FS "GoodsDownhill$Trade" 52 4 5 true .int := ⟨RX4, TX4, 6, "GoodsDownhill$House", rfl, by decide, w1_84, Or.inl rfl, rfl, tyX4_ok 5 (by decide)⟩
theorem fs10_52_5 : FS "GoodsDownhill$Trade" 52 5 5 true .int := ⟨RX5, TX5, 6, "GoodsDownhill$House", rfl, by decide, w1_84, Or.inl rfl, rfl, tyX5_ok 5 (by decide)⟩
theorem fs10_52_8 : FS "GoodsDownhill$Trade" 52 8 5 true .int := ⟨RX8, TX8, 6, "GoodsDownhill$House", rfl, by decide, w1_84, Or.inl rfl, rfl, tyX8_ok 5 (by decide)⟩
theorem fs10_9_6 : FS "GoodsDownhill$Trade" 9 6 1 false .int := ⟨RX6, TX6, 9, "GoodsDownhill$Land", rfl, by decide, w1_102, Or.inl rfl, rfl, tyX6_ok 1 (by decide)⟩
theorem fs11_102_0 : FS "GoodsDownhill" 102 0 4 true .int := ⟨RX0, TX0, 6, "GoodsDownhill$House", rfl, by decide, w1_79, Or.inl rfl, rfl, tyX0_ok 4 (by decide)⟩
theorem fs11_102_2 : FS "GoodsDownhill" 102 2 4 true .int := ⟨RX2, TX2, 6, "GoodsDownhill$House", rfl, by decide, w1_79, Or.inl rfl, rfl, tyX2_ok 4 (by decide)⟩
theorem fs11_102_3 : FS "GoodsDownhill" 102 3 4 true .int := ⟨RX3, TX3, 6, "GoodsDownhill$House", rfl, by decide, w1_79, Or.inl rfl, rfl, tyX3_ok 4 (by decide)⟩
theorem fs11_102_4 : FS "GoodsDownhill" 102 4 4 true .int := ⟨RX4, TX4, 6, "GoodsDownhill$House", rfl, by decide, w1_79, Or.inl rfl, rfl, tyX4_ok 4 (by decide)⟩
theorem fs11_102_5 : FS "GoodsDownhill" 102 5 4 true .int := ⟨RX5, TX5, 6, "GoodsDownhill$House", rfl, by decide, w1_79, Or.inl rfl, rfl, tyX5_ok 4 (by decide)⟩
theorem fs11_102_8 : FS "GoodsDownhill" 102 8 4 true .int := ⟨RX8, TX8, 6, "GoodsDownhill$House", rfl, by decide, w1_79, Or.inl rfl, rfl, tyX8_ok 4 (by decide)⟩
theorem fs11_105_0 : FS "GoodsDownhill" 105 0 5 true .int := ⟨RX0, TX0, 6, "GoodsDownhill$House", rfl, by decide, w1_83, Or.inl rfl, rfl, tyX0_ok 5 (by decide)⟩
theorem fs11_105_2 : FS "GoodsDownhill" 105 2 5 true .int := ⟨RX2, TX2, 6, "GoodsDownhill$House", rfl, by decide, w1_83, Or.inl rfl, rfl, tyX2_ok 5 (by decide)⟩
theorem fs11_105_3 : FS "GoodsDownhill" 105 3 5 true .int := ⟨RX3, TX3, 6, "GoodsDownhill$House", rfl, by decide, w1_83, Or.inl rfl, rfl, tyX3_ok 5 (by decide)⟩
theorem fs11_105_4 : FS "GoodsDownhill" 105 4 5 true .int := ⟨RX4, TX4, 6, "GoodsDownhill$House", rfl, by decide, w1_83, Or.inl rfl, rfl, tyX4_ok 5 (by decide)⟩
theorem fs11_105_5 : FS "GoodsDownhill" 105 5 5 true .int := ⟨RX5, TX5, 6, "GoodsDownhill$House", rfl, by decide, w1_83, Or.inl rfl, rfl, tyX5_ok 5 (by decide)⟩
theorem fs11_105_8 : FS "GoodsDownhill" 105 8 5 true .int := ⟨RX8, TX8, 6, "GoodsDownhill$House", rfl, by decide, w1_83, Or.inl rfl, rfl, tyX8_ok 5 (by decide)⟩
theorem fs11_108_6 : FS "GoodsDownhill" 108 6 2 true (.array .int) := ⟨RX6, TX6, 9, "GoodsDownhill$Land", rfl, by decide, w1_106, Or.inl rfl, rfl, tyX6_ok 2 (by decide)⟩
theorem fs11_10_10 : FS "GoodsDownhill" 10 10 0 true (.object "GoodsDownhill$Land") := ⟨RX11, TX11, 10, "GoodsDownhill", rfl, by decide, w1_179, Or.inl rfl, rfl, tyX11_ok 0 (by decide)⟩
theorem fs11_118_6 : FS "GoodsDownhill" 118 6 4 true (.array .int) := ⟨RX6, TX6, 9, "GoodsDownhill$Land", rfl, by decide, w1_110, Or.inl rfl, rfl, tyX6_ok 4 (by decide)⟩
theorem fs11_124_6 : FS "GoodsDownhill" 124 6 6 false .int := ⟨RX6, TX6, 9, "GoodsDownhill$Land", rfl, by decide, w1_116, Or.inl rfl, rfl, tyX6_ok 6 (by decide)⟩
theorem fs11_134_6 : FS "GoodsDownhill" 134 6 1 false .int := ⟨RX6, TX6, 9, "GoodsDownhill$Land", rfl, by decide, w1_104, Or.inl rfl, rfl, tyX6_ok 1 (by decide)⟩
theorem fs11_135_6 : FS "GoodsDownhill" 135 6 7 false .int := ⟨RX6, TX6, 9, "GoodsDownhill$Land", rfl, by decide, w1_119, Or.inl rfl, rfl, tyX6_ok 7 (by decide)⟩
theorem fs11_142_6 : FS "GoodsDownhill" 142 6 3 true (.array .int) := ⟨RX6, TX6, 9, "GoodsDownhill$Land", rfl, by decide, w1_108, Or.inl rfl, rfl, tyX6_ok 3 (by decide)⟩
theorem fs11_145_6 : FS "GoodsDownhill" 145 6 5 true (.object "GoodsDownhill$Debts") := ⟨RX6, TX6, 9, "GoodsDownhill$Land", rfl, by decide, w1_113, Or.inl rfl, rfl, tyX6_ok 5 (by decide)⟩
theorem fs11_154_10 : FS "GoodsDownhill" 154 10 8 false .int := ⟨RX11, TX11, 10, "GoodsDownhill", rfl, by decide, w1_187, Or.inl rfl, rfl, tyX11_ok 8 (by decide)⟩
theorem fs11_157_6 : FS "GoodsDownhill" 157 6 8 false .int := ⟨RX6, TX6, 9, "GoodsDownhill$Land", rfl, by decide, w1_121, Or.inl rfl, rfl, tyX6_ok 8 (by decide)⟩
theorem fs11_16_10 : FS "GoodsDownhill" 16 10 1 true (.object "GoodsDownhill$Land") := ⟨RX11, TX11, 10, "GoodsDownhill", rfl, by decide, w1_180, Or.inl rfl, rfl, tyX11_ok 1 (by decide)⟩
theorem fs11_176_9 : FS "GoodsDownhill" 176 9 0 false .int := ⟨RX9, TX9, 4, "GoodsDownhill$Tally", rfl, by decide, w1_148, Or.inl rfl, rfl, tyX9_ok 0 (by decide)⟩
theorem fs11_193_9 : FS "GoodsDownhill" 193 9 2 false .int := ⟨RX9, TX9, 4, "GoodsDownhill$Tally", rfl, by decide, w1_153, Or.inl rfl, rfl, tyX9_ok 2 (by decide)⟩
theorem fs11_199_9 : FS "GoodsDownhill" 199 9 1 false .int := ⟨RX9, TX9, 4, "GoodsDownhill$Tally", rfl, by decide, w1_151, Or.inl rfl, rfl, tyX9_ok 1 (by decide)⟩
theorem fs11_19_10 : FS "GoodsDownhill" 19 10 2 true (.object "GoodsDownhill$Land") := ⟨RX11, TX11, 10, "GoodsDownhill", rfl, by decide, w1_181, Or.inl rfl, rfl, tyX11_ok 2 (by decide)⟩
theorem fs11_202_9 : FS "GoodsDownhill" 202 9 3 true (.array .int) := ⟨RX9, TX9, 4, "GoodsDownhill$Tally", rfl, by decide, w1_155, Or.inl rfl, rfl, tyX9_ok 3 (by decide)⟩
theorem fs11_240_10 : FS "GoodsDownhill" 240 10 3 false .boolean := ⟨RX11, TX11, 10, "GoodsDownhill", rfl, by decide, w1_182, Or.inl rfl, rfl, tyX11_ok 3 (by decide)⟩
theorem fs11_25_10 : FS "GoodsDownhill" 25 10 4 true (.object "GoodsDownhill$Tally") := ⟨RX11, TX11, 10, "GoodsDownhill", rfl, by decide, w1_183, Or.inl rfl, rfl, tyX11_ok 4 (by decide)⟩
theorem fs11_29_10 : FS "GoodsDownhill" 29 10 5 true (.object "GoodsDownhill$Tally") := ⟨RX11, TX11, 10, "GoodsDownhill", rfl, by decide, w1_184, Or.inl rfl, rfl, tyX11_ok 5 (by decide)⟩
theorem fs11_35_10 : FS "GoodsDownhill" 35 10 6 true (.object "GoodsDownhill$Letters") := ⟨RX11, TX11, 10, "GoodsDownhill", rfl, by decide, w1_185, Or.inl rfl, rfl, tyX11_ok 6 (by decide)⟩
theorem fs11_39_10 : FS "GoodsDownhill" 39 10 7 true (.array .int) := ⟨RX11, TX11, 10, "GoodsDownhill", rfl, by decide, w1_186, Or.inl rfl, rfl, tyX11_ok 7 (by decide)⟩
theorem fs11_43_10 : FS "GoodsDownhill" 43 10 9 true (.array .int) := ⟨RX11, TX11, 10, "GoodsDownhill", rfl, by decide, w1_188, Or.inl rfl, rfl, tyX11_ok 9 (by decide)⟩
theorem fs11_58_7 : FS "GoodsDownhill" 58 7 1 false .int := ⟨RX7, TX7, 2, "GoodsDownhill$Letters", rfl, by decide, w1_173, Or.inl rfl, rfl, tyX7_ok 1 (by decide)⟩
theorem fs11_74_6 : FS "GoodsDownhill" 74 6 0 true (.array (.object "GoodsDownhill$House")) := ⟨RX6, TX6, 9, "GoodsDownhill$Land", rfl, by decide, w1_101, Or.inl rfl, rfl, tyX6_ok 0 (by decide)⟩
theorem fs11_84_0 : FS "GoodsDownhill" 84 0 0 true .int := ⟨RX0, TX0, 6, "GoodsDownhill$House", rfl, by decide, w1_57, Or.inl rfl, rfl, tyX0_ok 0 (by decide)⟩
theorem fs11_84_2 : FS "GoodsDownhill" 84 2 0 true .int := ⟨RX2, TX2, 6, "GoodsDownhill$House", rfl, by decide, w1_57, Or.inl rfl, rfl, tyX2_ok 0 (by decide)⟩
theorem fs11_84_3 : FS "GoodsDownhill" 84 3 0 true .int := ⟨RX3, TX3, 6, "GoodsDownhill$House", rfl, by decide, w1_57, Or.inl rfl, rfl, tyX3_ok 0 (by decide)⟩
theorem fs11_84_4 : FS "GoodsDownhill" 84 4 0 true .int := ⟨RX4, TX4, 6, "GoodsDownhill$House", rfl, by decide, w1_57, Or.inl rfl, rfl, tyX4_ok 0 (by decide)⟩
theorem fs11_84_5 : FS "GoodsDownhill" 84 5 0 true .int := ⟨RX5, TX5, 6, "GoodsDownhill$House", rfl, by decide, w1_57, Or.inl rfl, rfl, tyX5_ok 0 (by decide)⟩
theorem fs11_84_8 : FS "GoodsDownhill" 84 8 0 true .int := ⟨RX8, TX8, 6, "GoodsDownhill$House", rfl, by decide, w1_57, Or.inl rfl, rfl, tyX8_ok 0 (by decide)⟩
theorem fs11_87_0 : FS "GoodsDownhill" 87 0 1 true .int := ⟨RX0, TX0, 6, "GoodsDownhill$House", rfl, by decide, w1_68, Or.inl rfl, rfl, tyX0_ok 1 (by decide)⟩
theorem fs11_87_2 : FS "GoodsDownhill" 87 2 1 true .int := ⟨RX2, TX2, 6, "GoodsDownhill$House", rfl, by decide, w1_68, Or.inl rfl, rfl, tyX2_ok 1 (by decide)⟩
theorem fs11_87_3 : FS "GoodsDownhill" 87 3 1 true .int := ⟨RX3, TX3, 6, "GoodsDownhill$House", rfl, by decide, w1_68, Or.inl rfl, rfl, tyX3_ok 1 (by decide)⟩
theorem fs11_87_4 : FS "GoodsDownhill" 87 4 1 true .int := ⟨RX4, TX4, 6, "GoodsDownhill$House", rfl, by decide, w1_68, Or.inl rfl, rfl, tyX4_ok 1 (by decide)⟩
theorem fs11_87_5 : FS "GoodsDownhill" 87 5 1 true .int := ⟨RX5, TX5, 6, "GoodsDownhill$House", rfl, by decide, w1_68, Or.inl rfl, rfl, tyX5_ok 1 (by decide)⟩
theorem fs11_87_8 : FS "GoodsDownhill" 87 8 1 true .int := ⟨RX8, TX8, 6, "GoodsDownhill$House", rfl, by decide, w1_68, Or.inl rfl, rfl, tyX8_ok 1 (by decide)⟩
theorem fs11_96_0 : FS "GoodsDownhill" 96 0 2 true .int := ⟨RX0, TX0, 6, "GoodsDownhill$House", rfl, by decide, w1_71, Or.inl rfl, rfl, tyX0_ok 2 (by decide)⟩
theorem fs11_96_2 : FS "GoodsDownhill" 96 2 2 true .int := ⟨RX2, TX2, 6, "GoodsDownhill$House", rfl, by decide, w1_71, Or.inl rfl, rfl, tyX2_ok 2 (by decide)⟩
theorem fs11_96_3 : FS "GoodsDownhill" 96 3 2 true .int := ⟨RX3, TX3, 6, "GoodsDownhill$House", rfl, by decide, w1_71, Or.inl rfl, rfl, tyX3_ok 2 (by decide)⟩
theorem fs11_96_4 : FS "GoodsDownhill" 96 4 2 true .int := ⟨RX4, TX4, 6, "GoodsDownhill$House", rfl, by decide, w1_71, Or.inl rfl, rfl, tyX4_ok 2 (by decide)⟩
theorem fs11_96_5 : FS "GoodsDownhill" 96 5 2 true .int := ⟨RX5, TX5, 6, "GoodsDownhill$House", rfl, by decide, w1_71, Or.inl rfl, rfl, tyX5_ok 2 (by decide)⟩
theorem fs11_96_8 : FS "GoodsDownhill" 96 8 2 true .int := ⟨RX8, TX8, 6, "GoodsDownhill$House", rfl, by decide, w1_71, Or.inl rfl, rfl, tyX8_ok 2 (by decide)⟩
theorem fs11_99_0 : FS "GoodsDownhill" 99 0 3 true .int := ⟨RX0, TX0, 6, "GoodsDownhill$House", rfl, by decide, w1_75, Or.inl rfl, rfl, tyX0_ok 3 (by decide)⟩
theorem fs11_99_2 : FS "GoodsDownhill" 99 2 3 true .int := ⟨RX2, TX2, 6, "GoodsDownhill$House", rfl, by decide, w1_75, Or.inl rfl, rfl, tyX2_ok 3 (by decide)⟩
theorem fs11_99_3 : FS "GoodsDownhill" 99 3 3 true .int := ⟨RX3, TX3, 6, "GoodsDownhill$House", rfl, by decide, w1_75, Or.inl rfl, rfl, tyX3_ok 3 (by decide)⟩
theorem fs11_99_4 : FS "GoodsDownhill" 99 4 3 true .int := ⟨RX4, TX4, 6, "GoodsDownhill$House", rfl, by decide, w1_75, Or.inl rfl, rfl, tyX4_ok 3 (by decide)⟩
theorem fs11_99_5 : FS "GoodsDownhill" 99 5 3 true .int := ⟨RX5, TX5, 6, "GoodsDownhill$House", rfl, by decide, w1_75, Or.inl rfl, rfl, tyX5_ok 3 (by decide)⟩
theorem fs11_99_8 : FS "GoodsDownhill" 99 8 3 true .int := ⟨RX8, TX8, 6, "GoodsDownhill$House", rfl, by decide, w1_75, Or.inl rfl, rfl, tyX8_ok 3 (by decide)⟩
theorem fs12_115_11 : FS "GoodsDownhillModel" 115 11 17 false .int := ⟨RX12, TX12, 38, "GoodsDownhillModel", rfl, by decide, w4_5, Or.inl rfl, rfl, tyX12_ok 17 (by decide)⟩
theorem fs12_122_11 : FS "GoodsDownhillModel" 122 11 2 false .int := ⟨RX12, TX12, 38, "GoodsDownhillModel", rfl, by decide, w3_230, Or.inl rfl, rfl, tyX12_ok 2 (by decide)⟩
theorem fs12_133_11 : FS "GoodsDownhillModel" 133 11 19 false .int := ⟨RX12, TX12, 38, "GoodsDownhillModel", rfl, by decide, w4_7, Or.inl rfl, rfl, tyX12_ok 19 (by decide)⟩
theorem fs12_13_11 : FS "GoodsDownhillModel" 13 11 5 true (.array .int) := ⟨RX12, TX12, 38, "GoodsDownhillModel", rfl, by decide, w3_233, Or.inl rfl, rfl, tyX12_ok 5 (by decide)⟩
theorem fs12_140_11 : FS "GoodsDownhillModel" 140 11 24 false .boolean := ⟨RX12, TX12, 38, "GoodsDownhillModel", rfl, by decide, w4_12, Or.inl rfl, rfl, tyX12_ok 24 (by decide)⟩
theorem fs12_144_11 : FS "GoodsDownhillModel" 144 11 25 false (.array .int) := ⟨RX12, TX12, 38, "GoodsDownhillModel", rfl, by decide, w4_13, Or.inl rfl, rfl, tyX12_ok 25 (by decide)⟩
theorem fs12_147_11 : FS "GoodsDownhillModel" 147 11 23 false .int := ⟨RX12, TX12, 38, "GoodsDownhillModel", rfl, by decide, w4_11, Or.inl rfl, rfl, tyX12_ok 23 (by decide)⟩
theorem fs12_153_11 : FS "GoodsDownhillModel" 153 11 3 false .int := ⟨RX12, TX12, 38, "GoodsDownhillModel", rfl, by decide, w3_231, Or.inl rfl, rfl, tyX12_ok 3 (by decide)⟩
theorem fs12_160_11 : FS "GoodsDownhillModel" 160 11 22 false .boolean := ⟨RX12, TX12, 38, "GoodsDownhillModel", rfl, by decide, w4_10, Or.inl rfl, rfl, tyX12_ok 22 (by decide)⟩
theorem fs12_166_11 : FS "GoodsDownhillModel" 166 11 27 false .int := ⟨RX12, TX12, 38, "GoodsDownhillModel", rfl, by decide, w4_15, Or.inl rfl, rfl, tyX12_ok 27 (by decide)⟩
theorem fs12_169_11 : FS "GoodsDownhillModel" 169 11 28 false .int := ⟨RX12, TX12, 38, "GoodsDownhillModel", rfl, by decide, w4_16, Or.inl rfl, rfl, tyX12_ok 28 (by decide)⟩
theorem fs12_16_11 : FS "GoodsDownhillModel" 16 11 6 true (.array .int) := ⟨RX12, TX12, 38, "GoodsDownhillModel", rfl, by decide, w3_234, Or.inl rfl, rfl, tyX12_ok 6 (by decide)⟩
theorem fs12_172_11 : FS "GoodsDownhillModel" 172 11 29 false .boolean := ⟨RX12, TX12, 38, "GoodsDownhillModel", rfl, by decide, w4_17, Or.inl rfl, rfl, tyX12_ok 29 (by decide)⟩
theorem fs12_186_11 : FS "GoodsDownhillModel" 186 11 30 false .int := ⟨RX12, TX12, 38, "GoodsDownhillModel", rfl, by decide, w4_18, Or.inl rfl, rfl, tyX12_ok 30 (by decide)⟩
theorem fs12_19_11 : FS "GoodsDownhillModel" 19 11 7 true (.array .int) := ⟨RX12, TX12, 38, "GoodsDownhillModel", rfl, by decide, w3_235, Or.inl rfl, rfl, tyX12_ok 7 (by decide)⟩
theorem fs12_22_11 : FS "GoodsDownhillModel" 22 11 8 true (.array .int) := ⟨RX12, TX12, 38, "GoodsDownhillModel", rfl, by decide, w3_236, Or.inl rfl, rfl, tyX12_ok 8 (by decide)⟩
theorem fs12_233_11 : FS "GoodsDownhillModel" 233 11 36 false .int := ⟨RX12, TX12, 38, "GoodsDownhillModel", rfl, by decide, w4_24, Or.inl rfl, rfl, tyX12_ok 36 (by decide)⟩
theorem fs12_239_11 : FS "GoodsDownhillModel" 239 11 37 false .int := ⟨RX12, TX12, 38, "GoodsDownhillModel", rfl, by decide, w4_25, Or.inl rfl, rfl, tyX12_ok 37 (by decide)⟩
theorem fs12_25_11 : FS "GoodsDownhillModel" 25 11 9 true (.array .int) := ⟨RX12, TX12, 38, "GoodsDownhillModel", rfl, by decide, w3_237, Or.inl rfl, rfl, tyX12_ok 9 (by decide)⟩
theorem fs12_28_11 : FS "GoodsDownhillModel" 28 11 10 true (.array .int) := ⟨RX12, TX12, 38, "GoodsDownhillModel", rfl, by decide, w3_238, Or.inl rfl, rfl, tyX12_ok 10 (by decide)⟩
theorem fs12_31_11 : FS "GoodsDownhillModel" 31 11 11 true (.array .int) := ⟨RX12, TX12, 38, "GoodsDownhillModel", rfl, by decide, w3_239, Or.inl rfl, rfl, tyX12_ok 11 (by decide)⟩
theorem fs12_34_11 : FS "GoodsDownhillModel" 34 11 12 true (.array .int) := ⟨RX12, TX12, 38, "GoodsDownhillModel", rfl, by decide, w4_0, Or.inl rfl, rfl, tyX12_ok 12 (by decide)⟩
theorem fs12_37_11 : FS "GoodsDownhillModel" 37 11 13 true (.array .int) := ⟨RX12, TX12, 38, "GoodsDownhillModel", rfl, by decide, w4_1, Or.inl rfl, rfl, tyX12_ok 13 (by decide)⟩
theorem fs12_40_11 : FS "GoodsDownhillModel" 40 11 14 true (.array .int) := ⟨RX12, TX12, 38, "GoodsDownhillModel", rfl, by decide, w4_2, Or.inl rfl, rfl, tyX12_ok 14 (by decide)⟩
theorem fs12_43_11 : FS "GoodsDownhillModel" 43 11 16 true (.array .int) := ⟨RX12, TX12, 38, "GoodsDownhillModel", rfl, by decide, w4_4, Or.inl rfl, rfl, tyX12_ok 16 (by decide)⟩
theorem fs12_46_11 : FS "GoodsDownhillModel" 46 11 18 true (.array .int) := ⟨RX12, TX12, 38, "GoodsDownhillModel", rfl, by decide, w4_6, Or.inl rfl, rfl, tyX12_ok 18 (by decide)⟩
theorem fs12_49_11 : FS "GoodsDownhillModel" 49 11 20 true (.array .int) := ⟨RX12, TX12, 38, "GoodsDownhillModel", rfl, by decide, w4_8, Or.inl rfl, rfl, tyX12_ok 20 (by decide)⟩
theorem fs12_52_11 : FS "GoodsDownhillModel" 52 11 21 true (.array .int) := ⟨RX12, TX12, 38, "GoodsDownhillModel", rfl, by decide, w4_9, Or.inl rfl, rfl, tyX12_ok 21 (by decide)⟩
theorem fs12_55_11 : FS "GoodsDownhillModel" 55 11 26 true (.array .int) := ⟨RX12, TX12, 38, "GoodsDownhillModel", rfl, by decide, w4_14, Or.inl rfl, rfl, tyX12_ok 26 (by decide)⟩
theorem fs12_58_11 : FS "GoodsDownhillModel" 58 11 31 true (.array .int) := ⟨RX12, TX12, 38, "GoodsDownhillModel", rfl, by decide, w4_19, Or.inl rfl, rfl, tyX12_ok 31 (by decide)⟩
theorem fs12_61_11 : FS "GoodsDownhillModel" 61 11 32 true (.array .int) := ⟨RX12, TX12, 38, "GoodsDownhillModel", rfl, by decide, w4_20, Or.inl rfl, rfl, tyX12_ok 32 (by decide)⟩
theorem fs12_64_11 : FS "GoodsDownhillModel" 64 11 33 true (.array .int) := ⟨RX12, TX12, 38, "GoodsDownhillModel", rfl, by decide, w4_21, Or.inl rfl, rfl, tyX12_ok 33 (by decide)⟩
theorem fs12_67_11 : FS "GoodsDownhillModel" 67 11 34 true (.array .int) := ⟨RX12, TX12, 38, "GoodsDownhillModel", rfl, by decide, w4_22, Or.inl rfl, rfl, tyX12_ok 34 (by decide)⟩
theorem fs12_70_11 : FS "GoodsDownhillModel" 70 11 35 true (.array .int) := ⟨RX12, TX12, 38, "GoodsDownhillModel", rfl, by decide, w4_23, Or.inl rfl, rfl, tyX12_ok 35 (by decide)⟩
theorem fs12_73_11 : FS "GoodsDownhillModel" 73 11 15 false .int := ⟨RX12, TX12, 38, "GoodsDownhillModel", rfl, by decide, w4_3, Or.inl rfl, rfl, tyX12_ok 15 (by decide)⟩
theorem fs12_77_11 : FS "GoodsDownhillModel" 77 11 0 false .int := ⟨RX12, TX12, 38, "GoodsDownhillModel", rfl, by decide, w3_228, Or.inl rfl, rfl, tyX12_ok 0 (by decide)⟩
theorem fs12_7_11 : FS "GoodsDownhillModel" 7 11 4 true (.array .int) := ⟨RX12, TX12, 38, "GoodsDownhillModel", rfl, by decide, w3_232, Or.inl rfl, rfl, tyX12_ok 4 (by decide)⟩
theorem fs12_97_11 : FS "GoodsDownhillModel" 97 11 1 false .int := ⟨RX12, TX12, 38, "GoodsDownhillModel", rfl, by decide, w3_229, Or.inl rfl, rfl, tyX12_ok 1 (by decide)⟩
theorem fs1_9_1 : FS "GoodsDownhill$Debts" 9 1 0 true (.array .int) := ⟨RX1, TX1, 1, "GoodsDownhill$Debts", rfl, by decide, w1_38, Or.inl rfl, rfl, tyX1_ok 0 (by decide)⟩
theorem fs2_13_0 : FS "GoodsDownhill$Feigned" 13 0 0 true .int := ⟨RX0, TX0, 6, "GoodsDownhill$Feigned", rfl, by decide, w1_53, Or.inr w1_54, rfl, tyX0_ok 0 (by decide)⟩
theorem fs2_13_2 : FS "GoodsDownhill$Feigned" 13 2 0 true .int := ⟨RX2, TX2, 6, "GoodsDownhill$Feigned", rfl, by decide, w1_53, Or.inr w1_54, rfl, tyX2_ok 0 (by decide)⟩
theorem fs2_13_3 : FS "GoodsDownhill$Feigned" 13 3 0 true .int := ⟨RX3, TX3, 6, "GoodsDownhill$Feigned", rfl, by decide, w1_53, Or.inr w1_54, rfl, tyX3_ok 0 (by decide)⟩
theorem fs2_13_4 : FS "GoodsDownhill$Feigned" 13 4 0 true .int := ⟨RX4, TX4, 6, "GoodsDownhill$Feigned", rfl, by decide, w1_53, Or.inr w1_54, rfl, tyX4_ok 0 (by decide)⟩
theorem fs2_13_5 : FS "GoodsDownhill$Feigned" 13 5 0 true .int := ⟨RX5, TX5, 6, "GoodsDownhill$Feigned", rfl, by decide, w1_53, Or.inr w1_54, rfl, tyX5_ok 0 (by decide)⟩
theorem fs2_13_8 : FS "GoodsDownhill$Feigned" 13 8 0 true .int := ⟨RX8, TX8, 6, "GoodsDownhill$Feigned", rfl, by decide, w1_53, Or.inr w1_54, rfl, tyX8_ok 0 (by decide)⟩
theorem fs2_7_0 : FS "GoodsDownhill$Feigned" 7 0 1 true .int := ⟨RX0, TX0, 6, "GoodsDownhill$Feigned", rfl, by decide, w1_64, Or.inr w1_65, rfl, tyX0_ok 1 (by decide)⟩
theorem fs2_7_2 : FS "GoodsDownhill$Feigned" 7 2 1 true .int := ⟨RX2, TX2, 6, "GoodsDownhill$Feigned", rfl, by decide, w1_64, Or.inr w1_65, rfl, tyX2_ok 1 (by decide)⟩
theorem fs2_7_3 : FS "GoodsDownhill$Feigned" 7 3 1 true .int := ⟨RX3, TX3, 6, "GoodsDownhill$Feigned", rfl, by decide, w1_64, Or.inr w1_65, rfl, tyX3_ok 1 (by decide)⟩
theorem fs2_7_4 : FS "GoodsDownhill$Feigned" 7 4 1 true .int := ⟨RX4, TX4, 6, "GoodsDownhill$Feigned", rfl, by decide, w1_64, Or.inr w1_65, rfl, tyX4_ok 1 (by decide)⟩
theorem fs2_7_5 : FS "GoodsDownhill$Feigned" 7 5 1 true .int := ⟨RX5, TX5, 6, "GoodsDownhill$Feigned", rfl, by decide, w1_64, Or.inr w1_65, rfl, tyX5_ok 1 (by decide)⟩
theorem fs2_7_8 : FS "GoodsDownhill$Feigned" 7 8 1 true .int := ⟨RX8, TX8, 6, "GoodsDownhill$Feigned", rfl, by decide, w1_64, Or.inr w1_65, rfl, tyX8_ok 1 (by decide)⟩
theorem fs4_13_0 : FS "GoodsDownhill$House" 13 0 1 true .int := ⟨RX0, TX0, 6, "GoodsDownhill$House", rfl, by decide, w1_58, Or.inl rfl, rfl, tyX0_ok 1 (by decide)⟩
theorem fs4_13_2 : FS "GoodsDownhill$House" 13 2 1 true .int := ⟨RX2, TX2, 6, "GoodsDownhill$House", rfl, by decide, w1_58, Or.inl rfl, rfl, tyX2_ok 1 (by decide)⟩
theorem fs4_13_3 : FS "GoodsDownhill$House" 13 3 1 true .int := ⟨RX3, TX3, 6, "GoodsDownhill$House", rfl, by decide, w1_58, Or.inl rfl, rfl, tyX3_ok 1 (by decide)⟩
theorem fs4_13_4 : FS "GoodsDownhill$House" 13 4 1 true .int := ⟨RX4, TX4, 6, "GoodsDownhill$House", rfl, by decide, w1_58, Or.inl rfl, rfl, tyX4_ok 1 (by decide)⟩
theorem fs4_13_5 : FS "GoodsDownhill$House" 13 5 1 true .int := ⟨RX5, TX5, 6, "GoodsDownhill$House", rfl, by decide, w1_58, Or.inl rfl, rfl, tyX5_ok 1 (by decide)⟩
theorem fs4_13_8 : FS "GoodsDownhill$House" 13 8 1 true .int := ⟨RX8, TX8, 6, "GoodsDownhill$House", rfl, by decide, w1_58, Or.inl rfl, rfl, tyX8_ok 1 (by decide)⟩
theorem fs4_16_0 : FS "GoodsDownhill$House" 16 0 2 true .int := ⟨RX0, TX0, 6, "GoodsDownhill$House", rfl, by decide, w1_69, Or.inl rfl, rfl, tyX0_ok 2 (by decide)⟩
theorem fs4_16_2 : FS "GoodsDownhill$House" 16 2 2 true .int := ⟨RX2, TX2, 6, "GoodsDownhill$House", rfl, by decide, w1_69, Or.inl rfl, rfl, tyX2_ok 2 (by decide)⟩
theorem fs4_16_3 : FS "GoodsDownhill$House" 16 3 2 true .int := ⟨RX3, TX3, 6, "GoodsDownhill$House", rfl, by decide, w1_69, Or.inl rfl, rfl, tyX3_ok 2 (by decide)⟩
theorem fs4_16_4 : FS "GoodsDownhill$House" 16 4 2 true .int := ⟨RX4, TX4, 6, "GoodsDownhill$House", rfl, by decide, w1_69, Or.inl rfl, rfl, tyX4_ok 2 (by decide)⟩
theorem fs4_16_5 : FS "GoodsDownhill$House" 16 5 2 true .int := ⟨RX5, TX5, 6, "GoodsDownhill$House", rfl, by decide, w1_69, Or.inl rfl, rfl, tyX5_ok 2 (by decide)⟩
theorem fs4_16_8 : FS "GoodsDownhill$House" 16 8 2 true .int := ⟨RX8, TX8, 6, "GoodsDownhill$House", rfl, by decide, w1_69, Or.inl rfl, rfl, tyX8_ok 2 (by decide)⟩
theorem fs4_19_0 : FS "GoodsDownhill$House" 19 0 3 true .int := ⟨RX0, TX0, 6, "GoodsDownhill$House", rfl, by decide, w1_73, Or.inl rfl, rfl, tyX0_ok 3 (by decide)⟩
theorem fs4_19_2 : FS "GoodsDownhill$House" 19 2 3 true .int := ⟨RX2, TX2, 6, "GoodsDownhill$House", rfl, by decide, w1_73, Or.inl rfl, rfl, tyX2_ok 3 (by decide)⟩
theorem fs4_19_3 : FS "GoodsDownhill$House" 19 3 3 true .int := ⟨RX3, TX3, 6, "GoodsDownhill$House", rfl, by decide, w1_73, Or.inl rfl, rfl, tyX3_ok 3 (by decide)⟩
theorem fs4_19_4 : FS "GoodsDownhill$House" 19 4 3 true .int := ⟨RX4, TX4, 6, "GoodsDownhill$House", rfl, by decide, w1_73, Or.inl rfl, rfl, tyX4_ok 3 (by decide)⟩
theorem fs4_19_5 : FS "GoodsDownhill$House" 19 5 3 true .int := ⟨RX5, TX5, 6, "GoodsDownhill$House", rfl, by decide, w1_73, Or.inl rfl, rfl, tyX5_ok 3 (by decide)⟩
theorem fs4_19_8 : FS "GoodsDownhill$House" 19 8 3 true .int := ⟨RX8, TX8, 6, "GoodsDownhill$House", rfl, by decide, w1_73, Or.inl rfl, rfl, tyX8_ok 3 (by decide)⟩
theorem fs4_22_0 : FS "GoodsDownhill$House" 22 0 4 true .int := ⟨RX0, TX0, 6, "GoodsDownhill$House", rfl, by decide, w1_77, Or.inl rfl, rfl, tyX0_ok 4 (by decide)⟩
theorem fs4_22_2 : FS "GoodsDownhill$House" 22 2 4 true .int := ⟨RX2, TX2, 6, "GoodsDownhill$House", rfl, by decide, w1_77, Or.inl rfl, rfl, tyX2_ok 4 (by decide)⟩
theorem fs4_22_3 : FS "GoodsDownhill$House" 22 3 4 true .int := ⟨RX3, TX3, 6, "GoodsDownhill$House", rfl, by decide, w1_77, Or.inl rfl, rfl, tyX3_ok 4 (by decide)⟩
theorem fs4_22_4 : FS "GoodsDownhill$House" 22 4 4 true .int := ⟨RX4, TX4, 6, "GoodsDownhill$House", rfl, by decide, w1_77, Or.inl rfl, rfl, tyX4_ok 4 (by decide)⟩
theorem fs4_22_5 : FS "GoodsDownhill$House" 22 5 4 true .int := ⟨RX5, TX5, 6, "GoodsDownhill$House", rfl, by decide, w1_77, Or.inl rfl, rfl, tyX5_ok 4 (by decide)⟩
theorem fs4_22_8 : FS "GoodsDownhill$House" 22 8 4 true .int := ⟨RX8, TX8, 6, "GoodsDownhill$House", rfl, by decide, w1_77, Or.inl rfl, rfl, tyX8_ok 4 (by decide)⟩
theorem fs4_25_0 : FS "GoodsDownhill$House" 25 0 5 true .int := ⟨RX0, TX0, 6, "GoodsDownhill$House", rfl, by decide, w1_81, Or.inl rfl, rfl, tyX0_ok 5 (by decide)⟩
theorem fs4_25_2 : FS "GoodsDownhill$House" 25 2 5 true .int := ⟨RX2, TX2, 6, "GoodsDownhill$House", rfl, by decide, w1_81, Or.inl rfl, rfl, tyX2_ok 5 (by decide)⟩
theorem fs4_25_3 : FS "GoodsDownhill$House" 25 3 5 true .int := ⟨RX3, TX3, 6, "GoodsDownhill$House", rfl, by decide, w1_81, Or.inl rfl, rfl, tyX3_ok 5 (by decide)⟩
theorem fs4_25_4 : FS "GoodsDownhill$House" 25 4 5 true .int := ⟨RX4, TX4, 6, "GoodsDownhill$House", rfl, by decide, w1_81, Or.inl rfl, rfl, tyX4_ok 5 (by decide)⟩
theorem fs4_25_5 : FS "GoodsDownhill$House" 25 5 5 true .int := ⟨RX5, TX5, 6, "GoodsDownhill$House", rfl, by decide, w1_81, Or.inl rfl, rfl, tyX5_ok 5 (by decide)⟩
theorem fs4_25_8 : FS "GoodsDownhill$House" 25 8 5 true .int := ⟨RX8, TX8, 6, "GoodsDownhill$House", rfl, by decide, w1_81, Or.inl rfl, rfl, tyX8_ok 5 (by decide)⟩
theorem fs4_7_0 : FS "GoodsDownhill$House" 7 0 0 true .int := ⟨RX0, TX0, 6, "GoodsDownhill$House", rfl, by decide, w1_48, Or.inl rfl, rfl, tyX0_ok 0 (by decide)⟩
theorem fs4_7_2 : FS "GoodsDownhill$House" 7 2 0 true .int := ⟨RX2, TX2, 6, "GoodsDownhill$House", rfl, by decide, w1_48, Or.inl rfl, rfl, tyX2_ok 0 (by decide)⟩
theorem fs4_7_3 : FS "GoodsDownhill$House" 7 3 0 true .int := ⟨RX3, TX3, 6, "GoodsDownhill$House", rfl, by decide, w1_48, Or.inl rfl, rfl, tyX3_ok 0 (by decide)⟩
theorem fs4_7_4 : FS "GoodsDownhill$House" 7 4 0 true .int := ⟨RX4, TX4, 6, "GoodsDownhill$House", rfl, by decide, w1_48, Or.inl rfl, rfl, tyX4_ok 0 (by decide)⟩
theorem fs4_7_5 : FS "GoodsDownhill$House" 7 5 0 true .int := ⟨RX5, TX5, 6, "GoodsDownhill$House", rfl, by decide, w1_48, Or.inl rfl, rfl, tyX5_ok 0 (by decide)⟩
theorem fs4_7_8 : FS "GoodsDownhill$House" 7 8 0 true .int := ⟨RX8, TX8, 6, "GoodsDownhill$House", rfl, by decide, w1_48, Or.inl rfl, rfl, tyX8_ok 0 (by decide)⟩
theorem fs5_13_0 : FS "GoodsDownhill$Joined" 13 0 0 true .int := ⟨RX0, TX0, 6, "GoodsDownhill$Joined", rfl, by decide, w1_51, Or.inr w1_52, rfl, tyX0_ok 0 (by decide)⟩
theorem fs5_13_2 : FS "GoodsDownhill$Joined" 13 2 0 true .int := ⟨RX2, TX2, 6, "GoodsDownhill$Joined", rfl, by decide, w1_51, Or.inr w1_52, rfl, tyX2_ok 0 (by decide)⟩
theorem fs5_13_3 : FS "GoodsDownhill$Joined" 13 3 0 true .int := ⟨RX3, TX3, 6, "GoodsDownhill$Joined", rfl, by decide, w1_51, Or.inr w1_52, rfl, tyX3_ok 0 (by decide)⟩
theorem fs5_13_4 : FS "GoodsDownhill$Joined" 13 4 0 true .int := ⟨RX4, TX4, 6, "GoodsDownhill$Joined", rfl, by decide, w1_51, Or.inr w1_52, rfl, tyX4_ok 0 (by decide)⟩
theorem fs5_13_5 : FS "GoodsDownhill$Joined" 13 5 0 true .int := ⟨RX5, TX5, 6, "GoodsDownhill$Joined", rfl, by decide, w1_51, Or.inr w1_52, rfl, tyX5_ok 0 (by decide)⟩
theorem fs5_13_8 : FS "GoodsDownhill$Joined" 13 8 0 true .int := ⟨RX8, TX8, 6, "GoodsDownhill$Joined", rfl, by decide, w1_51, Or.inr w1_52, rfl, tyX8_ok 0 (by decide)⟩
theorem fs5_7_0 : FS "GoodsDownhill$Joined" 7 0 1 true .int := ⟨RX0, TX0, 6, "GoodsDownhill$Joined", rfl, by decide, w1_62, Or.inr w1_63, rfl, tyX0_ok 1 (by decide)⟩
theorem fs5_7_2 : FS "GoodsDownhill$Joined" 7 2 1 true .int := ⟨RX2, TX2, 6, "GoodsDownhill$Joined", rfl, by decide, w1_62, Or.inr w1_63, rfl, tyX2_ok 1 (by decide)⟩
theorem fs5_7_3 : FS "GoodsDownhill$Joined" 7 3 1 true .int := ⟨RX3, TX3, 6, "GoodsDownhill$Joined", rfl, by decide, w1_62, Or.inr w1_63, rfl, tyX3_ok 1 (by decide)⟩
theorem fs5_7_4 : FS "GoodsDownhill$Joined" 7 4 1 true .int := ⟨RX4, TX4, 6, "GoodsDownhill$Joined", rfl, by decide, w1_62, Or.inr w1_63, rfl, tyX4_ok 1 (by decide)⟩
theorem fs5_7_5 : FS "GoodsDownhill$Joined" 7 5 1 true .int := ⟨RX5, TX5, 6, "GoodsDownhill$Joined", rfl, by decide, w1_62, Or.inr w1_63, rfl, tyX5_ok 1 (by decide)⟩
theorem fs5_7_8 : FS "GoodsDownhill$Joined" 7 8 1 true .int := ⟨RX8, TX8, 6, "GoodsDownhill$Joined", rfl, by decide, w1_62, Or.inr w1_63, rfl, tyX8_ok 1 (by decide)⟩
theorem fs6_105_9 : FS "GoodsDownhill$Land" 105 9 1 false .int := ⟨RX9, TX9, 4, "GoodsDownhill$Tally", rfl, by decide, w1_150, Or.inl rfl, rfl, tyX9_ok 1 (by decide)⟩
theorem fs6_115_0 : FS "GoodsDownhill$Land" 115 0 5 true .int := ⟨RX0, TX0, 6, "GoodsDownhill$House", rfl, by decide, w1_85, Or.inl rfl, rfl, tyX0_ok 5 (by decide)⟩
theorem fs6_115_2 : FS "GoodsDownhill$Land" 115 2 5 true .int := ⟨RX2, TX2, 6, "GoodsDownhill$House", rfl, by decide, w1_85, Or.inl rfl, rfl, tyX2_ok 5 (by decide)⟩
theorem fs6_115_3 : FS "GoodsDownhill$Land" 115 3 5 true .int := ⟨RX3, TX3, 6, "GoodsDownhill$House", rfl, by decide, w1_85, Or.inl rfl, rfl, tyX3_ok 5 (by decide)⟩
theorem fs6_115_4 : FS "GoodsDownhill$Land" 115 4 5 true .int := ⟨RX4, TX4, 6, "GoodsDownhill$House", rfl, by decide, w1_85, Or.inl rfl, rfl, tyX4_ok 5 (by decide)⟩
theorem fs6_115_5 : FS "GoodsDownhill$Land" 115 5 5 true .int := ⟨RX5, TX5, 6, "GoodsDownhill$House", rfl, by decide, w1_85, Or.inl rfl, rfl, tyX5_ok 5 (by decide)⟩
theorem fs6_115_8 : FS "GoodsDownhill$Land" 115 8 5 true .int := ⟨RX8, TX8, 6, "GoodsDownhill$House", rfl, by decide, w1_85, Or.inl rfl, rfl, tyX8_ok 5 (by decide)⟩
theorem fs6_11_6 : FS "GoodsDownhill$Land" 11 6 0 true (.array (.object "GoodsDownhill$House")) := ⟨RX6, TX6, 9, "GoodsDownhill$Land", rfl, by decide, w1_99, Or.inl rfl, rfl, tyX6_ok 0 (by decide)⟩
theorem fs6_121_0 : FS "GoodsDownhill$Land" 121 0 2 true .int := ⟨RX0, TX0, 6, "GoodsDownhill$House", rfl, by decide, w1_72, Or.inl rfl, rfl, tyX0_ok 2 (by decide)⟩
theorem fs6_121_2 : FS "GoodsDownhill$Land" 121 2 2 true .int := ⟨RX2, TX2, 6, "GoodsDownhill$House", rfl, by decide, w1_72, Or.inl rfl, rfl, tyX2_ok 2 (by decide)⟩
theorem fs6_121_3 : FS "GoodsDownhill$Land" 121 3 2 true .int := ⟨RX3, TX3, 6, "GoodsDownhill$House", rfl, by decide, w1_72, Or.inl rfl, rfl, tyX3_ok 2 (by decide)⟩
theorem fs6_121_4 : FS "GoodsDownhill$Land" 121 4 2 true .int := ⟨RX4, TX4, 6, "GoodsDownhill$House", rfl, by decide, w1_72, Or.inl rfl, rfl, tyX4_ok 2 (by decide)⟩
theorem fs6_121_5 : FS "GoodsDownhill$Land" 121 5 2 true .int := ⟨RX5, TX5, 6, "GoodsDownhill$House", rfl, by decide, w1_72, Or.inl rfl, rfl, tyX5_ok 2 (by decide)⟩
theorem fs6_121_8 : FS "GoodsDownhill$Land" 121 8 2 true .int := ⟨RX8, TX8, 6, "GoodsDownhill$House", rfl, by decide, w1_72, Or.inl rfl, rfl, tyX8_ok 2 (by decide)⟩
theorem fs6_124_0 : FS "GoodsDownhill$Land" 124 0 3 true .int := ⟨RX0, TX0, 6, "GoodsDownhill$House", rfl, by decide, w1_76, Or.inl rfl, rfl, tyX0_ok 3 (by decide)⟩
theorem fs6_124_2 : FS "GoodsDownhill$Land" 124 2 3 true .int := ⟨RX2, TX2, 6, "GoodsDownhill$House", rfl, by decide, w1_76, Or.inl rfl, rfl, tyX2_ok 3 (by decide)⟩
theorem fs6_124_3 : FS "GoodsDownhill$Land" 124 3 3 true .int := ⟨RX3, TX3, 6, "GoodsDownhill$House", rfl, by decide, w1_76, Or.inl rfl, rfl, tyX3_ok 3 (by decide)⟩
theorem fs6_124_4 : FS "GoodsDownhill$Land" 124 4 3 true .int := ⟨RX4, TX4, 6, "GoodsDownhill$House", rfl, by decide, w1_76, Or.inl rfl, rfl, tyX4_ok 3 (by decide)⟩
theorem fs6_124_5 : FS "GoodsDownhill$Land" 124 5 3 true .int := ⟨RX5, TX5, 6, "GoodsDownhill$House", rfl, by decide, w1_76, Or.inl rfl, rfl, tyX5_ok 3 (by decide)⟩
theorem fs6_124_8 : FS "GoodsDownhill$Land" 124 8 3 true .int := ⟨RX8, TX8, 6, "GoodsDownhill$House", rfl, by decide, w1_76, Or.inl rfl, rfl, tyX8_ok 3 (by decide)⟩
theorem fs6_132_0 : FS "GoodsDownhill$Land" 132 0 4 true .int := ⟨RX0, TX0, 6, "GoodsDownhill$House", rfl, by decide, w1_80, Or.inl rfl, rfl, tyX0_ok 4 (by decide)⟩
theorem fs6_132_2 : FS "GoodsDownhill$Land" 132 2 4 true .int := ⟨RX2, TX2, 6, "GoodsDownhill$House", rfl, by decide, w1_80, Or.inl rfl, rfl, tyX2_ok 4 (by decide)⟩
theorem fs6_132_3 : FS "GoodsDownhill$Land" 132 3 4 true .int := ⟨RX3, TX3, 6, "GoodsDownhill$House", rfl, by decide, w1_80, Or.inl rfl, rfl, tyX3_ok 4 (by decide)⟩
theorem fs6_132_4 : FS "GoodsDownhill$Land" 132 4 4 true .int := ⟨RX4, TX4, 6, "GoodsDownhill$House", rfl, by decide, w1_80, Or.inl rfl, rfl, tyX4_ok 4 (by decide)⟩
theorem fs6_132_5 : FS "GoodsDownhill$Land" 132 5 4 true .int := ⟨RX5, TX5, 6, "GoodsDownhill$House", rfl, by decide, w1_80, Or.inl rfl, rfl, tyX5_ok 4 (by decide)⟩
theorem fs6_132_8 : FS "GoodsDownhill$Land" 132 8 4 true .int := ⟨RX8, TX8, 6, "GoodsDownhill$House", rfl, by decide, w1_80, Or.inl rfl, rfl, tyX8_ok 4 (by decide)⟩
theorem fs6_17_6 : FS "GoodsDownhill$Land" 17 6 2 true (.array .int) := ⟨RX6, TX6, 9, "GoodsDownhill$Land", rfl, by decide, w1_105, Or.inl rfl, rfl, tyX6_ok 2 (by decide)⟩
theorem fs6_21_6 : FS "GoodsDownhill$Land" 21 6 3 true (.array .int) := ⟨RX6, TX6, 9, "GoodsDownhill$Land", rfl, by decide, w1_107, Or.inl rfl, rfl, tyX6_ok 3 (by decide)⟩
theorem fs6_24_6 : FS "GoodsDownhill$Land" 24 6 4 true (.array .int) := ⟨RX6, TX6, 9, "GoodsDownhill$Land", rfl, by decide, w1_109, Or.inl rfl, rfl, tyX6_ok 4 (by decide)⟩
theorem fs6_30_6 : FS "GoodsDownhill$Land" 30 6 5 true (.object "GoodsDownhill$Debts") := ⟨RX6, TX6, 9, "GoodsDownhill$Land", rfl, by decide, w1_112, Or.inl rfl, rfl, tyX6_ok 5 (by decide)⟩
theorem fs6_37_6 : FS "GoodsDownhill$Land" 37 6 1 false .int := ⟨RX6, TX6, 9, "GoodsDownhill$Land", rfl, by decide, w1_103, Or.inl rfl, rfl, tyX6_ok 1 (by decide)⟩
theorem fs6_51_6 : FS "GoodsDownhill$Land" 51 6 6 false .int := ⟨RX6, TX6, 9, "GoodsDownhill$Land", rfl, by decide, w1_115, Or.inl rfl, rfl, tyX6_ok 6 (by decide)⟩
theorem fs6_54_6 : FS "GoodsDownhill$Land" 54 6 7 false .int := ⟨RX6, TX6, 9, "GoodsDownhill$Land", rfl, by decide, w1_118, Or.inl rfl, rfl, tyX6_ok 7 (by decide)⟩
theorem fs6_57_6 : FS "GoodsDownhill$Land" 57 6 8 false .int := ⟨RX6, TX6, 9, "GoodsDownhill$Land", rfl, by decide, w1_120, Or.inl rfl, rfl, tyX6_ok 8 (by decide)⟩
theorem fs7_104_6 : FS "GoodsDownhill$Letters" 104 6 5 true (.object "GoodsDownhill$Debts") := ⟨RX6, TX6, 9, "GoodsDownhill$Land", rfl, by decide, w1_114, Or.inl rfl, rfl, tyX6_ok 5 (by decide)⟩
theorem fs7_15_7 : FS "GoodsDownhill$Letters" 15 7 1 false .int := ⟨RX7, TX7, 2, "GoodsDownhill$Letters", rfl, by decide, w1_172, Or.inl rfl, rfl, tyX7_ok 1 (by decide)⟩
theorem fs7_91_6 : FS "GoodsDownhill$Letters" 91 6 4 true (.array .int) := ⟨RX6, TX6, 9, "GoodsDownhill$Land", rfl, by decide, w1_111, Or.inl rfl, rfl, tyX6_ok 4 (by decide)⟩
theorem fs7_97_6 : FS "GoodsDownhill$Letters" 97 6 6 false .int := ⟨RX6, TX6, 9, "GoodsDownhill$Land", rfl, by decide, w1_117, Or.inl rfl, rfl, tyX6_ok 6 (by decide)⟩
theorem fs7_9_7 : FS "GoodsDownhill$Letters" 9 7 0 true (.array .int) := ⟨RX7, TX7, 2, "GoodsDownhill$Letters", rfl, by decide, w1_171, Or.inl rfl, rfl, tyX7_ok 0 (by decide)⟩
theorem fs8_13_0 : FS "GoodsDownhill$Market" 13 0 0 true .int := ⟨RX0, TX0, 6, "GoodsDownhill$Market", rfl, by decide, w1_49, Or.inr w1_50, rfl, tyX0_ok 0 (by decide)⟩
theorem fs8_13_2 : FS "GoodsDownhill$Market" 13 2 0 true .int := ⟨RX2, TX2, 6, "GoodsDownhill$Market", rfl, by decide, w1_49, Or.inr w1_50, rfl, tyX2_ok 0 (by decide)⟩
theorem fs8_13_3 : FS "GoodsDownhill$Market" 13 3 0 true .int := ⟨RX3, TX3, 6, "GoodsDownhill$Market", rfl, by decide, w1_49, Or.inr w1_50, rfl, tyX3_ok 0 (by decide)⟩
theorem fs8_13_4 : FS "GoodsDownhill$Market" 13 4 0 true .int := ⟨RX4, TX4, 6, "GoodsDownhill$Market", rfl, by decide, w1_49, Or.inr w1_50, rfl, tyX4_ok 0 (by decide)⟩
theorem fs8_13_5 : FS "GoodsDownhill$Market" 13 5 0 true .int := ⟨RX5, TX5, 6, "GoodsDownhill$Market", rfl, by decide, w1_49, Or.inr w1_50, rfl, tyX5_ok 0 (by decide)⟩
theorem fs8_13_8 : FS "GoodsDownhill$Market" 13 8 0 true .int := ⟨RX8, TX8, 6, "GoodsDownhill$Market", rfl, by decide, w1_49, Or.inr w1_50, rfl, tyX8_ok 0 (by decide)⟩
theorem fs8_7_0 : FS "GoodsDownhill$Market" 7 0 1 true .int := ⟨RX0, TX0, 6, "GoodsDownhill$Market", rfl, by decide, w1_60, Or.inr w1_61, rfl, tyX0_ok 1 (by decide)⟩
theorem fs8_7_2 : FS "GoodsDownhill$Market" 7 2 1 true .int := ⟨RX2, TX2, 6, "GoodsDownhill$Market", rfl, by decide, w1_60, Or.inr w1_61, rfl, tyX2_ok 1 (by decide)⟩
theorem fs8_7_3 : FS "GoodsDownhill$Market" 7 3 1 true .int := ⟨RX3, TX3, 6, "GoodsDownhill$Market", rfl, by decide, w1_60, Or.inr w1_61, rfl, tyX3_ok 1 (by decide)⟩
theorem fs8_7_4 : FS "GoodsDownhill$Market" 7 4 1 true .int := ⟨RX4, TX4, 6, "GoodsDownhill$Market", rfl, by decide, w1_60, Or.inr w1_61, rfl, tyX4_ok 1 (by decide)⟩
theorem fs8_7_5 : FS "GoodsDownhill$Market" 7 5 1 true .int := ⟨RX5, TX5, 6, "GoodsDownhill$Market", rfl, by decide, w1_60, Or.inr w1_61, rfl, tyX5_ok 1 (by decide)⟩
theorem fs8_7_8 : FS "GoodsDownhill$Market" 7 8 1 true .int := ⟨RX8, TX8, 6, "GoodsDownhill$Market", rfl, by decide, w1_60, Or.inr w1_61, rfl, tyX8_ok 1 (by decide)⟩
theorem fs9_15_9 : FS "GoodsDownhill$Tally" 15 9 0 false .int := ⟨RX9, TX9, 4, "GoodsDownhill$Tally", rfl, by decide, w1_147, Or.inl rfl, rfl, tyX9_ok 0 (by decide)⟩
theorem fs9_22_9 : FS "GoodsDownhill$Tally" 22 9 1 false .int := ⟨RX9, TX9, 4, "GoodsDownhill$Tally", rfl, by decide, w1_149, Or.inl rfl, rfl, tyX9_ok 1 (by decide)⟩
theorem fs9_25_9 : FS "GoodsDownhill$Tally" 25 9 2 false .int := ⟨RX9, TX9, 4, "GoodsDownhill$Tally", rfl, by decide, w1_152, Or.inl rfl, rfl, tyX9_ok 2 (by decide)⟩
theorem fs9_9_9 : FS "GoodsDownhill$Tally" 9 9 3 true (.array .int) := ⟨RX9, TX9, 4, "GoodsDownhill$Tally", rfl, by decide, w1_154, Or.inl rfl, rfl, tyX9_ok 3 (by decide)⟩
theorem ff0_13 : ∀ ci, isF ci = true → FS "GoodsDownhill$Cellared" 13 ci 2 true .int := by
  intro ci h
  rcases isF_c h with h | h | h | h | h | h <;> subst h
  · exact fs0_13_0
  · exact fs0_13_2
  · exact fs0_13_3
  · exact fs0_13_4
  · exact fs0_13_5
  · exact fs0_13_8
theorem ff0_16 : ∀ ci, isF ci = true → FS "GoodsDownhill$Cellared" 16 ci 3 true .int := by
  intro ci h
  rcases isF_c h with h | h | h | h | h | h <;> subst h
  · exact fs0_16_0
  · exact fs0_16_2
  · exact fs0_16_3
  · exact fs0_16_4
  · exact fs0_16_5
  · exact fs0_16_8
theorem ff0_19 : ∀ ci, isF ci = true → FS "GoodsDownhill$Cellared" 19 ci 4 true .int := by
  intro ci h
  rcases isF_c h with h | h | h | h | h | h <;> subst h
  · exact fs0_19_0
  · exact fs0_19_2
  · exact fs0_19_3
  · exact fs0_19_4
  · exact fs0_19_5
  · exact fs0_19_8
theorem ff0_22 : ∀ ci, isF ci = true → FS "GoodsDownhill$Cellared" 22 ci 5 true .int := by
  intro ci h
  rcases isF_c h with h | h | h | h | h | h <;> subst h
  · exact fs0_22_0
  · exact fs0_22_2
  · exact fs0_22_3
  · exact fs0_22_4
  · exact fs0_22_5
  · exact fs0_22_8
theorem ff0_26 : ∀ ci, isF ci = true → FS "GoodsDownhill$Cellared" 26 ci 1 true .int := by
  intro ci h
  rcases isF_c h with h | h | h | h | h | h <;> subst h
  · exact fs0_26_0
  · exact fs0_26_2
  · exact fs0_26_3
  · exact fs0_26_4
  · exact fs0_26_5
  · exact fs0_26_8
theorem ff0_27 : ∀ ci, isF ci = true → FS "GoodsDownhill$Cellared" 27 ci 0 true .int := by
  intro ci h
  rcases isF_c h with h | h | h | h | h | h <;> subst h
  · exact fs0_27_0
  · exact fs0_27_2
  · exact fs0_27_3
  · exact fs0_27_4
  · exact fs0_27_5
  · exact fs0_27_8
theorem ff0_9 : ∀ ci, isF ci = true → FS "GoodsDownhill$Cellared" 9 ci 1 true .int := by
  intro ci h
  rcases isF_c h with h | h | h | h | h | h <;> subst h
  · exact fs0_9_0
  · exact fs0_9_2
  · exact fs0_9_3
  · exact fs0_9_4
  · exact fs0_9_5
  · exact fs0_9_8
theorem ff10_52 : ∀ ci, isF ci = true → FS "GoodsDownhill$Trade" 52 ci 5 true .int := by
  intro ci h
  rcases isF_c h with h | h | h | h | h | h <;> subst h
  · exact fs10_52_0
  · exact fs10_52_2
  · exact fs10_52_3
  · exact fs10_52_4
  · exact fs10_52_5
  · exact fs10_52_8
theorem ff11_102 : ∀ ci, isF ci = true → FS "GoodsDownhill" 102 ci 4 true .int := by
  intro ci h
  rcases isF_c h with h | h | h | h | h | h <;> subst h
  · exact fs11_102_0
  · exact fs11_102_2
  · exact fs11_102_3
  · exact fs11_102_4
  · exact fs11_102_5
  · exact fs11_102_8
theorem ff11_105 : ∀ ci, isF ci = true → FS "GoodsDownhill" 105 ci 5 true .int := by
  intro ci h
  rcases isF_c h with h | h | h | h | h | h <;> subst h
  · exact fs11_105_0
  · exact fs11_105_2
  · exact fs11_105_3
  · exact fs11_105_4
  · exact fs11_105_5
  · exact fs11_105_8
theorem ff11_84 : ∀ ci, isF ci = true → FS "GoodsDownhill" 84 ci 0 true .int := by
  intro ci h
  rcases isF_c h with h | h | h | h | h | h <;> subst h
  · exact fs11_84_0
  · exact fs11_84_2
  · exact fs11_84_3
  · exact fs11_84_4
  · exact fs11_84_5
  · exact fs11_84_8
theorem ff11_87 : ∀ ci, isF ci = true → FS "GoodsDownhill" 87 ci 1 true .int := by
  intro ci h
  rcases isF_c h with h | h | h | h | h | h <;> subst h
  · exact fs11_87_0
  · exact fs11_87_2
  · exact fs11_87_3
  · exact fs11_87_4
  · exact fs11_87_5
  · exact fs11_87_8
theorem ff11_96 : ∀ ci, isF ci = true → FS "GoodsDownhill" 96 ci 2 true .int := by
  intro ci h
  rcases isF_c h with h | h | h | h | h | h <;> subst h
  · exact fs11_96_0
  · exact fs11_96_2
  · exact fs11_96_3
  · exact fs11_96_4
  · exact fs11_96_5
  · exact fs11_96_8
theorem ff11_99 : ∀ ci, isF ci = true → FS "GoodsDownhill" 99 ci 3 true .int := by
  intro ci h
  rcases isF_c h with h | h | h | h | h | h <;> subst h
  · exact fs11_99_0
  · exact fs11_99_2
  · exact fs11_99_3
  · exact fs11_99_4
  · exact fs11_99_5
  · exact fs11_99_8
theorem ff2_13 : ∀ ci, isF ci = true → FS "GoodsDownhill$Feigned" 13 ci 0 true .int := by
  intro ci h
  rcases isF_c h with h | h | h | h | h | h <;> subst h
  · exact fs2_13_0
  · exact fs2_13_2
  · exact fs2_13_3
  · exact fs2_13_4
  · exact fs2_13_5
  · exact fs2_13_8
theorem ff2_7 : ∀ ci, isF ci = true → FS "GoodsDownhill$Feigned" 7 ci 1 true .int := by
  intro ci h
  rcases isF_c h with h | h | h | h | h | h <;> subst h
  · exact fs2_7_0
  · exact fs2_7_2
  · exact fs2_7_3
  · exact fs2_7_4
  · exact fs2_7_5
  · exact fs2_7_8
theorem ff4_13 : ∀ ci, isF ci = true → FS "GoodsDownhill$House" 13 ci 1 true .int := by
  intro ci h
  rcases isF_c h with h | h | h | h | h | h <;> subst h
  · exact fs4_13_0
  · exact fs4_13_2
  · exact fs4_13_3
  · exact fs4_13_4
  · exact fs4_13_5
  · exact fs4_13_8
theorem ff4_16 : ∀ ci, isF ci = true → FS "GoodsDownhill$House" 16 ci 2 true .int := by
  intro ci h
  rcases isF_c h with h | h | h | h | h | h <;> subst h
  · exact fs4_16_0
  · exact fs4_16_2
  · exact fs4_16_3
  · exact fs4_16_4
  · exact fs4_16_5
  · exact fs4_16_8
theorem ff4_19 : ∀ ci, isF ci = true → FS "GoodsDownhill$House" 19 ci 3 true .int := by
  intro ci h
  rcases isF_c h with h | h | h | h | h | h <;> subst h
  · exact fs4_19_0
  · exact fs4_19_2
  · exact fs4_19_3
  · exact fs4_19_4
  · exact fs4_19_5
  · exact fs4_19_8
theorem ff4_22 : ∀ ci, isF ci = true → FS "GoodsDownhill$House" 22 ci 4 true .int := by
  intro ci h
  rcases isF_c h with h | h | h | h | h | h <;> subst h
  · exact fs4_22_0
  · exact fs4_22_2
  · exact fs4_22_3
  · exact fs4_22_4
  · exact fs4_22_5
  · exact fs4_22_8
theorem ff4_25 : ∀ ci, isF ci = true → FS "GoodsDownhill$House" 25 ci 5 true .int := by
  intro ci h
  rcases isF_c h with h | h | h | h | h | h <;> subst h
  · exact fs4_25_0
  · exact fs4_25_2
  · exact fs4_25_3
  · exact fs4_25_4
  · exact fs4_25_5
  · exact fs4_25_8
theorem ff4_7 : ∀ ci, isF ci = true → FS "GoodsDownhill$House" 7 ci 0 true .int := by
  intro ci h
  rcases isF_c h with h | h | h | h | h | h <;> subst h
  · exact fs4_7_0
  · exact fs4_7_2
  · exact fs4_7_3
  · exact fs4_7_4
  · exact fs4_7_5
  · exact fs4_7_8
theorem ff5_13 : ∀ ci, isF ci = true → FS "GoodsDownhill$Joined" 13 ci 0 true .int := by
  intro ci h
  rcases isF_c h with h | h | h | h | h | h <;> subst h
  · exact fs5_13_0
  · exact fs5_13_2
  · exact fs5_13_3
  · exact fs5_13_4
  · exact fs5_13_5
  · exact fs5_13_8
theorem ff5_7 : ∀ ci, isF ci = true → FS "GoodsDownhill$Joined" 7 ci 1 true .int := by
  intro ci h
  rcases isF_c h with h | h | h | h | h | h <;> subst h
  · exact fs5_7_0
  · exact fs5_7_2
  · exact fs5_7_3
  · exact fs5_7_4
  · exact fs5_7_5
  · exact fs5_7_8
theorem ff6_115 : ∀ ci, isF ci = true → FS "GoodsDownhill$Land" 115 ci 5 true .int := by
  intro ci h
  rcases isF_c h with h | h | h | h | h | h <;> subst h
  · exact fs6_115_0
  · exact fs6_115_2
  · exact fs6_115_3
  · exact fs6_115_4
  · exact fs6_115_5
  · exact fs6_115_8
theorem ff6_121 : ∀ ci, isF ci = true → FS "GoodsDownhill$Land" 121 ci 2 true .int := by
  intro ci h
  rcases isF_c h with h | h | h | h | h | h <;> subst h
  · exact fs6_121_0
  · exact fs6_121_2
  · exact fs6_121_3
  · exact fs6_121_4
  · exact fs6_121_5
  · exact fs6_121_8
theorem ff6_124 : ∀ ci, isF ci = true → FS "GoodsDownhill$Land" 124 ci 3 true .int := by
  intro ci h
  rcases isF_c h with h | h | h | h | h | h <;> subst h
  · exact fs6_124_0
  · exact fs6_124_2
  · exact fs6_124_3
  · exact fs6_124_4
  · exact fs6_124_5
  · exact fs6_124_8
theorem ff6_132 : ∀ ci, isF ci = true → FS "GoodsDownhill$Land" 132 ci 4 true .int := by
  intro ci h
  rcases isF_c h with h | h | h | h | h | h <;> subst h
  · exact fs6_132_0
  · exact fs6_132_2
  · exact fs6_132_3
  · exact fs6_132_4
  · exact fs6_132_5
  · exact fs6_132_8
theorem ff8_13 : ∀ ci, isF ci = true → FS "GoodsDownhill$Market" 13 ci 0 true .int := by
  intro ci h
  rcases isF_c h with h | h | h | h | h | h <;> subst h
  · exact fs8_13_0
  · exact fs8_13_2
  · exact fs8_13_3
  · exact fs8_13_4
  · exact fs8_13_5
  · exact fs8_13_8
theorem ff8_7 : ∀ ci, isF ci = true → FS "GoodsDownhill$Market" 7 ci 1 true .int := by
  intro ci h
  rcases isF_c h with h | h | h | h | h | h <;> subst h
  · exact fs8_7_0
  · exact fs8_7_2
  · exact fs8_7_3
  · exact fs8_7_4
  · exact fs8_7_5
  · exact fs8_7_8
theorem ms_X0_buysAt : MS yX0_buysAt cX0_buysAt 1 (some .int) 0 := ⟨w2_183, w1_9, by decide, by decide, by decide +kernel⟩
theorem ms_X0_init : MS yX0_init cX0_init 7 none 6 := ⟨w2_46, w1_9, by decide, by decide, by decide +kernel⟩
theorem ms_X0_insteadOf : MS yX0_insteadOf cX0_insteadOf 2 (some (.object "GoodsDownhill$House")) 2 := ⟨w3_179, w1_9, by decide, by decide, by decide +kernel⟩
theorem ms_X0_kind : MS yX0_kind cX0_kind 1 (some .int) 0 := ⟨w2_149, w1_9, by decide, by decide, by decide +kernel⟩
theorem ms_X10_cutBeside : MS yX10_cutBeside cX10_cutBeside 5 (some .int) 3 := ⟨w3_167, w1_15, by decide, by decide, by decide +kernel⟩
theorem ms_X10_fewestSales : MS yX10_fewestSales cX10_fewestSales 5 (some .int) 3 := ⟨w3_194, w1_15, by decide, by decide, by decide +kernel⟩
theorem ms_X10_hasBuyer : MS yX10_hasBuyer cX10_hasBuyer 4 (some .boolean) 3 := ⟨w3_155, w1_15, by decide, by decide, by decide +kernel⟩
theorem ms_X10_hasSellerAmong : MS yX10_hasSellerAmong cX10_hasSellerAmong 5 (some .boolean) 4 := ⟨w3_170, w1_15, by decide, by decide, by decide +kernel⟩
theorem ms_X10_mostOf : MS yX10_mostOf cX10_mostOf 4 (some .int) 2 := ⟨w3_164, w1_15, by decide, by decide, by decide +kernel⟩
theorem ms_X10_oneSaleBehind : MS yX10_oneSaleBehind cX10_oneSaleBehind 5 (some .int) 2 := ⟨w3_197, w1_15, by decide, by decide, by decide +kernel⟩
theorem ms_X10_stuckOf : MS yX10_stuckOf cX10_stuckOf 4 (some .int) 2 := ⟨w3_151, w1_15, by decide, by decide, by decide +kernel⟩
theorem ms_X10_ways : MS yX10_ways cX10_ways 3 (some .int) 3 := ⟨w3_188, w1_15, by decide, by decide, by decide +kernel⟩
theorem ms_X10_waysOn : MS yX10_waysOn cX10_waysOn 7 (some .int) 5 := ⟨w3_191, w1_15, by decide, by decide, by decide +kernel⟩
theorem ms_X11_drawBelow : MS yX11_drawBelow cX11_drawBelow 2 (some .int) 2 := ⟨w3_142, w1_1, by decide, by decide, by decide +kernel⟩
theorem ms_X11_isGood : MS yX11_isGood cX11_isGood 1 (some .boolean) 1 := ⟨w2_39, w1_1, by decide, by decide, by decide +kernel⟩
theorem ms_X11_isLaw : MS yX11_isLaw cX11_isLaw 1 (some .boolean) 1 := ⟨w2_121, w1_1, by decide, by decide, by decide +kernel⟩
theorem ms_X11_nextSeed : MS yX11_nextSeed cX11_nextSeed 1 (some .int) 1 := ⟨w3_138, w1_1, by decide, by decide, by decide +kernel⟩
theorem ms_X11_passInMind : MS yX11_passInMind cX11_passInMind 5 none 3 := ⟨w3_111, w1_1, by decide, by decide, by decide +kernel⟩
theorem ms_X11_refuse : MS yX11_refuse cX11_refuse 3 (some .int) 1 := ⟨w1_217, w1_1, by decide, by decide, by decide +kernel⟩
theorem ms_X11_sumOf : MS yX11_sumOf cX11_sumOf 6 (some .int) 1 := ⟨w2_228, w1_1, by decide, by decide, by decide +kernel⟩
theorem ms_X12_areTwo : MS yX12_areTwo cX12_areTwo 3 (some .boolean) 2 := ⟨w4_167, w1_7, by decide, by decide, by decide +kernel⟩
theorem ms_X12_buyFor : MS yX12_buyFor cX12_buyFor 7 none 1 := ⟨w4_235, w1_7, by decide, by decide, by decide +kernel⟩
theorem ms_X12_buysAt : MS yX12_buysAt cX12_buysAt 4 (some .int) 1 := ⟨w4_187, w1_7, by decide, by decide, by decide +kernel⟩
theorem ms_X12_canSell : MS yX12_canSell cX12_canSell 4 (some .boolean) 3 := ⟨w4_219, w1_7, by decide, by decide, by decide +kernel⟩
theorem ms_X12_carry : MS yX12_carry cX12_carry 2 (some .int) 1 := ⟨w4_114, w1_7, by decide, by decide, by decide +kernel⟩
theorem ms_X12_carryAll : MS yX12_carryAll cX12_carryAll 4 none 2 := ⟨w4_110, w1_7, by decide, by decide, by decide +kernel⟩
theorem ms_X12_close : MS yX12_close cX12_close 1 none 0 := ⟨w4_175, w1_7, by decide, by decide, by decide +kernel⟩
theorem ms_X12_comes : MS yX12_comes cX12_comes 5 (some .boolean) 1 := ⟨w4_159, w1_7, by decide, by decide, by decide +kernel⟩
theorem ms_X12_debt : MS yX12_debt cX12_debt 3 (some .int) 2 := ⟨w5_11, w1_7, by decide, by decide, by decide +kernel⟩
theorem ms_X12_draw : MS yX12_draw cX12_draw 2 (some .int) 1 := ⟨w5_104, w1_7, by decide, by decide, by decide +kernel⟩
theorem ms_X12_here : MS yX12_here cX12_here 1 (some .int) 0 := ⟨w4_138, w1_7, by decide, by decide, by decide +kernel⟩
theorem ms_X12_houseComes : MS yX12_houseComes cX12_houseComes 5 (some .boolean) 1 := ⟨w4_163, w1_7, by decide, by decide, by decide +kernel⟩
theorem ms_X12_in : MS yX12_in cX12_in 6 (some .boolean) 3 := ⟨w4_147, w1_7, by decide, by decide, by decide +kernel⟩
theorem ms_X12_isGood : MS yX12_isGood cX12_isGood 1 (some .boolean) 1 := ⟨w4_194, w1_7, by decide, by decide, by decide +kernel⟩
theorem ms_X12_isHouse : MS yX12_isHouse cX12_isHouse 2 (some .boolean) 1 := ⟨w4_171, w1_7, by decide, by decide, by decide +kernel⟩
theorem ms_X12_isLawful : MS yX12_isLawful cX12_isLawful 5 (some .boolean) 2 := ⟨w4_211, w1_7, by decide, by decide, by decide +kernel⟩
theorem ms_X12_isPath : MS yX12_isPath cX12_isPath 11 (some .boolean) 4 := ⟨w5_72, w1_7, by decide, by decide, by decide +kernel⟩
theorem ms_X12_isSold : MS yX12_isSold cX12_isSold 5 (some .boolean) 3 := ⟨w5_96, w1_7, by decide, by decide, by decide +kernel⟩
theorem ms_X12_lessen : MS yX12_lessen cX12_lessen 6 (some .int) 3 := ⟨w5_27, w1_7, by decide, by decide, by decide +kernel⟩
theorem ms_X12_mostOf : MS yX12_mostOf cX12_mostOf 9 (some .int) 1 := ⟨w5_59, w1_7, by decide, by decide, by decide +kernel⟩
theorem ms_X12_open : MS yX12_open cX12_open 2 none 0 := ⟨w4_155, w1_7, by decide, by decide, by decide +kernel⟩
theorem ms_X12_readDigit : MS yX12_readDigit cX12_readDigit 1 (some .int) 0 := ⟨w4_142, w1_7, by decide, by decide, by decide +kernel⟩
theorem ms_X12_readNumber : MS yX12_readNumber cX12_readNumber 4 (some .int) 1 := ⟨w4_151, w1_7, by decide, by decide, by decide +kernel⟩
theorem ms_X12_readStatement : MS yX12_readStatement cX12_readStatement 5 none 0 := ⟨w4_134, w1_7, by decide, by decide, by decide +kernel⟩
theorem ms_X12_refuse : MS yX12_refuse cX12_refuse 2 (some .int) 1 := ⟨w4_122, w1_7, by decide, by decide, by decide +kernel⟩
theorem ms_X12_sell : MS yX12_sell cX12_sell 4 none 3 := ⟨w4_223, w1_7, by decide, by decide, by decide +kernel⟩
theorem ms_X12_sellsAt : MS yX12_sellsAt cX12_sellsAt 3 (some .int) 1 := ⟨w4_183, w1_7, by decide, by decide, by decide +kernel⟩
theorem ms_X12_servedIn : MS yX12_servedIn cX12_servedIn 4 (some .int) 1 := ⟨w5_35, w1_7, by decide, by decide, by decide +kernel⟩
theorem ms_X12_strikeAll : MS yX12_strikeAll cX12_strikeAll 2 (some .int) 0 := ⟨w5_19, w1_7, by decide, by decide, by decide +kernel⟩
theorem ms_X12_strikeOne : MS yX12_strikeOne cX12_strikeOne 6 (some .boolean) 0 := ⟨w5_23, w1_7, by decide, by decide, by decide +kernel⟩
theorem ms_X12_sumOf : MS yX12_sumOf cX12_sumOf 5 (some .int) 2 := ⟨w5_115, w1_7, by decide, by decide, by decide +kernel⟩
theorem ms_X12_wants : MS yX12_wants cX12_wants 3 (some .boolean) 2 := ⟨w4_239, w1_7, by decide, by decide, by decide +kernel⟩
theorem ms_X12_wantsOfAll : MS yX12_wantsOfAll cX12_wantsOfAll 3 (some .int) 0 := ⟨w5_43, w1_7, by decide, by decide, by decide +kernel⟩
theorem ms_X12_weekOn : MS yX12_weekOn cX12_weekOn 5 (some .int) 0 := ⟨w4_231, w1_7, by decide, by decide, by decide +kernel⟩
theorem ms_X1_copyFrom : MS yX1_copyFrom cX1_copyFrom 2 none 1 := ⟨w2_1, w1_3, by decide, by decide, by decide +kernel⟩
theorem ms_X1_from : MS yX1_from cX1_from 3 (some .int) 2 := ⟨w3_83, w1_3, by decide, by decide, by decide +kernel⟩
theorem ms_X1_init : MS yX1_init cX1_init 1 none 0 := ⟨w1_36, w1_3, by decide, by decide, by decide +kernel⟩
theorem ms_X1_owedTo : MS yX1_owedTo cX1_owedTo 4 (some .int) 1 := ⟨w3_205, w1_3, by decide, by decide, by decide +kernel⟩
theorem ms_X1_put : MS yX1_put cX1_put 4 none 3 := ⟨w2_137, w1_3, by decide, by decide, by decide +kernel⟩
theorem ms_X1_strikeRings : MS yX1_strikeRings cX1_strikeRings 5 (some .int) 0 := ⟨w3_92, w1_3, by decide, by decide, by decide +kernel⟩
theorem ms_X1_strikeThree : MS yX1_strikeThree cX1_strikeThree 5 (some .int) 3 := ⟨w3_103, w1_3, by decide, by decide, by decide +kernel⟩
theorem ms_X1_strikeTwo : MS yX1_strikeTwo cX1_strikeTwo 4 (some .int) 2 := ⟨w3_96, w1_3, by decide, by decide, by decide +kernel⟩
theorem ms_X1_total : MS yX1_total cX1_total 1 (some .int) 0 := ⟨w2_232, w1_3, by decide, by decide, by decide +kernel⟩
theorem ms_X2_buysAt : MS yX2_buysAt cX2_buysAt 1 (some .int) 0 := ⟨w2_186, w1_13, by decide, by decide, by decide +kernel⟩
theorem ms_X2_init : MS yX2_init cX2_init 7 none 6 := ⟨w2_98, w1_13, by decide, by decide, by decide +kernel⟩
theorem ms_X2_kind : MS yX2_kind cX2_kind 1 (some .int) 0 := ⟨w2_152, w1_13, by decide, by decide, by decide +kernel⟩
theorem ms_X3_buysAt : MS yX3_buysAt cX3_buysAt 1 (some .int) 0 := ⟨w2_189, w1_11, by decide, by decide, by decide +kernel⟩
theorem ms_X3_init : MS yX3_init cX3_init 7 none 6 := ⟨w2_72, w1_11, by decide, by decide, by decide +kernel⟩
theorem ms_X3_kind : MS yX3_kind cX3_kind 1 (some .int) 0 := ⟨w2_155, w1_11, by decide, by decide, by decide +kernel⟩
theorem ms_X4_buysAt : MS yX4_buysAt cX4_buysAt 1 (some .int) 0 := ⟨w2_192, w1_4, by decide, by decide, by decide +kernel⟩
theorem ms_X4_init : MS yX4_init cX4_init 7 none 6 := ⟨w1_46, w1_4, by decide, by decide, by decide +kernel⟩
theorem ms_X4_kind : MS yX4_kind cX4_kind 1 (some .int) 0 := ⟨w2_162, w1_4, by decide, by decide, by decide +kernel⟩
theorem ms_X4_sellsAt : MS yX4_sellsAt cX4_sellsAt 1 (some .int) 0 := ⟨w2_176, w1_4, by decide, by decide, by decide +kernel⟩
theorem ms_X4_wantsSome : MS yX4_wantsSome cX4_wantsSome 2 (some .boolean) 1 := ⟨w3_62, w1_4, by decide, by decide, by decide +kernel⟩
theorem ms_X5_init : MS yX5_init cX5_init 7 none 6 := ⟨w2_59, w1_10, by decide, by decide, by decide +kernel⟩
theorem ms_X5_kind : MS yX5_kind cX5_kind 1 (some .int) 0 := ⟨w2_158, w1_10, by decide, by decide, by decide +kernel⟩
theorem ms_X5_sellsAt : MS yX5_sellsAt cX5_sellsAt 1 (some .int) 0 := ⟨w2_174, w1_10, by decide, by decide, by decide +kernel⟩
theorem ms_X6_addHouse : MS yX6_addHouse cX6_addHouse 3 (some .boolean) 2 := ⟨w2_110, w1_2, by decide, by decide, by decide +kernel⟩
theorem ms_X6_addPieces : MS yX6_addPieces cX6_addPieces 4 none 3 := ⟨w3_20, w1_2, by decide, by decide, by decide +kernel⟩
theorem ms_X6_areTwo : MS yX6_areTwo cX6_areTwo 3 (some .boolean) 2 := ⟨w2_129, w1_2, by decide, by decide, by decide +kernel⟩
theorem ms_X6_buyWanted : MS yX6_buyWanted cX6_buyWanted 6 (some .int) 1 := ⟨w3_48, w1_2, by decide, by decide, by decide +kernel⟩
theorem ms_X6_copyFrom : MS yX6_copyFrom cX6_copyFrom 3 none 1 := ⟨w1_234, w1_2, by decide, by decide, by decide +kernel⟩
theorem ms_X6_fullestSellerTo : MS yX6_fullestSellerTo cX6_fullestSellerTo 5 (some .int) 2 := ⟨w3_52, w1_2, by decide, by decide, by decide +kernel⟩
theorem ms_X6_hasHouse : MS yX6_hasHouse cX6_hasHouse 2 (some .boolean) 1 := ⟨w2_133, w1_2, by decide, by decide, by decide +kernel⟩
theorem ms_X6_hasMeans : MS yX6_hasMeans cX6_hasMeans 4 (some .boolean) 3 := ⟨w3_11, w1_2, by decide, by decide, by decide +kernel⟩
theorem ms_X6_init : MS yX6_init cX6_init 3 none 0 := ⟨w1_28, w1_2, by decide, by decide, by decide +kernel⟩
theorem ms_X6_isLawful : MS yX6_isLawful cX6_isLawful 5 (some .boolean) 2 := ⟨w2_219, w1_2, by decide, by decide, by decide +kernel⟩
theorem ms_X6_makeGoods : MS yX6_makeGoods cX6_makeGoods 4 none 1 := ⟨w3_41, w1_2, by decide, by decide, by decide +kernel⟩
theorem ms_X6_moveOnePiece : MS yX6_moveOnePiece cX6_moveOnePiece 4 none 3 := ⟨w3_16, w1_2, by decide, by decide, by decide +kernel⟩
theorem ms_X6_passWeek : MS yX6_passWeek cX6_passWeek 3 none 1 := ⟨w3_36, w1_2, by decide, by decide, by decide +kernel⟩
theorem ms_X6_piecesOf : MS yX6_piecesOf cX6_piecesOf 3 (some .int) 2 := ⟨w2_201, w1_2, by decide, by decide, by decide +kernel⟩
theorem ms_X6_richest : MS yX6_richest cX6_richest 3 (some .int) 0 := ⟨w3_123, w1_2, by decide, by decide, by decide +kernel⟩
theorem ms_X6_trySale : MS yX6_trySale cX6_trySale 4 (some .boolean) 3 := ⟨w3_4, w1_2, by decide, by decide, by decide +kernel⟩
theorem ms_X6_useWanted : MS yX6_useWanted cX6_useWanted 4 (some .int) 1 := ⟨w3_67, w1_2, by decide, by decide, by decide +kernel⟩
theorem ms_X7_add : MS yX7_add cX7_add 2 none 1 := ⟨w1_225, w1_6, by decide, by decide, by decide +kernel⟩
theorem ms_X7_digit : MS yX7_digit cX7_digit 2 (some .int) 1 := ⟨w2_32, w1_6, by decide, by decide, by decide +kernel⟩
theorem ms_X7_endOfDigits : MS yX7_endOfDigits cX7_endOfDigits 4 (some .int) 2 := ⟨w2_17, w1_6, by decide, by decide, by decide +kernel⟩
theorem ms_X7_endOfStatement : MS yX7_endOfStatement cX7_endOfStatement 3 (some .int) 1 := ⟨w2_24, w1_6, by decide, by decide, by decide +kernel⟩
theorem ms_X7_firstWrongPlace : MS yX7_firstWrongPlace cX7_firstWrongPlace 5 (some .int) 0 := ⟨w2_10, w1_6, by decide, by decide, by decide +kernel⟩
theorem ms_X7_init : MS yX7_init cX7_init 1 none 0 := ⟨w1_169, w1_6, by decide, by decide, by decide +kernel⟩
theorem ms_X7_isFull : MS yX7_isFull cX7_isFull 1 (some .boolean) 0 := ⟨w1_221, w1_6, by decide, by decide, by decide +kernel⟩
theorem ms_X7_leastDigits : MS yX7_leastDigits cX7_leastDigits 1 (some .int) 1 := ⟨w2_20, w1_6, by decide, by decide, by decide +kernel⟩
theorem ms_X7_mostDigits : MS yX7_mostDigits cX7_mostDigits 1 (some .int) 1 := ⟨w2_13, w1_6, by decide, by decide, by decide +kernel⟩
theorem ms_X7_number : MS yX7_number cX7_number 5 (some .int) 2 := ⟨w2_36, w1_6, by decide, by decide, by decide +kernel⟩
theorem ms_X7_tellDebt : MS yX7_tellDebt cX7_tellDebt 6 (some .boolean) 3 := ⟨w2_125, w1_6, by decide, by decide, by decide +kernel⟩
theorem ms_X7_tellHouse : MS yX7_tellHouse cX7_tellHouse 11 (some .boolean) 3 := ⟨w2_28, w1_6, by decide, by decide, by decide +kernel⟩
theorem ms_X7_tellLaw : MS yX7_tellLaw cX7_tellLaw 4 (some .boolean) 2 := ⟨w2_118, w1_6, by decide, by decide, by decide +kernel⟩
theorem ms_X7_tellPrice : MS yX7_tellPrice cX7_tellPrice 5 (some .boolean) 2 := ⟨w2_114, w1_6, by decide, by decide, by decide +kernel⟩
theorem ms_X7_tellTo : MS yX7_tellTo cX7_tellTo 7 (some .int) 1 := ⟨w2_6, w1_6, by decide, by decide, by decide +kernel⟩
theorem ms_X8_init : MS yX8_init cX8_init 7 none 6 := ⟨w2_85, w1_12, by decide, by decide, by decide +kernel⟩
theorem ms_X8_kind : MS yX8_kind cX8_kind 1 (some .int) 0 := ⟨w2_161, w1_12, by decide, by decide, by decide +kernel⟩
theorem ms_X8_sellsAt : MS yX8_sellsAt cX8_sellsAt 1 (some .int) 0 := ⟨w2_170, w1_12, by decide, by decide, by decide +kernel⟩
theorem ms_X9_addUse : MS yX9_addUse cX9_addUse 4 none 3 := ⟨w3_71, w1_5, by decide, by decide, by decide +kernel⟩
theorem ms_X9_beginWeek : MS yX9_beginWeek cX9_beginWeek 1 none 0 := ⟨w3_32, w1_5, by decide, by decide, by decide +kernel⟩
theorem ms_X9_clear : MS yX9_clear cX9_clear 2 none 0 := ⟨w3_28, w1_5, by decide, by decide, by decide +kernel⟩
theorem ms_X9_init : MS yX9_init cX9_init 1 none 0 := ⟨w1_145, w1_5, by decide, by decide, by decide +kernel⟩
theorem wkmax_11160 : Cond.methodLink "GoodsDownhill" 160 Lib.Math.max.name ∈ gtb ∧ Cond.static Lib.Math.max.name ∈ gtb ∧ Cond.initialized "java/lang/Math" ∈ gtb ∧ Cond.code Lib.Math.max.name Lib.Math.max.code 2 (some .int) ∈ gtb := ⟨w2_234, w2_235, w1_14, w2_236⟩
theorem wkmin_1036 : Cond.methodLink "GoodsDownhill$Debts" 36 Lib.Math.min.name ∈ gtb ∧ Cond.static Lib.Math.min.name ∈ gtb ∧ Cond.initialized "java/lang/Math" ∈ gtb ∧ Cond.code Lib.Math.min.name Lib.Math.min.code 2 (some .int) ∈ gtb := ⟨w3_98, w3_43, w1_14, w3_44⟩
theorem wkmin_6127 : Cond.methodLink "GoodsDownhill$Land" 127 Lib.Math.min.name ∈ gtb ∧ Cond.static Lib.Math.min.name ∈ gtb ∧ Cond.initialized "java/lang/Math" ∈ gtb ∧ Cond.code Lib.Math.min.name Lib.Math.min.code 2 (some .int) ∈ gtb := ⟨w3_42, w3_43, w1_14, w3_44⟩
theorem wkmax_6138 : Cond.methodLink "GoodsDownhill$Land" 138 Lib.Math.max.name ∈ gtb ∧ Cond.static Lib.Math.max.name ∈ gtb ∧ Cond.initialized "java/lang/Math" ∈ gtb ∧ Cond.code Lib.Math.max.name Lib.Math.max.code 2 (some .int) ∈ gtb := ⟨w3_63, w2_235, w1_14, w2_236⟩
theorem wkmin_10043 : Cond.methodLink "GoodsDownhill$Trade" 43 Lib.Math.min.name ∈ gtb ∧ Cond.static Lib.Math.min.name ∈ gtb ∧ Cond.initialized "java/lang/Math" ∈ gtb ∧ Cond.code Lib.Math.min.name Lib.Math.min.code 2 (some .int) ∈ gtb := ⟨w3_171, w3_43, w1_14, w3_44⟩
theorem wkcp_1015 : arrcw "GoodsDownhill$Debts" 15 := ⟨w2_2, w1_237, w1_236, w1_8⟩
theorem wkcp_6041 : arrcw "GoodsDownhill$Land" 41 := ⟨w1_235, w1_237, w1_236, w1_8⟩
