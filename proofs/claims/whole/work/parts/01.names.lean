-- ===== PART A: goes FIRST, ahead of the names: the tables' words, and 'selects' of the private methods out of them =====
/-- a private method of a class that the tables say can be made, by its rows of tables_1 -/
def lw_okq (q : MethodName × Nat) : Prop := (q.1.cls ≠ "java/lang/invoke/MethodHandle" ∧ q.1.cls ≠ "java/lang/invoke/VarHandle") ∧ Cond.instantiable q.1.cls q.2 ∈ tables_1 ∧ Cond.privateMethod q.1 ∈ tables_1 ∧ Cond.instanceMethod q.1 ∈ tables_1
theorem lw_p0 : lw_okq (⟨"GoodsDownhill", "refuse", "(I)I"⟩, 10) := ⟨⟨by decide +kernel, by decide +kernel⟩, List.mem_of_getElem? (i := 17) (by decide +kernel), List.mem_of_getElem? (i := 215) (by decide +kernel), List.mem_of_getElem? (i := 216) (by decide +kernel)⟩
theorem lw_p1 : lw_okq (⟨"GoodsDownhill$Letters", "endOfDigits", "(II)I"⟩, 2) := ⟨⟨by decide +kernel, by decide +kernel⟩, List.mem_of_getElem? (i := 166) (by decide +kernel), List.mem_of_getElem? (i := 255) (by decide +kernel), List.mem_of_getElem? (i := 256) (by decide +kernel)⟩
theorem lw_p2 : lw_okq (⟨"GoodsDownhill$Letters", "endOfStatement", "(I)I"⟩, 2) := ⟨⟨by decide +kernel, by decide +kernel⟩, List.mem_of_getElem? (i := 166) (by decide +kernel), List.mem_of_getElem? (i := 262) (by decide +kernel), List.mem_of_getElem? (i := 263) (by decide +kernel)⟩
theorem lw_p3 : lw_okq (⟨"GoodsDownhill$Letters", "tellHouse", "(LGoodsDownhill$Land;II)Z"⟩, 2) := ⟨⟨by decide +kernel, by decide +kernel⟩, List.mem_of_getElem? (i := 166) (by decide +kernel), List.mem_of_getElem? (i := 266) (by decide +kernel), List.mem_of_getElem? (i := 267) (by decide +kernel)⟩
theorem lw_p4 : lw_okq (⟨"GoodsDownhill$Letters", "digit", "(I)I"⟩, 2) := ⟨⟨by decide +kernel, by decide +kernel⟩, List.mem_of_getElem? (i := 166) (by decide +kernel), List.mem_of_getElem? (i := 270) (by decide +kernel), List.mem_of_getElem? (i := 271) (by decide +kernel)⟩
theorem lw_p5 : lw_okq (⟨"GoodsDownhill$Letters", "number", "(II)I"⟩, 2) := ⟨⟨by decide +kernel, by decide +kernel⟩, List.mem_of_getElem? (i := 166) (by decide +kernel), List.mem_of_getElem? (i := 274) (by decide +kernel), List.mem_of_getElem? (i := 275) (by decide +kernel)⟩
theorem lw_p6 : lw_okq (⟨"GoodsDownhill$Letters", "tellPrice", "(LGoodsDownhill$Land;I)Z"⟩, 2) := ⟨⟨by decide +kernel, by decide +kernel⟩, List.mem_of_getElem? (i := 166) (by decide +kernel), List.mem_of_getElem? (i := 352) (by decide +kernel), List.mem_of_getElem? (i := 353) (by decide +kernel)⟩
theorem lw_p7 : lw_okq (⟨"GoodsDownhill$Letters", "tellLaw", "(LGoodsDownhill$Land;I)Z"⟩, 2) := ⟨⟨by decide +kernel, by decide +kernel⟩, List.mem_of_getElem? (i := 166) (by decide +kernel), List.mem_of_getElem? (i := 356) (by decide +kernel), List.mem_of_getElem? (i := 357) (by decide +kernel)⟩
theorem lw_p8 : lw_okq (⟨"GoodsDownhill$Letters", "tellDebt", "(LGoodsDownhill$Land;II)Z"⟩, 2) := ⟨⟨by decide +kernel, by decide +kernel⟩, List.mem_of_getElem? (i := 166) (by decide +kernel), List.mem_of_getElem? (i := 363) (by decide +kernel), List.mem_of_getElem? (i := 364) (by decide +kernel)⟩
theorem lw_p9 : lw_okq (⟨"GoodsDownhill$Land", "hasMeans", "(III)Z"⟩, 9) := ⟨⟨by decide +kernel, by decide +kernel⟩, List.mem_of_getElem? (i := 25) (by decide +kernel), List.mem_of_getElem? (i := 489) (by decide +kernel), List.mem_of_getElem? (i := 490) (by decide +kernel)⟩
theorem lw_p10 : lw_okq (⟨"GoodsDownhill$Land", "moveOnePiece", "(III)V"⟩, 9) := ⟨⟨by decide +kernel, by decide +kernel⟩, List.mem_of_getElem? (i := 25) (by decide +kernel), List.mem_of_getElem? (i := 494) (by decide +kernel), List.mem_of_getElem? (i := 495) (by decide +kernel)⟩
theorem lw_p11 : lw_okq (⟨"GoodsDownhill$Land", "addPieces", "(III)V"⟩, 9) := ⟨⟨by decide +kernel, by decide +kernel⟩, List.mem_of_getElem? (i := 25) (by decide +kernel), List.mem_of_getElem? (i := 498) (by decide +kernel), List.mem_of_getElem? (i := 499) (by decide +kernel)⟩
theorem lw_p12 : lw_okq (⟨"GoodsDownhill$Land", "makeGoods", "(I)V"⟩, 9) := ⟨⟨by decide +kernel, by decide +kernel⟩, List.mem_of_getElem? (i := 25) (by decide +kernel), List.mem_of_getElem? (i := 519) (by decide +kernel), List.mem_of_getElem? (i := 520) (by decide +kernel)⟩
theorem lw_p13 : lw_okq (⟨"GoodsDownhill$Land", "buyWanted", "(I)I"⟩, 9) := ⟨⟨by decide +kernel, by decide +kernel⟩, List.mem_of_getElem? (i := 25) (by decide +kernel), List.mem_of_getElem? (i := 526) (by decide +kernel), List.mem_of_getElem? (i := 527) (by decide +kernel)⟩
theorem lw_p14 : lw_okq (⟨"GoodsDownhill$Land", "fullestSellerTo", "(II)I"⟩, 9) := ⟨⟨by decide +kernel, by decide +kernel⟩, List.mem_of_getElem? (i := 25) (by decide +kernel), List.mem_of_getElem? (i := 530) (by decide +kernel), List.mem_of_getElem? (i := 531) (by decide +kernel)⟩
theorem lw_p15 : lw_okq (⟨"GoodsDownhill$Land", "useWanted", "(I)I"⟩, 9) := ⟨⟨by decide +kernel, by decide +kernel⟩, List.mem_of_getElem? (i := 25) (by decide +kernel), List.mem_of_getElem? (i := 545) (by decide +kernel), List.mem_of_getElem? (i := 546) (by decide +kernel)⟩
def lw_privs_1 : List (MethodName × Nat) := [(⟨"GoodsDownhill", "refuse", "(I)I"⟩, 10), (⟨"GoodsDownhill$Letters", "endOfDigits", "(II)I"⟩, 2), (⟨"GoodsDownhill$Letters", "endOfStatement", "(I)I"⟩, 2), (⟨"GoodsDownhill$Letters", "tellHouse", "(LGoodsDownhill$Land;II)Z"⟩, 2), (⟨"GoodsDownhill$Letters", "digit", "(I)I"⟩, 2), (⟨"GoodsDownhill$Letters", "number", "(II)I"⟩, 2), (⟨"GoodsDownhill$Letters", "tellPrice", "(LGoodsDownhill$Land;I)Z"⟩, 2), (⟨"GoodsDownhill$Letters", "tellLaw", "(LGoodsDownhill$Land;I)Z"⟩, 2), (⟨"GoodsDownhill$Letters", "tellDebt", "(LGoodsDownhill$Land;II)Z"⟩, 2), (⟨"GoodsDownhill$Land", "hasMeans", "(III)Z"⟩, 9), (⟨"GoodsDownhill$Land", "moveOnePiece", "(III)V"⟩, 9), (⟨"GoodsDownhill$Land", "addPieces", "(III)V"⟩, 9), (⟨"GoodsDownhill$Land", "makeGoods", "(I)V"⟩, 9), (⟨"GoodsDownhill$Land", "buyWanted", "(I)I"⟩, 9), (⟨"GoodsDownhill$Land", "fullestSellerTo", "(II)I"⟩, 9), (⟨"GoodsDownhill$Land", "useWanted", "(I)I"⟩, 9)]
theorem lw_r1 : ∀ q ∈ lw_privs_1, lw_okq q := List.forall_mem_cons.mpr ⟨lw_p0, List.forall_mem_cons.mpr ⟨lw_p1, List.forall_mem_cons.mpr ⟨lw_p2, List.forall_mem_cons.mpr ⟨lw_p3, List.forall_mem_cons.mpr ⟨lw_p4, List.forall_mem_cons.mpr ⟨lw_p5, List.forall_mem_cons.mpr ⟨lw_p6, List.forall_mem_cons.mpr ⟨lw_p7, List.forall_mem_cons.mpr ⟨lw_p8, List.forall_mem_cons.mpr ⟨lw_p9, List.forall_mem_cons.mpr ⟨lw_p10, List.forall_mem_cons.mpr ⟨lw_p11, List.forall_mem_cons.mpr ⟨lw_p12, List.forall_mem_cons.mpr ⟨lw_p13, List.forall_mem_cons.mpr ⟨lw_p14, List.forall_mem_cons.mpr ⟨lw_p15, fun _ h => absurd h List.not_mem_nil⟩⟩⟩⟩⟩⟩⟩⟩⟩⟩⟩⟩⟩⟩⟩⟩
theorem lw_p16 : lw_okq (⟨"GoodsDownhill$Debts", "strikeTwo", "(II)I"⟩, 1) := ⟨⟨by decide +kernel, by decide +kernel⟩, List.mem_of_getElem? (i := 33) (by decide +kernel), List.mem_of_getElem? (i := 574) (by decide +kernel), List.mem_of_getElem? (i := 575) (by decide +kernel)⟩
theorem lw_p17 : lw_okq (⟨"GoodsDownhill$Debts", "strikeThree", "(III)I"⟩, 1) := ⟨⟨by decide +kernel, by decide +kernel⟩, List.mem_of_getElem? (i := 33) (by decide +kernel), List.mem_of_getElem? (i := 581) (by decide +kernel), List.mem_of_getElem? (i := 582) (by decide +kernel)⟩
theorem lw_p18 : lw_okq (⟨"GoodsDownhill", "passInMind", "(IILGoodsDownhill$Tally;)V"⟩, 10) := ⟨⟨by decide +kernel, by decide +kernel⟩, List.mem_of_getElem? (i := 17) (by decide +kernel), List.mem_of_getElem? (i := 589) (by decide +kernel), List.mem_of_getElem? (i := 590) (by decide +kernel)⟩
theorem lw_p19 : lw_okq (⟨"GoodsDownhillModel", "carryAll", "([IZ)V"⟩, 38) := ⟨⟨by decide +kernel, by decide +kernel⟩, List.mem_of_getElem? (i := 703) (by decide +kernel), List.mem_of_getElem? (i := 828) (by decide +kernel), List.mem_of_getElem? (i := 829) (by decide +kernel)⟩
theorem lw_p20 : lw_okq (⟨"GoodsDownhillModel", "carry", "(I)I"⟩, 38) := ⟨⟨by decide +kernel, by decide +kernel⟩, List.mem_of_getElem? (i := 703) (by decide +kernel), List.mem_of_getElem? (i := 832) (by decide +kernel), List.mem_of_getElem? (i := 833) (by decide +kernel)⟩
theorem lw_p21 : lw_okq (⟨"GoodsDownhillModel", "refuse", "(I)I"⟩, 38) := ⟨⟨by decide +kernel, by decide +kernel⟩, List.mem_of_getElem? (i := 703) (by decide +kernel), List.mem_of_getElem? (i := 840) (by decide +kernel), List.mem_of_getElem? (i := 841) (by decide +kernel)⟩
theorem lw_p22 : lw_okq (⟨"GoodsDownhillModel", "readStatement", "()V"⟩, 38) := ⟨⟨by decide +kernel, by decide +kernel⟩, List.mem_of_getElem? (i := 703) (by decide +kernel), List.mem_of_getElem? (i := 852) (by decide +kernel), List.mem_of_getElem? (i := 853) (by decide +kernel)⟩
theorem lw_p23 : lw_okq (⟨"GoodsDownhillModel", "here", "()I"⟩, 38) := ⟨⟨by decide +kernel, by decide +kernel⟩, List.mem_of_getElem? (i := 703) (by decide +kernel), List.mem_of_getElem? (i := 856) (by decide +kernel), List.mem_of_getElem? (i := 857) (by decide +kernel)⟩
theorem lw_p24 : lw_okq (⟨"GoodsDownhillModel", "readDigit", "()I"⟩, 38) := ⟨⟨by decide +kernel, by decide +kernel⟩, List.mem_of_getElem? (i := 703) (by decide +kernel), List.mem_of_getElem? (i := 860) (by decide +kernel), List.mem_of_getElem? (i := 861) (by decide +kernel)⟩
theorem lw_p25 : lw_okq (⟨"GoodsDownhillModel", "readNumber", "(I)I"⟩, 38) := ⟨⟨by decide +kernel, by decide +kernel⟩, List.mem_of_getElem? (i := 703) (by decide +kernel), List.mem_of_getElem? (i := 869) (by decide +kernel), List.mem_of_getElem? (i := 870) (by decide +kernel)⟩
theorem lw_p26 : lw_okq (⟨"GoodsDownhillModel", "open", "()V"⟩, 38) := ⟨⟨by decide +kernel, by decide +kernel⟩, List.mem_of_getElem? (i := 703) (by decide +kernel), List.mem_of_getElem? (i := 873) (by decide +kernel), List.mem_of_getElem? (i := 874) (by decide +kernel)⟩
theorem lw_p27 : lw_okq (⟨"GoodsDownhillModel", "comes", "(I)Z"⟩, 38) := ⟨⟨by decide +kernel, by decide +kernel⟩, List.mem_of_getElem? (i := 703) (by decide +kernel), List.mem_of_getElem? (i := 877) (by decide +kernel), List.mem_of_getElem? (i := 878) (by decide +kernel)⟩
theorem lw_p28 : lw_okq (⟨"GoodsDownhillModel", "houseComes", "(I)Z"⟩, 38) := ⟨⟨by decide +kernel, by decide +kernel⟩, List.mem_of_getElem? (i := 703) (by decide +kernel), List.mem_of_getElem? (i := 881) (by decide +kernel), List.mem_of_getElem? (i := 882) (by decide +kernel)⟩
theorem lw_p29 : lw_okq (⟨"GoodsDownhillModel", "areTwo", "(II)Z"⟩, 38) := ⟨⟨by decide +kernel, by decide +kernel⟩, List.mem_of_getElem? (i := 703) (by decide +kernel), List.mem_of_getElem? (i := 885) (by decide +kernel), List.mem_of_getElem? (i := 886) (by decide +kernel)⟩
theorem lw_p30 : lw_okq (⟨"GoodsDownhillModel", "isHouse", "(I)Z"⟩, 38) := ⟨⟨by decide +kernel, by decide +kernel⟩, List.mem_of_getElem? (i := 703) (by decide +kernel), List.mem_of_getElem? (i := 889) (by decide +kernel), List.mem_of_getElem? (i := 890) (by decide +kernel)⟩
theorem lw_p31 : lw_okq (⟨"GoodsDownhillModel", "close", "()V"⟩, 38) := ⟨⟨by decide +kernel, by decide +kernel⟩, List.mem_of_getElem? (i := 703) (by decide +kernel), List.mem_of_getElem? (i := 893) (by decide +kernel), List.mem_of_getElem? (i := 894) (by decide +kernel)⟩
def lw_privs_2 : List (MethodName × Nat) := [(⟨"GoodsDownhill$Debts", "strikeTwo", "(II)I"⟩, 1), (⟨"GoodsDownhill$Debts", "strikeThree", "(III)I"⟩, 1), (⟨"GoodsDownhill", "passInMind", "(IILGoodsDownhill$Tally;)V"⟩, 10), (⟨"GoodsDownhillModel", "carryAll", "([IZ)V"⟩, 38), (⟨"GoodsDownhillModel", "carry", "(I)I"⟩, 38), (⟨"GoodsDownhillModel", "refuse", "(I)I"⟩, 38), (⟨"GoodsDownhillModel", "readStatement", "()V"⟩, 38), (⟨"GoodsDownhillModel", "here", "()I"⟩, 38), (⟨"GoodsDownhillModel", "readDigit", "()I"⟩, 38), (⟨"GoodsDownhillModel", "readNumber", "(I)I"⟩, 38), (⟨"GoodsDownhillModel", "open", "()V"⟩, 38), (⟨"GoodsDownhillModel", "comes", "(I)Z"⟩, 38), (⟨"GoodsDownhillModel", "houseComes", "(I)Z"⟩, 38), (⟨"GoodsDownhillModel", "areTwo", "(II)Z"⟩, 38), (⟨"GoodsDownhillModel", "isHouse", "(I)Z"⟩, 38), (⟨"GoodsDownhillModel", "close", "()V"⟩, 38)]
theorem lw_r2 : ∀ q ∈ lw_privs_2, lw_okq q := List.forall_mem_cons.mpr ⟨lw_p16, List.forall_mem_cons.mpr ⟨lw_p17, List.forall_mem_cons.mpr ⟨lw_p18, List.forall_mem_cons.mpr ⟨lw_p19, List.forall_mem_cons.mpr ⟨lw_p20, List.forall_mem_cons.mpr ⟨lw_p21, List.forall_mem_cons.mpr ⟨lw_p22, List.forall_mem_cons.mpr ⟨lw_p23, List.forall_mem_cons.mpr ⟨lw_p24, List.forall_mem_cons.mpr ⟨lw_p25, List.forall_mem_cons.mpr ⟨lw_p26, List.forall_mem_cons.mpr ⟨lw_p27, List.forall_mem_cons.mpr ⟨lw_p28, List.forall_mem_cons.mpr ⟨lw_p29, List.forall_mem_cons.mpr ⟨lw_p30, List.forall_mem_cons.mpr ⟨lw_p31, fun _ h => absurd h List.not_mem_nil⟩⟩⟩⟩⟩⟩⟩⟩⟩⟩⟩⟩⟩⟩⟩⟩
theorem lw_p32 : lw_okq (⟨"GoodsDownhillModel", "sellsAt", "(I)I"⟩, 38) := ⟨⟨by decide +kernel, by decide +kernel⟩, List.mem_of_getElem? (i := 703) (by decide +kernel), List.mem_of_getElem? (i := 901) (by decide +kernel), List.mem_of_getElem? (i := 902) (by decide +kernel)⟩
theorem lw_p33 : lw_okq (⟨"GoodsDownhillModel", "buysAt", "(I)I"⟩, 38) := ⟨⟨by decide +kernel, by decide +kernel⟩, List.mem_of_getElem? (i := 703) (by decide +kernel), List.mem_of_getElem? (i := 905) (by decide +kernel), List.mem_of_getElem? (i := 906) (by decide +kernel)⟩
theorem lw_p34 : lw_okq (⟨"GoodsDownhillModel", "isLawful", "(II)Z"⟩, 38) := ⟨⟨by decide +kernel, by decide +kernel⟩, List.mem_of_getElem? (i := 703) (by decide +kernel), List.mem_of_getElem? (i := 929) (by decide +kernel), List.mem_of_getElem? (i := 930) (by decide +kernel)⟩
theorem lw_p35 : lw_okq (⟨"GoodsDownhillModel", "canSell", "(III)Z"⟩, 38) := ⟨⟨by decide +kernel, by decide +kernel⟩, List.mem_of_getElem? (i := 703) (by decide +kernel), List.mem_of_getElem? (i := 937) (by decide +kernel), List.mem_of_getElem? (i := 938) (by decide +kernel)⟩
theorem lw_p36 : lw_okq (⟨"GoodsDownhillModel", "sell", "(III)V"⟩, 38) := ⟨⟨by decide +kernel, by decide +kernel⟩, List.mem_of_getElem? (i := 703) (by decide +kernel), List.mem_of_getElem? (i := 941) (by decide +kernel), List.mem_of_getElem? (i := 942) (by decide +kernel)⟩
theorem lw_p37 : lw_okq (⟨"GoodsDownhillModel", "weekOn", "()I"⟩, 38) := ⟨⟨by decide +kernel, by decide +kernel⟩, List.mem_of_getElem? (i := 703) (by decide +kernel), List.mem_of_getElem? (i := 949) (by decide +kernel), List.mem_of_getElem? (i := 950) (by decide +kernel)⟩
theorem lw_p38 : lw_okq (⟨"GoodsDownhillModel", "buyFor", "(I)V"⟩, 38) := ⟨⟨by decide +kernel, by decide +kernel⟩, List.mem_of_getElem? (i := 703) (by decide +kernel), List.mem_of_getElem? (i := 953) (by decide +kernel), List.mem_of_getElem? (i := 954) (by decide +kernel)⟩
theorem lw_p39 : lw_okq (⟨"GoodsDownhillModel", "wants", "(II)Z"⟩, 38) := ⟨⟨by decide +kernel, by decide +kernel⟩, List.mem_of_getElem? (i := 703) (by decide +kernel), List.mem_of_getElem? (i := 957) (by decide +kernel), List.mem_of_getElem? (i := 958) (by decide +kernel)⟩
theorem lw_p40 : lw_okq (⟨"GoodsDownhillModel", "debt", "(II)I"⟩, 38) := ⟨⟨by decide +kernel, by decide +kernel⟩, List.mem_of_getElem? (i := 703) (by decide +kernel), List.mem_of_getElem? (i := 969) (by decide +kernel), List.mem_of_getElem? (i := 970) (by decide +kernel)⟩
theorem lw_p41 : lw_okq (⟨"GoodsDownhillModel", "strikeAll", "()I"⟩, 38) := ⟨⟨by decide +kernel, by decide +kernel⟩, List.mem_of_getElem? (i := 703) (by decide +kernel), List.mem_of_getElem? (i := 977) (by decide +kernel), List.mem_of_getElem? (i := 978) (by decide +kernel)⟩
theorem lw_p42 : lw_okq (⟨"GoodsDownhillModel", "strikeOne", "()Z"⟩, 38) := ⟨⟨by decide +kernel, by decide +kernel⟩, List.mem_of_getElem? (i := 703) (by decide +kernel), List.mem_of_getElem? (i := 981) (by decide +kernel), List.mem_of_getElem? (i := 982) (by decide +kernel)⟩
theorem lw_p43 : lw_okq (⟨"GoodsDownhillModel", "lessen", "(III)I"⟩, 38) := ⟨⟨by decide +kernel, by decide +kernel⟩, List.mem_of_getElem? (i := 703) (by decide +kernel), List.mem_of_getElem? (i := 985) (by decide +kernel), List.mem_of_getElem? (i := 986) (by decide +kernel)⟩
theorem lw_p44 : lw_okq (⟨"GoodsDownhillModel", "servedIn", "(I)I"⟩, 38) := ⟨⟨by decide +kernel, by decide +kernel⟩, List.mem_of_getElem? (i := 703) (by decide +kernel), List.mem_of_getElem? (i := 993) (by decide +kernel), List.mem_of_getElem? (i := 994) (by decide +kernel)⟩
theorem lw_p45 : lw_okq (⟨"GoodsDownhillModel", "wantsOfAll", "()I"⟩, 38) := ⟨⟨by decide +kernel, by decide +kernel⟩, List.mem_of_getElem? (i := 703) (by decide +kernel), List.mem_of_getElem? (i := 1001) (by decide +kernel), List.mem_of_getElem? (i := 1002) (by decide +kernel)⟩
theorem lw_p46 : lw_okq (⟨"GoodsDownhillModel", "mostOf", "(I)I"⟩, 38) := ⟨⟨by decide +kernel, by decide +kernel⟩, List.mem_of_getElem? (i := 703) (by decide +kernel), List.mem_of_getElem? (i := 1017) (by decide +kernel), List.mem_of_getElem? (i := 1018) (by decide +kernel)⟩
theorem lw_p47 : lw_okq (⟨"GoodsDownhillModel", "isPath", "(IIII)Z"⟩, 38) := ⟨⟨by decide +kernel, by decide +kernel⟩, List.mem_of_getElem? (i := 703) (by decide +kernel), List.mem_of_getElem? (i := 1030) (by decide +kernel), List.mem_of_getElem? (i := 1031) (by decide +kernel)⟩
def lw_privs_3 : List (MethodName × Nat) := [(⟨"GoodsDownhillModel", "sellsAt", "(I)I"⟩, 38), (⟨"GoodsDownhillModel", "buysAt", "(I)I"⟩, 38), (⟨"GoodsDownhillModel", "isLawful", "(II)Z"⟩, 38), (⟨"GoodsDownhillModel", "canSell", "(III)Z"⟩, 38), (⟨"GoodsDownhillModel", "sell", "(III)V"⟩, 38), (⟨"GoodsDownhillModel", "weekOn", "()I"⟩, 38), (⟨"GoodsDownhillModel", "buyFor", "(I)V"⟩, 38), (⟨"GoodsDownhillModel", "wants", "(II)Z"⟩, 38), (⟨"GoodsDownhillModel", "debt", "(II)I"⟩, 38), (⟨"GoodsDownhillModel", "strikeAll", "()I"⟩, 38), (⟨"GoodsDownhillModel", "strikeOne", "()Z"⟩, 38), (⟨"GoodsDownhillModel", "lessen", "(III)I"⟩, 38), (⟨"GoodsDownhillModel", "servedIn", "(I)I"⟩, 38), (⟨"GoodsDownhillModel", "wantsOfAll", "()I"⟩, 38), (⟨"GoodsDownhillModel", "mostOf", "(I)I"⟩, 38), (⟨"GoodsDownhillModel", "isPath", "(IIII)Z"⟩, 38)]
theorem lw_r3 : ∀ q ∈ lw_privs_3, lw_okq q := List.forall_mem_cons.mpr ⟨lw_p32, List.forall_mem_cons.mpr ⟨lw_p33, List.forall_mem_cons.mpr ⟨lw_p34, List.forall_mem_cons.mpr ⟨lw_p35, List.forall_mem_cons.mpr ⟨lw_p36, List.forall_mem_cons.mpr ⟨lw_p37, List.forall_mem_cons.mpr ⟨lw_p38, List.forall_mem_cons.mpr ⟨lw_p39, List.forall_mem_cons.mpr ⟨lw_p40, List.forall_mem_cons.mpr ⟨lw_p41, List.forall_mem_cons.mpr ⟨lw_p42, List.forall_mem_cons.mpr ⟨lw_p43, List.forall_mem_cons.mpr ⟨lw_p44, List.forall_mem_cons.mpr ⟨lw_p45, List.forall_mem_cons.mpr ⟨lw_p46, List.forall_mem_cons.mpr ⟨lw_p47, fun _ h => absurd h List.not_mem_nil⟩⟩⟩⟩⟩⟩⟩⟩⟩⟩⟩⟩⟩⟩⟩⟩
theorem lw_p48 : lw_okq (⟨"GoodsDownhillModel", "isSold", "(III)Z"⟩, 38) := ⟨⟨by decide +kernel, by decide +kernel⟩, List.mem_of_getElem? (i := 703) (by decide +kernel), List.mem_of_getElem? (i := 1054) (by decide +kernel), List.mem_of_getElem? (i := 1055) (by decide +kernel)⟩
theorem lw_p49 : lw_okq (⟨"GoodsDownhillModel", "draw", "(I)I"⟩, 38) := ⟨⟨by decide +kernel, by decide +kernel⟩, List.mem_of_getElem? (i := 703) (by decide +kernel), List.mem_of_getElem? (i := 1062) (by decide +kernel), List.mem_of_getElem? (i := 1063) (by decide +kernel)⟩
theorem lw_p50 : lw_okq (⟨"GoodsDownhillModel", "sumOf", "([II)I"⟩, 38) := ⟨⟨by decide +kernel, by decide +kernel⟩, List.mem_of_getElem? (i := 703) (by decide +kernel), List.mem_of_getElem? (i := 1073) (by decide +kernel), List.mem_of_getElem? (i := 1074) (by decide +kernel)⟩
def lw_privs_4 : List (MethodName × Nat) := [(⟨"GoodsDownhillModel", "isSold", "(III)Z"⟩, 38), (⟨"GoodsDownhillModel", "draw", "(I)I"⟩, 38), (⟨"GoodsDownhillModel", "sumOf", "([II)I"⟩, 38)]
theorem lw_r4 : ∀ q ∈ lw_privs_4, lw_okq q := List.forall_mem_cons.mpr ⟨lw_p48, List.forall_mem_cons.mpr ⟨lw_p49, List.forall_mem_cons.mpr ⟨lw_p50, fun _ h => absurd h List.not_mem_nil⟩⟩⟩
def lw_privs : List (MethodName × Nat) := lw_privs_1 ++ (lw_privs_2 ++ (lw_privs_3 ++ (lw_privs_4)))
def lw_tbl : List Cond := k2_sels lw_privs ++ tables_1
theorem lw_privs_ok : ∀ q ∈ lw_privs, lw_okq q := by
  show ∀ q ∈ lw_privs_1 ++ (lw_privs_2 ++ (lw_privs_3 ++ (lw_privs_4))), lw_okq q
  exact List.forall_mem_append.mpr ⟨lw_r1, List.forall_mem_append.mpr ⟨lw_r2, List.forall_mem_append.mpr ⟨lw_r3, lw_r4⟩⟩⟩
def RX0 : String := "GoodsDownhill$Cellared"
def TX0 : u_T := fun k => match k with
  | 0 => ("GoodsDownhill$House", "figure", "I", true)
  | 1 => ("GoodsDownhill$House", "height", "I", true)
  | 2 => ("GoodsDownhill$House", "madeGood", "I", true)
  | 3 => ("GoodsDownhill$House", "makes", "I", true)
  | 4 => ("GoodsDownhill$House", "wantedGood", "I", true)
  | _ => ("GoodsDownhill$House", "wants", "I", true)
def tyX0 : Nat → FieldType := fun k => match k with
  | 0 => .int
  | 1 => .int
  | 2 => .int
  | 3 => .int
  | 4 => .int
  | _ => .int
abbrev wsX00 : List Cond := u_ws RX0 TX0 6
theorem nmX0 : ∀ a, a < 6 → ∀ b, b < 6 → a ≠ b → (TX0 a).2.1 ≠ (TX0 b).2.1 := by decide +kernel
theorem tyX0_ok : ∀ k, k < 6 → parseFieldDescriptor (TX0 k).2.2.1 = some (tyX0 k) := by decide +kernel
abbrev cX0_init : ByteArray := prog_2_method_1_code
def yX0_init : MethodName := ⟨RX0, "<init>", "(IIIIII)V"⟩
abbrev cX0_insteadOf : ByteArray := prog_2_method_2_code
def yX0_insteadOf : MethodName := ⟨RX0, "insteadOf", "(LGoodsDownhill$House;I)LGoodsDownhill$House;"⟩
abbrev cX0_kind : ByteArray := prog_2_method_3_code
def yX0_kind : MethodName := ⟨RX0, "kind", "()I"⟩
abbrev cX0_buysAt : ByteArray := prog_2_method_4_code
def yX0_buysAt : MethodName := ⟨RX0, "buysAt", "()I"⟩
def RX1 : String := "GoodsDownhill$Debts"
def TX1 : u_T := fun k => match k with
  | _ => ("GoodsDownhill$Debts", "sums", "[I", true)
def tyX1 : Nat → FieldType := fun k => match k with
  | _ => .array .int
abbrev wsX10 : List Cond := u_ws RX1 TX1 1
theorem nmX1 : ∀ a, a < 1 → ∀ b, b < 1 → a ≠ b → (TX1 a).2.1 ≠ (TX1 b).2.1 := by decide +kernel
theorem tyX1_ok : ∀ k, k < 1 → parseFieldDescriptor (TX1 k).2.2.1 = some (tyX1 k) := by decide +kernel
abbrev cX1_init : ByteArray := prog_3_method_1_code
def yX1_init : MethodName := ⟨RX1, "<init>", "()V"⟩
abbrev cX1_copyFrom : ByteArray := prog_3_method_2_code
def yX1_copyFrom : MethodName := ⟨RX1, "copyFrom", "(LGoodsDownhill$Debts;)V"⟩
abbrev cX1_from : ByteArray := prog_3_method_3_code
def yX1_from : MethodName := ⟨RX1, "from", "(II)I"⟩
abbrev cX1_put : ByteArray := prog_3_method_4_code
def yX1_put : MethodName := ⟨RX1, "put", "(III)V"⟩
abbrev cX1_total : ByteArray := prog_3_method_5_code
def yX1_total : MethodName := ⟨RX1, "total", "()I"⟩
abbrev cX1_owedTo : ByteArray := prog_3_method_6_code
def yX1_owedTo : MethodName := ⟨RX1, "owedTo", "(I)I"⟩
abbrev cX1_strikeRings : ByteArray := prog_3_method_7_code
def yX1_strikeRings : MethodName := ⟨RX1, "strikeRings", "()I"⟩
abbrev cX1_strikeTwo : ByteArray := prog_3_method_8_code
def yX1_strikeTwo : MethodName := ⟨RX1, "strikeTwo", "(II)I"⟩
abbrev cX1_strikeThree : ByteArray := prog_3_method_9_code
def yX1_strikeThree : MethodName := ⟨RX1, "strikeThree", "(III)I"⟩
def RX2 : String := "GoodsDownhill$Feigned"
def TX2 : u_T := fun k => match k with
  | 0 => ("GoodsDownhill$House", "figure", "I", true)
  | 1 => ("GoodsDownhill$House", "height", "I", true)
  | 2 => ("GoodsDownhill$House", "madeGood", "I", true)
  | 3 => ("GoodsDownhill$House", "makes", "I", true)
  | 4 => ("GoodsDownhill$House", "wantedGood", "I", true)
  | _ => ("GoodsDownhill$House", "wants", "I", true)
def tyX2 : Nat → FieldType := fun k => match k with
  | 0 => .int
  | 1 => .int
  | 2 => .int
  | 3 => .int
  | 4 => .int
  | _ => .int
abbrev wsX20 : List Cond := u_ws RX2 TX2 6
theorem nmX2 : ∀ a, a < 6 → ∀ b, b < 6 → a ≠ b → (TX2 a).2.1 ≠ (TX2 b).2.1 := by decide +kernel
theorem tyX2_ok : ∀ k, k < 6 → parseFieldDescriptor (TX2 k).2.2.1 = some (tyX2 k) := by decide +kernel
abbrev cX2_init : ByteArray := prog_4_method_1_code
def yX2_init : MethodName := ⟨RX2, "<init>", "(IIIIII)V"⟩
abbrev cX2_kind : ByteArray := prog_4_method_2_code
def yX2_kind : MethodName := ⟨RX2, "kind", "()I"⟩
abbrev cX2_buysAt : ByteArray := prog_4_method_3_code
def yX2_buysAt : MethodName := ⟨RX2, "buysAt", "()I"⟩
def RX3 : String := "GoodsDownhill$Hermit"
def TX3 : u_T := fun k => match k with
  | 0 => ("GoodsDownhill$House", "figure", "I", true)
  | 1 => ("GoodsDownhill$House", "height", "I", true)
  | 2 => ("GoodsDownhill$House", "madeGood", "I", true)
  | 3 => ("GoodsDownhill$House", "makes", "I", true)
  | 4 => ("GoodsDownhill$House", "wantedGood", "I", true)
  | _ => ("GoodsDownhill$House", "wants", "I", true)
def tyX3 : Nat → FieldType := fun k => match k with
  | 0 => .int
  | 1 => .int
  | 2 => .int
  | 3 => .int
  | 4 => .int
  | _ => .int
abbrev wsX30 : List Cond := u_ws RX3 TX3 6
theorem nmX3 : ∀ a, a < 6 → ∀ b, b < 6 → a ≠ b → (TX3 a).2.1 ≠ (TX3 b).2.1 := by decide +kernel
theorem tyX3_ok : ∀ k, k < 6 → parseFieldDescriptor (TX3 k).2.2.1 = some (tyX3 k) := by decide +kernel
abbrev cX3_init : ByteArray := prog_5_method_1_code
def yX3_init : MethodName := ⟨RX3, "<init>", "(IIIIII)V"⟩
abbrev cX3_kind : ByteArray := prog_5_method_2_code
def yX3_kind : MethodName := ⟨RX3, "kind", "()I"⟩
abbrev cX3_buysAt : ByteArray := prog_5_method_3_code
def yX3_buysAt : MethodName := ⟨RX3, "buysAt", "()I"⟩
def RX4 : String := "GoodsDownhill$House"
def TX4 : u_T := fun k => match k with
  | 0 => ("GoodsDownhill$House", "figure", "I", true)
  | 1 => ("GoodsDownhill$House", "height", "I", true)
  | 2 => ("GoodsDownhill$House", "madeGood", "I", true)
  | 3 => ("GoodsDownhill$House", "makes", "I", true)
  | 4 => ("GoodsDownhill$House", "wantedGood", "I", true)
  | _ => ("GoodsDownhill$House", "wants", "I", true)
def tyX4 : Nat → FieldType := fun k => match k with
  | 0 => .int
  | 1 => .int
  | 2 => .int
  | 3 => .int
  | 4 => .int
  | _ => .int
abbrev wsX40 : List Cond := u_ws RX4 TX4 6
theorem nmX4 : ∀ a, a < 6 → ∀ b, b < 6 → a ≠ b → (TX4 a).2.1 ≠ (TX4 b).2.1 := by decide +kernel
theorem tyX4_ok : ∀ k, k < 6 → parseFieldDescriptor (TX4 k).2.2.1 = some (tyX4 k) := by decide +kernel
abbrev cX4_init : ByteArray := prog_6_method_1_code
def yX4_init : MethodName := ⟨RX4, "<init>", "(IIIIII)V"⟩
abbrev cX4_kind : ByteArray := prog_6_method_2_code
def yX4_kind : MethodName := ⟨RX4, "kind", "()I"⟩
abbrev cX4_sellsAt : ByteArray := prog_6_method_3_code
def yX4_sellsAt : MethodName := ⟨RX4, "sellsAt", "()I"⟩
abbrev cX4_buysAt : ByteArray := prog_6_method_4_code
def yX4_buysAt : MethodName := ⟨RX4, "buysAt", "()I"⟩
abbrev cX4_wantsSome : ByteArray := prog_6_method_5_code
def yX4_wantsSome : MethodName := ⟨RX4, "wantsSome", "(I)Z"⟩
def RX5 : String := "GoodsDownhill$Joined"
def TX5 : u_T := fun k => match k with
  | 0 => ("GoodsDownhill$House", "figure", "I", true)
  | 1 => ("GoodsDownhill$House", "height", "I", true)
  | 2 => ("GoodsDownhill$House", "madeGood", "I", true)
  | 3 => ("GoodsDownhill$House", "makes", "I", true)
  | 4 => ("GoodsDownhill$House", "wantedGood", "I", true)
  | _ => ("GoodsDownhill$House", "wants", "I", true)
def tyX5 : Nat → FieldType := fun k => match k with
  | 0 => .int
  | 1 => .int
  | 2 => .int
  | 3 => .int
  | 4 => .int
  | _ => .int
abbrev wsX50 : List Cond := u_ws RX5 TX5 6
theorem nmX5 : ∀ a, a < 6 → ∀ b, b < 6 → a ≠ b → (TX5 a).2.1 ≠ (TX5 b).2.1 := by decide +kernel
theorem tyX5_ok : ∀ k, k < 6 → parseFieldDescriptor (TX5 k).2.2.1 = some (tyX5 k) := by decide +kernel
abbrev cX5_init : ByteArray := prog_7_method_1_code
def yX5_init : MethodName := ⟨RX5, "<init>", "(IIIIII)V"⟩
abbrev cX5_kind : ByteArray := prog_7_method_2_code
def yX5_kind : MethodName := ⟨RX5, "kind", "()I"⟩
abbrev cX5_sellsAt : ByteArray := prog_7_method_3_code
def yX5_sellsAt : MethodName := ⟨RX5, "sellsAt", "()I"⟩
def RX6 : String := "GoodsDownhill$Land"
def TX6 : u_T := fun k => match k with
  | 0 => ("GoodsDownhill$Land", "houses", "[LGoodsDownhill$House;", true)
  | 1 => ("GoodsDownhill$Land", "size", "I", false)
  | 2 => ("GoodsDownhill$Land", "coin", "[I", true)
  | 3 => ("GoodsDownhill$Land", "stores", "[I", true)
  | 4 => ("GoodsDownhill$Land", "prices", "[I", true)
  | 5 => ("GoodsDownhill$Land", "debts", "LGoodsDownhill$Debts;", true)
  | 6 => ("GoodsDownhill$Land", "lawNow", "I", false)
  | 7 => ("GoodsDownhill$Land", "weekNow", "I", false)
  | _ => ("GoodsDownhill$Land", "muleFrom", "I", false)
def tyX6 : Nat → FieldType := fun k => match k with
  | 0 => .array (.object "GoodsDownhill$House")
  | 1 => .int
  | 2 => .array .int
  | 3 => .array .int
  | 4 => .array .int
  | 5 => .object "GoodsDownhill$Debts"
  | 6 => .int
  | 7 => .int
  | _ => .int
abbrev wsX60 : List Cond := u_ws RX6 TX6 9
theorem nmX6 : ∀ a, a < 9 → ∀ b, b < 9 → a ≠ b → (TX6 a).2.1 ≠ (TX6 b).2.1 := by decide +kernel
theorem tyX6_ok : ∀ k, k < 9 → parseFieldDescriptor (TX6 k).2.2.1 = some (tyX6 k) := by decide +kernel
abbrev cX6_init : ByteArray := prog_8_method_1_code
def yX6_init : MethodName := ⟨RX6, "<init>", "()V"⟩
abbrev cX6_copyFrom : ByteArray := prog_8_method_2_code
def yX6_copyFrom : MethodName := ⟨RX6, "copyFrom", "(LGoodsDownhill$Land;)V"⟩
abbrev cX6_addHouse : ByteArray := prog_8_method_3_code
def yX6_addHouse : MethodName := ⟨RX6, "addHouse", "(LGoodsDownhill$House;I)Z"⟩
abbrev cX6_hasHouse : ByteArray := prog_8_method_4_code
def yX6_hasHouse : MethodName := ⟨RX6, "hasHouse", "(I)Z"⟩
abbrev cX6_areTwo : ByteArray := prog_8_method_5_code
def yX6_areTwo : MethodName := ⟨RX6, "areTwo", "(II)Z"⟩
abbrev cX6_piecesOf : ByteArray := prog_8_method_6_code
def yX6_piecesOf : MethodName := ⟨RX6, "piecesOf", "(II)I"⟩
abbrev cX6_addPieces : ByteArray := prog_8_method_7_code
def yX6_addPieces : MethodName := ⟨RX6, "addPieces", "(III)V"⟩
abbrev cX6_isLawful : ByteArray := prog_8_method_8_code
def yX6_isLawful : MethodName := ⟨RX6, "isLawful", "(II)Z"⟩
abbrev cX6_hasMeans : ByteArray := prog_8_method_9_code
def yX6_hasMeans : MethodName := ⟨RX6, "hasMeans", "(III)Z"⟩
abbrev cX6_moveOnePiece : ByteArray := prog_8_method_10_code
def yX6_moveOnePiece : MethodName := ⟨RX6, "moveOnePiece", "(III)V"⟩
abbrev cX6_trySale : ByteArray := prog_8_method_11_code
def yX6_trySale : MethodName := ⟨RX6, "trySale", "(III)Z"⟩
abbrev cX6_passWeek : ByteArray := prog_8_method_12_code
def yX6_passWeek : MethodName := ⟨RX6, "passWeek", "(LGoodsDownhill$Tally;)V"⟩
abbrev cX6_makeGoods : ByteArray := prog_8_method_13_code
def yX6_makeGoods : MethodName := ⟨RX6, "makeGoods", "(I)V"⟩
abbrev cX6_buyWanted : ByteArray := prog_8_method_14_code
def yX6_buyWanted : MethodName := ⟨RX6, "buyWanted", "(I)I"⟩
abbrev cX6_fullestSellerTo : ByteArray := prog_8_method_15_code
def yX6_fullestSellerTo : MethodName := ⟨RX6, "fullestSellerTo", "(II)I"⟩
abbrev cX6_useWanted : ByteArray := prog_8_method_16_code
def yX6_useWanted : MethodName := ⟨RX6, "useWanted", "(I)I"⟩
abbrev cX6_richest : ByteArray := prog_8_method_17_code
def yX6_richest : MethodName := ⟨RX6, "richest", "()I"⟩
def RX7 : String := "GoodsDownhill$Letters"
def TX7 : u_T := fun k => match k with
  | 0 => ("GoodsDownhill$Letters", "signs", "[I", true)
  | _ => ("GoodsDownhill$Letters", "size", "I", false)
def tyX7 : Nat → FieldType := fun k => match k with
  | 0 => .array .int
  | _ => .int
abbrev wsX70 : List Cond := u_ws RX7 TX7 2
theorem nmX7 : ∀ a, a < 2 → ∀ b, b < 2 → a ≠ b → (TX7 a).2.1 ≠ (TX7 b).2.1 := by decide +kernel
theorem tyX7_ok : ∀ k, k < 2 → parseFieldDescriptor (TX7 k).2.2.1 = some (tyX7 k) := by decide +kernel
abbrev cX7_init : ByteArray := prog_9_method_1_code
def yX7_init : MethodName := ⟨RX7, "<init>", "()V"⟩
abbrev cX7_isFull : ByteArray := prog_9_method_2_code
def yX7_isFull : MethodName := ⟨RX7, "isFull", "()Z"⟩
abbrev cX7_add : ByteArray := prog_9_method_3_code
def yX7_add : MethodName := ⟨RX7, "add", "(I)V"⟩
abbrev cX7_firstWrongPlace : ByteArray := prog_9_method_4_code
def yX7_firstWrongPlace : MethodName := ⟨RX7, "firstWrongPlace", "()I"⟩
abbrev cX7_endOfDigits : ByteArray := prog_9_method_5_code
def yX7_endOfDigits : MethodName := ⟨RX7, "endOfDigits", "(II)I"⟩
abbrev cX7_leastDigits : ByteArray := prog_9_method_6_code
def yX7_leastDigits : MethodName := ⟨RX7, "leastDigits", "(I)I"⟩
abbrev cX7_mostDigits : ByteArray := prog_9_method_7_code
def yX7_mostDigits : MethodName := ⟨RX7, "mostDigits", "(I)I"⟩
abbrev cX7_endOfStatement : ByteArray := prog_9_method_8_code
def yX7_endOfStatement : MethodName := ⟨RX7, "endOfStatement", "(I)I"⟩
abbrev cX7_number : ByteArray := prog_9_method_9_code
def yX7_number : MethodName := ⟨RX7, "number", "(II)I"⟩
abbrev cX7_digit : ByteArray := prog_9_method_10_code
def yX7_digit : MethodName := ⟨RX7, "digit", "(I)I"⟩
abbrev cX7_tellTo : ByteArray := prog_9_method_11_code
def yX7_tellTo : MethodName := ⟨RX7, "tellTo", "(LGoodsDownhill$Land;)I"⟩
abbrev cX7_tellHouse : ByteArray := prog_9_method_12_code
def yX7_tellHouse : MethodName := ⟨RX7, "tellHouse", "(LGoodsDownhill$Land;II)Z"⟩
abbrev cX7_tellPrice : ByteArray := prog_9_method_13_code
def yX7_tellPrice : MethodName := ⟨RX7, "tellPrice", "(LGoodsDownhill$Land;I)Z"⟩
abbrev cX7_tellLaw : ByteArray := prog_9_method_14_code
def yX7_tellLaw : MethodName := ⟨RX7, "tellLaw", "(LGoodsDownhill$Land;I)Z"⟩
abbrev cX7_tellDebt : ByteArray := prog_9_method_15_code
def yX7_tellDebt : MethodName := ⟨RX7, "tellDebt", "(LGoodsDownhill$Land;II)Z"⟩
def RX8 : String := "GoodsDownhill$Market"
def TX8 : u_T := fun k => match k with
  | 0 => ("GoodsDownhill$House", "figure", "I", true)
  | 1 => ("GoodsDownhill$House", "height", "I", true)
  | 2 => ("GoodsDownhill$House", "madeGood", "I", true)
  | 3 => ("GoodsDownhill$House", "makes", "I", true)
  | 4 => ("GoodsDownhill$House", "wantedGood", "I", true)
  | _ => ("GoodsDownhill$House", "wants", "I", true)
def tyX8 : Nat → FieldType := fun k => match k with
  | 0 => .int
  | 1 => .int
  | 2 => .int
  | 3 => .int
  | 4 => .int
  | _ => .int
abbrev wsX80 : List Cond := u_ws RX8 TX8 6
theorem nmX8 : ∀ a, a < 6 → ∀ b, b < 6 → a ≠ b → (TX8 a).2.1 ≠ (TX8 b).2.1 := by decide +kernel
theorem tyX8_ok : ∀ k, k < 6 → parseFieldDescriptor (TX8 k).2.2.1 = some (tyX8 k) := by decide +kernel
abbrev cX8_init : ByteArray := prog_10_method_1_code
def yX8_init : MethodName := ⟨RX8, "<init>", "(IIIIII)V"⟩
abbrev cX8_kind : ByteArray := prog_10_method_2_code
def yX8_kind : MethodName := ⟨RX8, "kind", "()I"⟩
abbrev cX8_sellsAt : ByteArray := prog_10_method_3_code
def yX8_sellsAt : MethodName := ⟨RX8, "sellsAt", "()I"⟩
def RX9 : String := "GoodsDownhill$Tally"
def TX9 : u_T := fun k => match k with
  | 0 => ("GoodsDownhill$Tally", "servedInAll", "I", false)
  | 1 => ("GoodsDownhill$Tally", "salesOfWeek", "I", false)
  | 2 => ("GoodsDownhill$Tally", "lacksOfWeek", "I", false)
  | _ => ("GoodsDownhill$Tally", "servedOf", "[I", true)
def tyX9 : Nat → FieldType := fun k => match k with
  | 0 => .int
  | 1 => .int
  | 2 => .int
  | _ => .array .int
abbrev wsX90 : List Cond := u_ws RX9 TX9 4
theorem nmX9 : ∀ a, a < 4 → ∀ b, b < 4 → a ≠ b → (TX9 a).2.1 ≠ (TX9 b).2.1 := by decide +kernel
theorem tyX9_ok : ∀ k, k < 4 → parseFieldDescriptor (TX9 k).2.2.1 = some (tyX9 k) := by decide +kernel
abbrev cX9_init : ByteArray := prog_11_method_1_code
def yX9_init : MethodName := ⟨RX9, "<init>", "()V"⟩
abbrev cX9_clear : ByteArray := prog_11_method_2_code
def yX9_clear : MethodName := ⟨RX9, "clear", "()V"⟩
abbrev cX9_beginWeek : ByteArray := prog_11_method_3_code
def yX9_beginWeek : MethodName := ⟨RX9, "beginWeek", "()V"⟩
abbrev cX9_addUse : ByteArray := prog_11_method_4_code
def yX9_addUse : MethodName := ⟨RX9, "addUse", "(III)V"⟩
def RX10 : String := "GoodsDownhill$Trade"
def TX10 : u_T := fun k => match k with
  | _ => ("", "", "", false)
def tyX10 : Nat → FieldType := fun k => match k with
  | _ => .int
abbrev wsX100 : List Cond := u_ws RX10 TX10 0
theorem nmX10 : ∀ a, a < 0 → ∀ b, b < 0 → a ≠ b → (TX10 a).2.1 ≠ (TX10 b).2.1 := by decide +kernel
theorem tyX10_ok : ∀ k, k < 0 → parseFieldDescriptor (TX10 k).2.2.1 = some (tyX10 k) := by decide +kernel
abbrev cX10_stuckOf : ByteArray := prog_12_method_2_code
def yX10_stuckOf : MethodName := ⟨RX10, "stuckOf", "(LGoodsDownhill$Land;I)I"⟩
abbrev cX10_hasBuyer : ByteArray := prog_12_method_3_code
def yX10_hasBuyer : MethodName := ⟨RX10, "hasBuyer", "(LGoodsDownhill$Land;II)Z"⟩
abbrev cX10_mostOf : ByteArray := prog_12_method_4_code
def yX10_mostOf : MethodName := ⟨RX10, "mostOf", "(LGoodsDownhill$Land;I)I"⟩
abbrev cX10_cutBeside : ByteArray := prog_12_method_5_code
def yX10_cutBeside : MethodName := ⟨RX10, "cutBeside", "(LGoodsDownhill$Land;II)I"⟩
abbrev cX10_hasSellerAmong : ByteArray := prog_12_method_6_code
def yX10_hasSellerAmong : MethodName := ⟨RX10, "hasSellerAmong", "(LGoodsDownhill$Land;III)Z"⟩
abbrev cX10_ways : ByteArray := prog_12_method_7_code
def yX10_ways : MethodName := ⟨RX10, "ways", "(LGoodsDownhill$Land;II)I"⟩
abbrev cX10_waysOn : ByteArray := prog_12_method_8_code
def yX10_waysOn : MethodName := ⟨RX10, "waysOn", "(LGoodsDownhill$Land;IIII)I"⟩
abbrev cX10_fewestSales : ByteArray := prog_12_method_9_code
def yX10_fewestSales : MethodName := ⟨RX10, "fewestSales", "(LGoodsDownhill$Land;II)I"⟩
abbrev cX10_oneSaleBehind : ByteArray := prog_12_method_10_code
def yX10_oneSaleBehind : MethodName := ⟨RX10, "oneSaleBehind", "(LGoodsDownhill$Land;I)I"⟩
def RX11 : String := "GoodsDownhill"
def TX11 : u_T := fun k => match k with
  | 0 => ("GoodsDownhill", "now", "LGoodsDownhill$Land;", true)
  | 1 => ("GoodsDownhill", "mind", "LGoodsDownhill$Land;", true)
  | 2 => ("GoodsDownhill", "kept", "LGoodsDownhill$Land;", true)
  | 3 => ("GoodsDownhill", "isKept", "Z", false)
  | 4 => ("GoodsDownhill", "tally", "LGoodsDownhill$Tally;", true)
  | 5 => ("GoodsDownhill", "otherTally", "LGoodsDownhill$Tally;", true)
  | 6 => ("GoodsDownhill", "letters", "LGoodsDownhill$Letters;", true)
  | 7 => ("GoodsDownhill", "toldSales", "[I", true)
  | 8 => ("GoodsDownhill", "toldCount", "I", false)
  | _ => ("GoodsDownhill", "refusals", "[I", true)
def tyX11 : Nat → FieldType := fun k => match k with
  | 0 => .object "GoodsDownhill$Land"
  | 1 => .object "GoodsDownhill$Land"
  | 2 => .object "GoodsDownhill$Land"
  | 3 => .boolean
  | 4 => .object "GoodsDownhill$Tally"
  | 5 => .object "GoodsDownhill$Tally"
  | 6 => .object "GoodsDownhill$Letters"
  | 7 => .array .int
  | 8 => .int
  | _ => .array .int
abbrev wsX110 : List Cond := u_ws RX11 TX11 10
theorem nmX11 : ∀ a, a < 10 → ∀ b, b < 10 → a ≠ b → (TX11 a).2.1 ≠ (TX11 b).2.1 := by decide +kernel
theorem tyX11_ok : ∀ k, k < 10 → parseFieldDescriptor (TX11 k).2.2.1 = some (tyX11 k) := by decide +kernel
abbrev cX11_init : ByteArray := prog_1_method_1_code
def yX11_init : MethodName := ⟨RX11, "<init>", "()V"⟩
abbrev cX11_feed : ByteArray := prog_1_method_2_code
def yX11_feed : MethodName := ⟨RX11, "feed", "(I)I"⟩
abbrev cX11_mountain : ByteArray := prog_1_method_3_code
def yX11_mountain : MethodName := ⟨RX11, "mountain", "()I"⟩
abbrev cX11_house : ByteArray := prog_1_method_4_code
def yX11_house : MethodName := ⟨RX11, "house", "(II)I"⟩
abbrev cX11_store : ByteArray := prog_1_method_5_code
def yX11_store : MethodName := ⟨RX11, "store", "(II)I"⟩
abbrev cX11_price : ByteArray := prog_1_method_6_code
def yX11_price : MethodName := ⟨RX11, "price", "(II)I"⟩
abbrev cX11_law : ByteArray := prog_1_method_7_code
def yX11_law : MethodName := ⟨RX11, "law", "(I)I"⟩
abbrev cX11_lawful : ByteArray := prog_1_method_8_code
def yX11_lawful : MethodName := ⟨RX11, "lawful", "(II)I"⟩
abbrev cX11_count : ByteArray := prog_1_method_9_code
def yX11_count : MethodName := ⟨RX11, "count", "(I)I"⟩
abbrev cX11_sale : ByteArray := prog_1_method_10_code
def yX11_sale : MethodName := ⟨RX11, "sale", "(III)I"⟩
abbrev cX11_week : ByteArray := prog_1_method_11_code
def yX11_week : MethodName := ⟨RX11, "week", "()I"⟩
abbrev cX11_mule : ByteArray := prog_1_method_12_code
def yX11_mule : MethodName := ⟨RX11, "mule", "(III)I"⟩
abbrev cX11_owe : ByteArray := prog_1_method_13_code
def yX11_owe : MethodName := ⟨RX11, "owe", "(III)I"⟩
abbrev cX11_strike : ByteArray := prog_1_method_14_code
def yX11_strike : MethodName := ⟨RX11, "strike", "()I"⟩
abbrev cX11_behind : ByteArray := prog_1_method_15_code
def yX11_behind : MethodName := ⟨RX11, "behind", "(II)I"⟩
abbrev cX11_served : ByteArray := prog_1_method_16_code
def yX11_served : MethodName := ⟨RX11, "served", "(II)I"⟩
abbrev cX11_drift : ByteArray := prog_1_method_17_code
def yX11_drift : MethodName := ⟨RX11, "drift", "(I)I"⟩
abbrev cX11_votes : ByteArray := prog_1_method_18_code
def yX11_votes : MethodName := ⟨RX11, "votes", "(II)I"⟩
abbrev cX11_passInMind : ByteArray := prog_1_method_19_code
def yX11_passInMind : MethodName := ⟨RX11, "passInMind", "(IILGoodsDownhill$Tally;)V"⟩
abbrev cX11_rings : ByteArray := prog_1_method_20_code
def yX11_rings : MethodName := ⟨RX11, "rings", "(I)I"⟩
abbrev cX11_seeds : ByteArray := prog_1_method_21_code
def yX11_seeds : MethodName := ⟨RX11, "seeds", "(II)I"⟩
abbrev cX11_nextSeed : ByteArray := prog_1_method_22_code
def yX11_nextSeed : MethodName := ⟨RX11, "nextSeed", "(I)I"⟩
abbrev cX11_drawBelow : ByteArray := prog_1_method_23_code
def yX11_drawBelow : MethodName := ⟨RX11, "drawBelow", "(II)I"⟩
abbrev cX11_stuck : ByteArray := prog_1_method_24_code
def yX11_stuck : MethodName := ⟨RX11, "stuck", "()I"⟩
abbrev cX11_most : ByteArray := prog_1_method_25_code
def yX11_most : MethodName := ⟨RX11, "most", "(I)I"⟩
abbrev cX11_cellar : ByteArray := prog_1_method_26_code
def yX11_cellar : MethodName := ⟨RX11, "cellar", "(III)I"⟩
abbrev cX11_paths : ByteArray := prog_1_method_27_code
def yX11_paths : MethodName := ⟨RX11, "paths", "(III)I"⟩
abbrev cX11_owed : ByteArray := prog_1_method_28_code
def yX11_owed : MethodName := ⟨RX11, "owed", "(I)I"⟩
abbrev cX11_row : ByteArray := prog_1_method_29_code
def yX11_row : MethodName := ⟨RX11, "row", "(I)I"⟩
abbrev cX11_judge : ByteArray := prog_1_method_30_code
def yX11_judge : MethodName := ⟨RX11, "judge", "()I"⟩
abbrev cX11_image : ByteArray := prog_1_method_31_code
def yX11_image : MethodName := ⟨RX11, "image", "()I"⟩
abbrev cX11_restore : ByteArray := prog_1_method_32_code
def yX11_restore : MethodName := ⟨RX11, "restore", "()I"⟩
abbrev cX11_refuse : ByteArray := prog_1_method_33_code
def yX11_refuse : MethodName := ⟨RX11, "refuse", "(I)I"⟩
abbrev cX11_isGood : ByteArray := prog_1_method_34_code
def yX11_isGood : MethodName := ⟨RX11, "isGood", "(I)Z"⟩
abbrev cX11_isLaw : ByteArray := prog_1_method_35_code
def yX11_isLaw : MethodName := ⟨RX11, "isLaw", "(I)Z"⟩
abbrev cX11_sumOf : ByteArray := prog_1_method_36_code
def yX11_sumOf : MethodName := ⟨RX11, "sumOf", "([I)I"⟩
def RX12 : String := "GoodsDownhillModel"
def TX12 : u_T := fun k => match k with
  | 0 => ("GoodsDownhillModel", "houses", "I", false)
  | 1 => ("GoodsDownhillModel", "law", "I", false)
  | 2 => ("GoodsDownhillModel", "weeks", "I", false)
  | 3 => ("GoodsDownhillModel", "muleWeek", "I", false)
  | 4 => ("GoodsDownhillModel", "kinds", "[I", true)
  | 5 => ("GoodsDownhillModel", "figures", "[I", true)
  | 6 => ("GoodsDownhillModel", "heights", "[I", true)
  | 7 => ("GoodsDownhillModel", "madeGood", "[I", true)
  | 8 => ("GoodsDownhillModel", "madeMany", "[I", true)
  | 9 => ("GoodsDownhillModel", "wantGood", "[I", true)
  | 10 => ("GoodsDownhillModel", "wantMany", "[I", true)
  | 11 => ("GoodsDownhillModel", "coins", "[I", true)
  | 12 => ("GoodsDownhillModel", "stores", "[I", true)
  | 13 => ("GoodsDownhillModel", "debts", "[I", true)
  | 14 => ("GoodsDownhillModel", "prices", "[I", true)
  | 15 => ("GoodsDownhillModel", "thrown", "I", false)
  | 16 => ("GoodsDownhillModel", "refusals", "[I", true)
  | 17 => ("GoodsDownhillModel", "sales", "I", false)
  | 18 => ("GoodsDownhillModel", "servedOf", "[I", true)
  | 19 => ("GoodsDownhillModel", "struckSum", "I", false)
  | 20 => ("GoodsDownhillModel", "kept", "[I", true)
  | 21 => ("GoodsDownhillModel", "imaged", "[I", true)
  | 22 => ("GoodsDownhillModel", "hasImage", "Z", false)
  | 23 => ("GoodsDownhillModel", "place", "I", false)
  | 24 => ("GoodsDownhillModel", "isTaking", "Z", false)
  | 25 => ("GoodsDownhillModel", "keptIn", "[I", false)
  | 26 => ("GoodsDownhillModel", "letters", "[I", true)
  | 27 => ("GoodsDownhillModel", "letterMany", "I", false)
  | 28 => ("GoodsDownhillModel", "at", "I", false)
  | 29 => ("GoodsDownhillModel", "isBad", "Z", false)
  | 30 => ("GoodsDownhillModel", "statements", "I", false)
  | 31 => ("GoodsDownhillModel", "placeOf", "[I", true)
  | 32 => ("GoodsDownhillModel", "letterOf", "[I", true)
  | 33 => ("GoodsDownhillModel", "told", "[I", true)
  | 34 => ("GoodsDownhillModel", "servedNow", "[I", true)
  | 35 => ("GoodsDownhillModel", "row", "[I", true)
  | 36 => ("GoodsDownhillModel", "rowMany", "I", false)
  | _ => ("GoodsDownhillModel", "seed", "I", false)
def tyX12 : Nat → FieldType := fun k => match k with
  | 0 => .int
  | 1 => .int
  | 2 => .int
  | 3 => .int
  | 4 => .array .int
  | 5 => .array .int
  | 6 => .array .int
  | 7 => .array .int
  | 8 => .array .int
  | 9 => .array .int
  | 10 => .array .int
  | 11 => .array .int
  | 12 => .array .int
  | 13 => .array .int
  | 14 => .array .int
  | 15 => .int
  | 16 => .array .int
  | 17 => .int
  | 18 => .array .int
  | 19 => .int
  | 20 => .array .int
  | 21 => .array .int
  | 22 => .boolean
  | 23 => .int
  | 24 => .boolean
  | 25 => .array .int
  | 26 => .array .int
  | 27 => .int
  | 28 => .int
  | 29 => .boolean
  | 30 => .int
  | 31 => .array .int
  | 32 => .array .int
  | 33 => .array .int
  | 34 => .array .int
  | 35 => .array .int
  | 36 => .int
  | _ => .int
abbrev wsX120 : List Cond := u_ws RX12 TX12 38
theorem nmX12 : ∀ a, a < 38 → ∀ b, b < 38 → a ≠ b → (TX12 a).2.1 ≠ (TX12 b).2.1 := by decide +kernel
theorem tyX12_ok : ∀ k, k < 38 → parseFieldDescriptor (TX12 k).2.2.1 = some (tyX12 k) := by decide +kernel
abbrev cX12_init : ByteArray := prog_14_method_1_code
def yX12_init : MethodName := ⟨RX12, "<init>", "()V"⟩
abbrev cX12_in : ByteArray := prog_14_method_3_code
def yX12_in : MethodName := ⟨RX12, "in", "(JJJ)Z"⟩
abbrev cX12_refuse : ByteArray := prog_14_method_4_code
def yX12_refuse : MethodName := ⟨RX12, "refuse", "(I)I"⟩
abbrev cX12_isHouse : ByteArray := prog_14_method_5_code
def yX12_isHouse : MethodName := ⟨RX12, "isHouse", "(I)Z"⟩
abbrev cX12_areTwo : ByteArray := prog_14_method_6_code
def yX12_areTwo : MethodName := ⟨RX12, "areTwo", "(II)Z"⟩
abbrev cX12_isGood : ByteArray := prog_14_method_7_code
def yX12_isGood : MethodName := ⟨RX12, "isGood", "(I)Z"⟩
abbrev cX12_sellsAt : ByteArray := prog_14_method_8_code
def yX12_sellsAt : MethodName := ⟨RX12, "sellsAt", "(I)I"⟩
abbrev cX12_buysAt : ByteArray := prog_14_method_9_code
def yX12_buysAt : MethodName := ⟨RX12, "buysAt", "(I)I"⟩
abbrev cX12_isLawful : ByteArray := prog_14_method_10_code
def yX12_isLawful : MethodName := ⟨RX12, "isLawful", "(II)Z"⟩
abbrev cX12_canSell : ByteArray := prog_14_method_11_code
def yX12_canSell : MethodName := ⟨RX12, "canSell", "(III)Z"⟩
abbrev cX12_sell : ByteArray := prog_14_method_12_code
def yX12_sell : MethodName := ⟨RX12, "sell", "(III)V"⟩
abbrev cX12_wants : ByteArray := prog_14_method_13_code
def yX12_wants : MethodName := ⟨RX12, "wants", "(II)Z"⟩
abbrev cX12_buyFor : ByteArray := prog_14_method_14_code
def yX12_buyFor : MethodName := ⟨RX12, "buyFor", "(I)V"⟩
abbrev cX12_weekOn : ByteArray := prog_14_method_15_code
def yX12_weekOn : MethodName := ⟨RX12, "weekOn", "()I"⟩
abbrev cX12_debt : ByteArray := prog_14_method_16_code
def yX12_debt : MethodName := ⟨RX12, "debt", "(II)I"⟩
abbrev cX12_lessen : ByteArray := prog_14_method_17_code
def yX12_lessen : MethodName := ⟨RX12, "lessen", "(III)I"⟩
abbrev cX12_strikeOne : ByteArray := prog_14_method_18_code
def yX12_strikeOne : MethodName := ⟨RX12, "strikeOne", "()Z"⟩
abbrev cX12_strikeAll : ByteArray := prog_14_method_19_code
def yX12_strikeAll : MethodName := ⟨RX12, "strikeAll", "()I"⟩
abbrev cX12_carry : ByteArray := prog_14_method_20_code
def yX12_carry : MethodName := ⟨RX12, "carry", "(I)I"⟩
abbrev cX12_carryAll : ByteArray := prog_14_method_21_code
def yX12_carryAll : MethodName := ⟨RX12, "carryAll", "([IZ)V"⟩
abbrev cX12_open : ByteArray := prog_14_method_22_code
def yX12_open : MethodName := ⟨RX12, "open", "()V"⟩
abbrev cX12_close : ByteArray := prog_14_method_23_code
def yX12_close : MethodName := ⟨RX12, "close", "()V"⟩
abbrev cX12_image : ByteArray := prog_14_method_24_code
def yX12_image : MethodName := ⟨RX12, "image", "()I"⟩
abbrev cX12_restore : ByteArray := prog_14_method_25_code
def yX12_restore : MethodName := ⟨RX12, "restore", "()I"⟩
abbrev cX12_feed : ByteArray := prog_14_method_26_code
def yX12_feed : MethodName := ⟨RX12, "feed", "(I)I"⟩
abbrev cX12_here : ByteArray := prog_14_method_27_code
def yX12_here : MethodName := ⟨RX12, "here", "()I"⟩
abbrev cX12_readDigit : ByteArray := prog_14_method_28_code
def yX12_readDigit : MethodName := ⟨RX12, "readDigit", "()I"⟩
abbrev cX12_readNumber : ByteArray := prog_14_method_29_code
def yX12_readNumber : MethodName := ⟨RX12, "readNumber", "(I)I"⟩
abbrev cX12_readStatement : ByteArray := prog_14_method_30_code
def yX12_readStatement : MethodName := ⟨RX12, "readStatement", "()V"⟩
abbrev cX12_houseComes : ByteArray := prog_14_method_31_code
def yX12_houseComes : MethodName := ⟨RX12, "houseComes", "(I)Z"⟩
abbrev cX12_comes : ByteArray := prog_14_method_32_code
def yX12_comes : MethodName := ⟨RX12, "comes", "(I)Z"⟩
abbrev cX12_mountain : ByteArray := prog_14_method_33_code
def yX12_mountain : MethodName := ⟨RX12, "mountain", "()I"⟩
abbrev cX12_house : ByteArray := prog_14_method_34_code
def yX12_house : MethodName := ⟨RX12, "house", "(II)I"⟩
abbrev cX12_store : ByteArray := prog_14_method_35_code
def yX12_store : MethodName := ⟨RX12, "store", "(II)I"⟩
abbrev cX12_price : ByteArray := prog_14_method_36_code
def yX12_price : MethodName := ⟨RX12, "price", "(II)I"⟩
abbrev cX12_law : ByteArray := prog_14_method_37_code
def yX12_law : MethodName := ⟨RX12, "law", "(I)I"⟩
abbrev cX12_lawful : ByteArray := prog_14_method_38_code
def yX12_lawful : MethodName := ⟨RX12, "lawful", "(II)I"⟩
abbrev cX12_sale : ByteArray := prog_14_method_39_code
def yX12_sale : MethodName := ⟨RX12, "sale", "(III)I"⟩
abbrev cX12_week : ByteArray := prog_14_method_40_code
def yX12_week : MethodName := ⟨RX12, "week", "()I"⟩
abbrev cX12_mule : ByteArray := prog_14_method_41_code
def yX12_mule : MethodName := ⟨RX12, "mule", "(III)I"⟩
abbrev cX12_owe : ByteArray := prog_14_method_42_code
def yX12_owe : MethodName := ⟨RX12, "owe", "(III)I"⟩
abbrev cX12_strike : ByteArray := prog_14_method_43_code
def yX12_strike : MethodName := ⟨RX12, "strike", "()I"⟩
abbrev cX12_servedIn : ByteArray := prog_14_method_44_code
def yX12_servedIn : MethodName := ⟨RX12, "servedIn", "(I)I"⟩
abbrev cX12_behind : ByteArray := prog_14_method_45_code
def yX12_behind : MethodName := ⟨RX12, "behind", "(II)I"⟩
abbrev cX12_wantsOfAll : ByteArray := prog_14_method_46_code
def yX12_wantsOfAll : MethodName := ⟨RX12, "wantsOfAll", "()I"⟩
abbrev cX12_served : ByteArray := prog_14_method_47_code
def yX12_served : MethodName := ⟨RX12, "served", "(II)I"⟩
abbrev cX12_drift : ByteArray := prog_14_method_48_code
def yX12_drift : MethodName := ⟨RX12, "drift", "(I)I"⟩
abbrev cX12_stuck : ByteArray := prog_14_method_49_code
def yX12_stuck : MethodName := ⟨RX12, "stuck", "()I"⟩
abbrev cX12_mostOf : ByteArray := prog_14_method_50_code
def yX12_mostOf : MethodName := ⟨RX12, "mostOf", "(I)I"⟩
abbrev cX12_most : ByteArray := prog_14_method_51_code
def yX12_most : MethodName := ⟨RX12, "most", "(I)I"⟩
abbrev cX12_cellar : ByteArray := prog_14_method_52_code
def yX12_cellar : MethodName := ⟨RX12, "cellar", "(III)I"⟩
abbrev cX12_isPath : ByteArray := prog_14_method_53_code
def yX12_isPath : MethodName := ⟨RX12, "isPath", "(IIII)Z"⟩
abbrev cX12_paths : ByteArray := prog_14_method_54_code
def yX12_paths : MethodName := ⟨RX12, "paths", "(III)I"⟩
abbrev cX12_owed : ByteArray := prog_14_method_55_code
def yX12_owed : MethodName := ⟨RX12, "owed", "(I)I"⟩
abbrev cX12_rings : ByteArray := prog_14_method_56_code
def yX12_rings : MethodName := ⟨RX12, "rings", "(I)I"⟩
abbrev cX12_votes : ByteArray := prog_14_method_57_code
def yX12_votes : MethodName := ⟨RX12, "votes", "(II)I"⟩
abbrev cX12_row : ByteArray := prog_14_method_58_code
def yX12_row : MethodName := ⟨RX12, "row", "(I)I"⟩
abbrev cX12_isSold : ByteArray := prog_14_method_59_code
def yX12_isSold : MethodName := ⟨RX12, "isSold", "(III)Z"⟩
abbrev cX12_judge : ByteArray := prog_14_method_60_code
def yX12_judge : MethodName := ⟨RX12, "judge", "()I"⟩
abbrev cX12_draw : ByteArray := prog_14_method_61_code
def yX12_draw : MethodName := ⟨RX12, "draw", "(I)I"⟩
abbrev cX12_seeds : ByteArray := prog_14_method_62_code
def yX12_seeds : MethodName := ⟨RX12, "seeds", "(II)I"⟩
abbrev cX12_sumOf : ByteArray := prog_14_method_63_code
def yX12_sumOf : MethodName := ⟨RX12, "sumOf", "([II)I"⟩
abbrev cX12_count : ByteArray := prog_14_method_64_code
def yX12_count : MethodName := ⟨RX12, "count", "(I)I"⟩
def RJ9 : String := "java/lang/Math"
def TJ9 : u_T := fun k => match k with
  | _ => ("", "", "", false)
def tyJ9 : Nat → FieldType := fun k => match k with
  | _ => .int
abbrev wsJ90 : List Cond := u_ws RJ9 TJ9 0
theorem nmJ9 : ∀ a, a < 0 → ∀ b, b < 0 → a ≠ b → (TJ9 a).2.1 ≠ (TJ9 b).2.1 := by decide +kernel
theorem tyJ9_ok : ∀ k, k < 0 → parseFieldDescriptor (TJ9 k).2.2.1 = some (tyJ9 k) := by decide +kernel
abbrev cJ9_max_7cf53 : ByteArray := prog_15_method_65_code
def yJ9_max_7cf53 : MethodName := ⟨RJ9, "max", "(II)I"⟩
abbrev cJ9_min_7cf53 : ByteArray := prog_15_method_69_code
def yJ9_min_7cf53 : MethodName := ⟨RJ9, "min", "(II)I"⟩
def RJ10 : String := "java/lang/System"
def TJ10 : u_T := fun k => match k with
  | _ => ("", "", "", false)
def tyJ10 : Nat → FieldType := fun k => match k with
  | _ => .int
abbrev wsJ100 : List Cond := u_ws RJ10 TJ10 0
theorem nmJ10 : ∀ a, a < 0 → ∀ b, b < 0 → a ≠ b → (TJ10 a).2.1 ≠ (TJ10 b).2.1 := by decide +kernel
theorem tyJ10_ok : ∀ k, k < 0 → parseFieldDescriptor (TJ10 k).2.2.1 = some (tyJ10 k) := by decide +kernel
def RL : String := "GoodsDownhillLaw"
abbrev cL_law : ByteArray := code
abbrev vwCl : List vw_C := [(RX0, TX0, 6), (RX1, TX1, 1), (RX2, TX2, 6), (RX3, TX3, 6), (RX4, TX4, 6), (RX5, TX5, 6), (RX6, TX6, 9), (RX7, TX7, 2), (RX8, TX8, 6), (RX9, TX9, 4), (RX11, TX11, 10), (RX12, TX12, 38)]
