section
-- ===== PART A: goes FIRST, ahead of the names: the tables' words, and 'selects' of the private methods out of them =====
/-- a private method of a class that the tables say can be made, by its rows of tables_1 -/
def lw_okq (q : MethodName × Nat) : Prop := (q.1.cls ≠ "java/lang/invoke/MethodHandle" ∧ q.1.cls ≠ "java/lang/invoke/VarHandle") ∧ Cond.instantiable q.1.cls q.2 ∈ tables_1 ∧ Cond.privateMethod q.1 ∈ tables_1 ∧ Cond.instanceMethod q.1 ∈ tables_1
theorem lw_p0 : lw_okq (⟨"GoodsDownhill", "refuse", "(I)I"⟩, 10) := ⟨⟨by decide +kernel, by decide +kernel⟩, List.mem_of_getElem? (i := 17) (by decide +kernel), List.mem_of_getElem? (i := 215) (by decide +kernel), List.mem_of_getElem? (i := 216) (by decide +kernel)⟩
theorem lw_p1 : lw_okq (⟨"GoodsDownhill$Letters", "endOfDigits", "(II)I"⟩, 2) := ⟨⟨by decide +kernel, by decide +kernel⟩, List.mem_of_getElem? (i := 166) (by decide +kernel), List.mem_of_getElem? (i := 255) (by decide +kernel), List.mem_of_getElem? (i := 256) (by decide +kernel)⟩
theorem lw_p2 : lw_okq (⟨"GoodsDownhill$Letters", "endOfStatement", "(I)I"⟩, 2) := ⟨⟨by decide +kernel, by decide +kernel⟩, List.mem_of_getElem? (i := 166) (by decide +kernel), List.mem_of_getElem? (i := 262) (by decide +kernel), List.mem_of_getElem? (i := 263) (by decide +kernel)⟩
theorem lw_p3 : lw_okq (⟨"GoodsDownhill$Letters", "tellHouse", "(LGoodsDownhill$Land;II)Z"⟩, 2) := ⟨⟨by decide +kernel, by decide +kernel⟩, List.mem_of_getElem? (i := 166) (by decide +kernel), List.mem_of_getElem? (i := 266) (by decide +kernel), List.mem_of_getElem? (i := 267) (by decide +kernel)⟩
theorem lw_p4 : lw_okq (⟨"GoodsDownhill$Letters", "digit", "(I)I"⟩, 2) := ⟨⟨by decide +kernel, by decide +kernel⟩, List.mem_of_getElem? (i := 166) (by decide +kernel), List.mem_of_getElem? (i := 270) (by decide +kernel), List.mem_of_getElem? (i := 271) (by decide +kernel)⟩
theorem lw_p5 : lw_okq (⟨"GoodsDownhill$Letters", "number", "(II)I"⟩, 2) := ⟨⟨by decide +kernel, by decide +kernel⟩, List.mem_of_getElem? (i := 166) (by decide +kernel), List.mem_of_getElem? (i := 274) (by decide +kernel), List.mem_of_getElem? (i := 275) (by decide +kernel)⟩
theorem lw_p6 : lw_okq (⟨"GoodsDownhill$Letters", "tellPrice", "(LGoodsDownhill$Land;I)Z"⟩, 2) := ⟨⟨by decide +kernel, by decide +kernel⟩, List.mem_of_getElem? (i := 166) (by decide +kernel), List.mem_of_getElem? (i := 352) (by decide +kernel), List.mem_of_getElem? (i := 353) (by decide +kernel)⟩
theorem lw_p7 : lw_okq (⟨"GoodsDownhill$Letters", "tellLaw", "(LGoodsDownhill$Land;I)Z"⟩, 2) := ⟨⟨by decide +kernel, by decide +kernel⟩, List.mem_of_getElem? (i := 166) (by decide +kernel), List.mem_of_getElem? (i := 356) (by decide +kernel), List.mem_of_getElem? (i := 357) (by decide +kernel)⟩
theorem lw_p8 : lw_okq (⟨"GoodsDownhill$Letters", "tellDebt", "(LGoodsDownhill$Land;II)Z"⟩, 2) := ⟨⟨by decide +kernel, by decide +kernel⟩, List.mem_of_getElem? (i := 166) (by decide +kernel), List.mem_of_getElem? (i := 363) (by decide +kernel), List.mem_of_getElem? (i := 364) (by decide +kernel)⟩
theorem lw_p9 : lw_okq (⟨"GoodsDownhill$Land", "hasMeans", "(III)Z"⟩, 9) := ⟨⟨by decide +kernel, by decide +kernel⟩, List.mem_of_getElem? (i := 25) (by decide +kernel), List.mem_of_getElem? (i := 489) (by decide +kernel), List.mem_of_getElem? (i := 490) (by decide +kernel)⟩
theorem lw_p10 : lw_okq (⟨"GoodsDownhill$Land", "moveOnePiece", "(III)V"⟩, 9) := ⟨⟨by decide +kernel, by decide +kernel⟩, List.mem_of_getElem? (i := 25) (by decide +kernel), List.mem_of_getElem? (i := 494) (by decide +kernel), List.mem_of_getElem? (i := 495) (by decide +kernel)⟩
theorem lw_p11 : lw_okq (⟨"GoodsDownhill$Land", "addPieces", "(III)V"⟩, 9) := ⟨⟨by decide +kernel, by decide +kernel⟩, List.mem_of_getElem? (i := 25) (by decide +kernel), List.mem_of_getElem? (i := 498) (by decide +kernel), List.mem_of_getElem? (i := 499) (by decide +kernel)⟩
theorem lw_p12 : lw_okq (⟨"GoodsDownhill$Land", "makeGoods", "(I)V"⟩, 9) := ⟨⟨by decide +kernel, by decide +kernel⟩, List.mem_of_getElem? (i := 25) (by decide +kernel), List.mem_of_getElem? (i := 519) (by decide +kernel), List.mem_of_getElem? (i := 520) (by decide +kernel)⟩
theorem lw_p13 : lw_okq (⟨"GoodsDownhill$Land", "buyWanted", "(I)I"⟩, 9) := ⟨⟨by decide +kernel, by decide +kernel⟩, List.mem_of_getElem? (i := 25) (by decide +kernel), List.mem_of_getElem? (i := 526) (by decide +kernel), List.mem_of_getElem? (i := 527) (by decide +kernel)⟩
theorem lw_p14 : lw_okq (⟨"GoodsDownhill$Land", "fullestSellerTo", "(II)I"⟩, 9) := ⟨⟨by decide +kernel, by decide +kernel⟩, List.mem_of_getElem? (i := 25) (by decide +kernel), List.mem_of_getElem? (i := 530) (by decide +kernel), List.mem_of_getElem? (i := 531) (by decide +kernel)⟩
theorem lw_p15 : lw_okq (⟨"GoodsDownhill$Land", "useWanted", "(I)I"⟩, 9) := ⟨⟨by decide +kernel, by decide +kernel⟩, List.mem_of_getElem? (i := 25) (by decide +kernel), List.mem_of_getElem? (i := 545) (by decide +kernel), List.mem_of_getElem? (i := 546) (by decide +kernel)⟩
def lw_privs_1 : List (MethodName × Nat) := [(⟨"GoodsDownhill", "refuse", "(I)I"⟩, 10), (⟨"GoodsDownhill$Letters", "endOfDigits", "(II)I"⟩, 2), (⟨"GoodsDownhill$Letters", "endOfStatement", "(I)I"⟩, 2), (⟨"GoodsDownhill$Letters", "tellHouse", "(LGoodsDownhill$Land;II)Z"⟩, 2), (⟨"GoodsDownhill$Letters", "digit", "(I)I"⟩, 2), (⟨"GoodsDownhill$Letters", "number", "(II)I"⟩, 2), (⟨"GoodsDownhill$Letters", "tellPrice", "(LGoodsDownhill$Land;I)Z"⟩, 2), (⟨"GoodsDownhill$Letters", "tellLaw", "(LGoodsDownhill$Land;I)Z"⟩, 2), (⟨"GoodsDownhill$Letters", "tellDebt", "(LGoodsDownhill$Land;II)Z"⟩, 2), (⟨"GoodsDownhill$Land", "hasMeans", "(III)Z"⟩, 9), (⟨"GoodsDownhill$Land", "moveOnePiece", "(III)V"⟩, 9), (⟨"GoodsDownhill$Land", "addPieces", "(III)V"⟩, 9), (⟨"GoodsDownhill$Land", "makeGoods", "(I)V"⟩, 9), (⟨"GoodsDownhill$Land", "buyWanted", "(I)I"⟩, 9), (⟨"GoodsDownhill$Land", "fullestSellerTo", "(II)I"⟩, 9), (⟨"GoodsDownhill$Land", "useWanted", "(I)I"⟩, 9)]
theorem lw_r1 : ∀ q ∈ lw_privs_1, lw_okq q := List.forall_mem_cons.mpr ⟨lw_p0, List.forall_mem_cons.mpr ⟨lw_p1, List.forall_mem_cons.mpr ⟨lw_p2, List.forall_mem_cons.mpr ⟨lw_p3, List.forall_mem_cons.mpr ⟨lw_p4, List.forall_mem_cons.mpr ⟨lw_p5, List.forall_mem_cons.mpr ⟨lw_p6, List.forall_mem_cons.mpr ⟨lw_p7, List.forall_mem_cons.mpr ⟨lw_p8, List.forall_mem_cons.mpr ⟨lw_p9, List.forall_mem_cons.mpr ⟨lw_p10, List.forall_mem_cons.mpr ⟨lw_p11, List.forall_mem_cons.mpr ⟨lw_p12, List.forall_mem_cons.mpr ⟨lw_p13, List.forall_mem_cons.mpr ⟨lw_p14, List.forall_mem_cons.mpr ⟨lw_p15, fun _ h => absurd h List.not_mem_nil⟩⟩⟩⟩⟩⟩⟩⟩⟩⟩⟩⟩⟩⟩⟩⟩
theorem lw_p16 : lw_okq (⟨"GoodsDownhill$Debts", "strikeTwo", "(II)I"⟩, 1) := ⟨⟨by decide +kernel, by decide +kernel⟩, List.mem_of_getElem? (i := 33) (by decide +kernel), List.mem_of_getElem? (i := 574) (by decide +kernel), List.mem_of_getElem? (i := 575) (by decide +kernel)⟩
theorem lw_p17 : lw_okq (⟨"GoodsDownhill$Debts", "strikeThree", "(III)I"⟩, 1) := ⟨⟨by decide +kernel, by decide +kernel⟩, List.mem_of_getElem? (i := 33) (by decide +kernel), List.mem_of_getElem? (i := 581) (by decide +kernel), List.mem_of_getElem? (i := 582) (by decide +kernel)⟩
theorem lw_p18 : lw_okq (⟨"GoodsDownhill", "passInMind", "(IILGoodsDownhill$Tally;)V"⟩, 10) := ⟨⟨by decide +kernel, by decide +kernel⟩, List.mem_of_getElem? (i := 17) (by decide +kernel), List.mem_of_getElem? (i := 589) (by decide +kernel), List.mem_of_getElem? (i := 590) (by decide +kernel)⟩
theorem lw_p19 : lw_okq (⟨"GoodsDownhillModel", "carryAll", "([IZ)V"⟩, 38) := ⟨⟨by decide +kernel, by decide +kernel⟩, List.mem_of_getElem? (i := 703) (by decide +kernel), List.mem_of_getElem? (i := 828) (by decide +kernel), List.mem_of_getElem? (i := 829) (by decide +kernel)⟩
theorem lw_p20 : lw_okq (⟨"GoodsDownhillModel", "carry", "(I)I"⟩, 38) := ⟨⟨by decide +kernel, by decide +kernel⟩, List.mem_of_getElem? (i := 703) (by decide +kernel), List.mem_of_getElem? (i := 832) (by decide +kernel), List.mem_of_getElem? (i := 833) (by decide +kernel)⟩
theorem lw_p21 : lw_okq (⟨"GoodsDownhillModel", "refuse", "(I)I"⟩, 38) := ⟨⟨by decide +kernel, by decide +kernel⟩, List.mem_of_getElem? (i := 703) (by decide +kernel), List.mem_of_getElem? (i := 840) (by decide +kernel), List.mem_of_getElem? (i := 841) (by decide +kernel)⟩
theorem lw_p22 : lw_okq (⟨"GoodsDownhillModel", "readStatement", "()V"⟩, 38) := ⟨⟨by decide +kernel, by decide +kernel⟩, List.mem_of_getElem? (i := 703) (by decide +kernel), List.mem_of_getElem? (i := 852) (by decide +kernel), List.mem_of_getElem? (i := 853) (by decide +kernel)⟩
theorem lw_p23 : lw_okq (⟨"GoodsDownhillModel", "here", "()I"⟩, 38) := ⟨⟨by decide +kernel, by decide +kernel⟩, List.mem_of_getElem? (i := 703) (by decide +kernel), List.mem_of_getElem? (i := 856) (by decide +kernel), List.mem_of_getElem? (i := 857) (by decide +kernel)⟩
theorem lw_p24 : lw_okq (⟨"GoodsDownhillModel", "readDigit", "()I"⟩, 38) := ⟨⟨by decide +kernel, by decide +kernel⟩, List.mem_of_getElem? (i := 703) (by decide +kernel), List.mem_of_getElem? (i := 860) (by decide +kernel), List.mem_of_getElem? (i := 861) (by decide +kernel)⟩
theorem lw_p25 : lw_okq (⟨"GoodsDownhillModel", "readNumber", "(I)I"⟩, 38) := ⟨⟨by decide +kernel, by decide +kernel⟩, List.mem_of_getElem? (i := 703) (by decide +kernel), List.mem_of_getElem? (i := 869) (by decide +kernel), List.mem_of_getElem? (i := 870) (by decide +kernel)⟩
theorem lw_p26 : lw_okq (⟨"GoodsDownhillModel", "open", "()V"⟩, 38) := ⟨⟨by decide +kernel, by decide +kernel⟩, List.mem_of_getElem? (i := 703) (by decide +kernel), List.mem_of_getElem? (i := 873) (by decide +kernel), List.mem_of_getElem? (i := 874) (by decide +kernel)⟩
theorem lw_p27 : lw_okq (⟨"GoodsDownhillModel", "comes", "(I)Z"⟩, 38) := ⟨⟨by decide +kernel, by decide +kernel⟩, List.mem_of_getElem? (i := 703) (by decide +kernel), List.mem_of_getElem? (i := 877) (by decide +kernel), List.mem_of_getElem? (i := 878) (by decide +kernel)⟩
theorem lw_p28 : lw_okq (⟨"GoodsDownhillModel", "houseComes", "(I)Z"⟩, 38) := ⟨⟨by decide +kernel, by decide +kernel⟩, List.mem_of_getElem? (i := 703) (by decide +kernel), List.mem_of_getElem? (i := 881) (by decide +kernel), List.mem_of_getElem? (i := 882) (by decide +kernel)⟩
theorem lw_p29 : lw_okq (⟨"GoodsDownhillModel", "areTwo", "(II)Z"⟩, 38) := ⟨⟨by decide +kernel, by decide +kernel⟩, List.mem_of_getElem? (i := 703) (by decide +kernel), List.mem_of_getElem? (i := 885) (by decide +kernel), List.mem_of_getElem? (i := 886) (by decide +kernel)⟩
theorem lw_p30 : lw_okq (⟨"GoodsDownhillModel", "isHouse", "(I)Z"⟩, 38) := ⟨⟨by decide +kernel, by decide +kernel⟩, List.mem_of_getElem? (i := 703) (by decide +kernel), List.mem_of_getElem? (i := 889) (by decide +kernel), List.mem_of_getElem? (i := 890) (by decide +kernel)⟩
theorem lw_p31 : lw_okq (⟨"GoodsDownhillModel", "close", "()V"⟩, 38) := ⟨⟨by decide +kernel, by decide +kernel⟩, List.mem_of_getElem? (i := 703) (by decide +kernel), List.mem_of_getElem? (i := 893) (by decide +kernel), List.mem_of_getElem? (i := 894) (by decide +kernel)⟩
def lw_privs_2 : List (MethodName × Nat) := [(⟨"GoodsDownhill$Debts", "strikeTwo", "(II)I"⟩, 1), (⟨"GoodsDownhill$Debts", "strikeThree", "(III)I"⟩, 1), (⟨"GoodsDownhill", "passInMind", "(IILGoodsDownhill$Tally;)V"⟩, 10), (⟨"GoodsDownhillModel", "carryAll", "([IZ)V"⟩, 38), (⟨"GoodsDownhillModel", "carry", "(I)I"⟩, 38), (⟨"GoodsDownhillModel", "refuse", "(I)I"⟩, 38), (⟨"GoodsDownhillModel", "readStatement", "()V"⟩, 38), (⟨"GoodsDownhillModel", "here", "()I"⟩, 38), (⟨"GoodsDownhillModel", "readDigit", "()I"⟩, 38), (⟨"GoodsDownhillModel", "readNumber", "(I)I"⟩, 38), (⟨"GoodsDownhillModel", "open", "()V"⟩, 38), (⟨"GoodsDownhillModel", "comes", "(I)Z"⟩, 38), (⟨"GoodsDownhillModel", "houseComes", "(I)Z"⟩, 38), (⟨"GoodsDownhillModel", "areTwo", "(II)Z"⟩, 38), (⟨"GoodsDownhillModel", "isHouse", "(I)Z"⟩, 38), (⟨"GoodsDownhillModel", "close", "()V"⟩, 38)]
theorem lw_r2 : ∀ q ∈ lw_privs_2, lw_okq q := List.forall_mem_cons.mpr ⟨lw_p16, List.forall_mem_cons.mpr ⟨lw_p17, List.forall_mem_cons.mpr ⟨lw_p18, List.forall_mem_cons.mpr ⟨lw_p19, List.forall_mem_cons.mpr ⟨lw_p20, List.forall_mem_cons.mpr ⟨lw_p21, List.forall_mem_cons.mpr ⟨lw_p22, List.forall_mem_cons.mpr ⟨lw_p23, List.forall_mem_cons.mpr ⟨lw_p24, List.forall_mem_cons.mpr ⟨lw_p25, List.forall_mem_cons.mpr ⟨lw_p26, List.forall_mem_cons.mpr ⟨lw_p27, List.forall_mem_cons.mpr ⟨lw_p28, List.forall_mem_cons.mpr ⟨lw_p29, List.forall_mem_cons.mpr ⟨lw_p30, List.forall_mem_cons.mpr ⟨lw_p31, fun _ h => absurd h List.not_mem_nil⟩⟩⟩⟩⟩⟩⟩⟩⟩⟩⟩⟩⟩⟩⟩⟩
theorem lw_p32 : lw_okq (⟨"GoodsDownhillModel", "sellsAt", "(I)I"⟩, 38) := ⟨⟨by decide +kernel, by decide +kernel⟩, List.mem_of_getElem? (i := 703) (by decide +kernel), List.mem_of_getElem? (i := 901) (by decide +kernel), List.mem_of_getElem? (i := 902) (by decide +kernel)⟩
theorem lw_p33 : lw_okq (⟨"GoodsDownhillModel", "buysAt", "(I)I"⟩, 38) := ⟨⟨by decide +kernel, by decide +kernel⟩, List.mem_of_getElem? (i := 703) (by decide +kernel), List.mem_of_getElem? (i := 905) (by decide +kernel), List.mem_of_getElem? (i := 906) (by decide +kernel)⟩
theorem lw_p34 : lw_okq (⟨"GoodsDownhillModel", "isLawful", "(II)Z"⟩, 38) := ⟨⟨by decide +kernel, by decide +kernel⟩, List.mem_of_getElem? (i := 703) (by decide +kernel), List.mem_of_getElem? (i := 929) (by decide +kernel), List.mem_of_getElem? (i := 930) (by decide +kernel)⟩
theorem lw_p35 : lw_okq (⟨"GoodsDownhillModel", "canSell", "(III)Z"⟩, 38) := ⟨⟨by decide +kernel, by decide +kernel⟩, List.mem_of_getElem? (i := 703) (by decide +kernel), List.mem_of_getElem? (i := 937) (by decide +kernel), List.mem_of_getElem? (i := 938) (by decide +kernel)⟩
theorem lw_p36 : lw_okq (⟨"GoodsDownhillModel", "sell", "(III)V"⟩, 38) := ⟨⟨by decide +kernel, by decide +kernel⟩, List.mem_of_getElem? (i := 703) (by decide +kernel), List.mem_of_getElem? (i := 941) (by decide +kernel), List.mem_of_getElem? (i := 942) (by decide +kernel)⟩
theorem lw_p37 : lw_okq (⟨"GoodsDownhillModel", "weekOn", "()I"⟩, 38) := ⟨⟨by decide +kernel, by decide +kernel⟩, List.mem_of_getElem? (i := 703) (by decide +kernel), List.mem_of_getElem? (i := 949) (by decide +kernel), List.mem_of_getElem? (i := 950) (by decide +kernel)⟩
theorem lw_p38 : lw_okq (⟨"GoodsDownhillModel", "buyFor", "(I)V"⟩, 38) := ⟨⟨by decide +kernel, by decide +kernel⟩, List.mem_of_getElem? (i := 703) (by decide +kernel), List.mem_of_getElem? (i := 953) (by decide +kernel), List.mem_of_getElem? (i := 954) (by decide +kernel)⟩
theorem lw_p39 : lw_okq (⟨"GoodsDownhillModel", "wants", "(II)Z"⟩, 38) := ⟨⟨by decide +kernel, by decide +kernel⟩, List.mem_of_getElem? (i := 703) (by decide +kernel), List.mem_of_getElem? (i := 957) (by decide +kernel), List.mem_of_getElem? (i := 958) (by decide +kernel)⟩
theorem lw_p40 : lw_okq (⟨"GoodsDownhillModel", "debt", "(II)I"⟩, 38) := ⟨⟨by decide +kernel, by decide +kernel⟩, List.mem_of_getElem? (i := 703) (by decide +kernel), List.mem_of_getElem? (i := 969) (by decide +kernel), List.mem_of_getElem? (i := 970) (by decide +kernel)⟩
theorem lw_p41 : lw_okq (⟨"GoodsDownhillModel", "strikeAll", "()I"⟩, 38) := ⟨⟨by decide +kernel, by decide +kernel⟩, List.mem_of_getElem? (i := 703) (by decide +kernel), List.mem_of_getElem? (i := 977) (by decide +kernel), List.mem_of_getElem? (i := 978) (by decide +kernel)⟩
theorem lw_p42 : lw_okq (⟨"GoodsDownhillModel", "strikeOne", "()Z"⟩, 38) := ⟨⟨by decide +kernel, by decide +kernel⟩, List.mem_of_getElem? (i := 703) (by decide +kernel), List.mem_of_getElem? (i := 981) (by decide +kernel), List.mem_of_getElem? (i := 982) (by decide +kernel)⟩
theorem lw_p43 : lw_okq (⟨"GoodsDownhillModel", "lessen", "(III)I"⟩, 38) := ⟨⟨by decide +kernel, by decide +kernel⟩, List.mem_of_getElem? (i := 703) (by decide +kernel), List.mem_of_getElem? (i := 985) (by decide +kernel), List.mem_of_getElem? (i := 986) (by decide +kernel)⟩
theorem lw_p44 : lw_okq (⟨"GoodsDownhillModel", "servedIn", "(I)I"⟩, 38) := ⟨⟨by decide +kernel, by decide +kernel⟩, List.mem_of_getElem? (i := 703) (by decide +kernel), List.mem_of_getElem? (i := 993) (by decide +kernel), List.mem_of_getElem? (i := 994) (by decide +kernel)⟩
theorem lw_p45 : lw_okq (⟨"GoodsDownhillModel", "wantsOfAll", "()I"⟩, 38) := ⟨⟨by decide +kernel, by decide +kernel⟩, List.mem_of_getElem? (i := 703) (by decide +kernel), List.mem_of_getElem? (i := 1001) (by decide +kernel), List.mem_of_getElem? (i := 1002) (by decide +kernel)⟩
theorem lw_p46 : lw_okq (⟨"GoodsDownhillModel", "mostOf", "(I)I"⟩, 38) := ⟨⟨by decide +kernel, by decide +kernel⟩, List.mem_of_getElem? (i := 703) (by decide +kernel), List.mem_of_getElem? (i := 1017) (by decide +kernel), List.mem_of_getElem? (i := 1018) (by decide +kernel)⟩
theorem lw_p47 : lw_okq (⟨"GoodsDownhillModel", "isPath", "(IIII)Z"⟩, 38) := ⟨⟨by decide +kernel, by decide +kernel⟩, List.mem_of_getElem? (i := 703) (by decide +kernel), List.mem_of_getElem? (i := 1030) (by decide +kernel), List.mem_of_getElem? (i := 1031) (by decide +kernel)⟩
def lw_privs_3 : List (MethodName × Nat) := [(⟨"GoodsDownhillModel", "sellsAt", "(I)I"⟩, 38), (⟨"GoodsDownhillModel", "buysAt", "(I)I"⟩, 38), (⟨"GoodsDownhillModel", "isLawful", "(II)Z"⟩, 38), (⟨"GoodsDownhillModel", "canSell", "(III)Z"⟩, 38), (⟨"GoodsDownhillModel", "sell", "(III)V"⟩, 38), (⟨"GoodsDownhillModel", "weekOn", "()I"⟩, 38), (⟨"GoodsDownhillModel", "buyFor", "(I)V"⟩, 38), (⟨"GoodsDownhillModel", "wants", "(II)Z"⟩, 38), (⟨"GoodsDownhillModel", "debt", "(II)I"⟩, 38), (⟨"GoodsDownhillModel", "strikeAll", "()I"⟩, 38), (⟨"GoodsDownhillModel", "strikeOne", "()Z"⟩, 38), (⟨"GoodsDownhillModel", "lessen", "(III)I"⟩, 38), (⟨"GoodsDownhillModel", "servedIn", "(I)I"⟩, 38), (⟨"GoodsDownhillModel", "wantsOfAll", "()I"⟩, 38), (⟨"GoodsDownhillModel", "mostOf", "(I)I"⟩, 38), (⟨"GoodsDownhillModel", "isPath", "(IIII)Z"⟩, 38)]
theorem lw_r3 : ∀ q ∈ lw_privs_3, lw_okq q := List.forall_mem_cons.mpr ⟨lw_p32, List.forall_mem_cons.mpr ⟨lw_p33, List.forall_mem_cons.mpr ⟨lw_p34, List.forall_mem_cons.mpr ⟨lw_p35, List.forall_mem_cons.mpr ⟨lw_p36, List.forall_mem_cons.mpr ⟨lw_p37, List.forall_mem_cons.mpr ⟨lw_p38, List.forall_mem_cons.mpr ⟨lw_p39, List.forall_mem_cons.mpr ⟨lw_p40, List.forall_mem_cons.mpr ⟨lw_p41, List.forall_mem_cons.mpr ⟨lw_p42, List.forall_mem_cons.mpr ⟨lw_p43, List.forall_mem_cons.mpr ⟨lw_p44, List.forall_mem_cons.mpr ⟨lw_p45, List.forall_mem_cons.mpr ⟨lw_p46, List.forall_mem_cons.mpr ⟨lw_p47, fun _ h => absurd h List.not_mem_nil⟩⟩⟩⟩⟩⟩⟩⟩⟩⟩⟩⟩⟩⟩⟩⟩
theorem lw_p48 : lw_okq (⟨"GoodsDownhillModel", "isSold", "(III)Z"⟩, 38) := ⟨⟨by decide +kernel, by decide +kernel⟩, List.mem_of_getElem? (i := 703) (by decide +kernel), List.mem_of_getElem? (i := 1054) (by decide +kernel), List.mem_of_getElem? (i := 1055) (by decide +kernel)⟩
theorem lw_p49 : lw_okq (⟨"GoodsDownhillModel", "draw", "(I)I"⟩, 38) := ⟨⟨by decide +kernel, by decide +kernel⟩, List.mem_of_getElem? (i := 703) (by decide +kernel), List.mem_of_getElem? (i := 1062) (by decide +kernel), List.mem_of_getElem? (i := 1063) (by decide +kernel)⟩
theorem lw_p50 : lw_okq (⟨"GoodsDownhillModel", "sumOf", "([II)I"⟩, 38) := ⟨⟨by decide +kernel, by decide +kernel⟩, List.mem_of_getElem? (i := 703) (by decide +kernel), List.mem_of_getElem? (i := 1073) (by decide +kernel), List.mem_of_getElem? (i := 1074) (by decide +kernel)⟩
def lw_privs_4 : List (MethodName × Nat) := [(⟨"GoodsDownhillModel", "isSold", "(III)Z"⟩, 38), (⟨"GoodsDownhillModel", "draw", "(I)I"⟩, 38), (⟨"GoodsDownhillModel", "sumOf", "([II)I"⟩, 38)]
theorem lw_r4 : ∀ q ∈ lw_privs_4, lw_okq q := List.forall_mem_cons.mpr ⟨lw_p48, List.forall_mem_cons.mpr ⟨lw_p49, List.forall_mem_cons.mpr ⟨lw_p50, fun _ h => absurd h List.not_mem_nil⟩⟩⟩
def lw_privs : List (MethodName × Nat) := lw_privs_1 ++ (lw_privs_2 ++ (lw_privs_3 ++ (lw_privs_4)))
def lw_tbl : List Cond := k2_sels lw_privs ++ tables_1
theorem lw_privs_ok : ∀ q ∈ lw_privs, lw_okq q := by
  show ∀ q ∈ lw_privs_1 ++ (lw_privs_2 ++ (lw_privs_3 ++ (lw_privs_4))), lw_okq q
  exact List.forall_mem_append.mpr ⟨lw_r1, List.forall_mem_append.mpr ⟨lw_r2, List.forall_mem_append.mpr ⟨lw_r3, lw_r4⟩⟩⟩
def RX0 : String := "GoodsDownhill$Cellared"
def TX0 : u_T := fun k => match k with
  | 0 => ("GoodsDownhill$House", "figure", "I", true)
  | 1 => ("GoodsDownhill$House", "height", "I", true)
  | 2 => ("GoodsDownhill$House", "madeGood", "I", true)
  | 3 => ("GoodsDownhill$House", "makes", "I", true)
  | 4 => ("GoodsDownhill$House", "wantedGood", "I", true)
  | _ => ("GoodsDownhill$House", "wants", "I", true)
def tyX0 : Nat → FieldType := fun k => match k with
  | 0 => .int
  | 1 => .int
  | 2 => .int
  | 3 => .int
  | 4 => .int
  | _ => .int
abbrev wsX00 : List Cond := u_ws RX0 TX0 6
theorem nmX0 : ∀ a, a < 6 → ∀ b, b < 6 → a ≠ b → (TX0 a).2.1 ≠ (TX0 b).2.1 := by decide +kernel
theorem tyX0_ok : ∀ k, k < 6 → parseFieldDescriptor (TX0 k).2.2.1 = some (tyX0 k) := by decide +kernel
abbrev cX0_init : ByteArray := prog_2_method_1_code
def yX0_init : MethodName := ⟨RX0, "<init>", "(IIIIII)V"⟩
abbrev cX0_insteadOf : ByteArray := prog_2_method_2_code
def yX0_insteadOf : MethodName := ⟨RX0, "insteadOf", "(LGoodsDownhill$House;I)LGoodsDownhill$House;"⟩
abbrev cX0_kind : ByteArray := prog_2_method_3_code
def yX0_kind : MethodName := ⟨RX0, "kind", "()I"⟩
abbrev cX0_buysAt : ByteArray := prog_2_method_4_code
def yX0_buysAt : MethodName := ⟨RX0, "buysAt", "()I"⟩
def RX1 : String := "GoodsDownhill$Debts"
def TX1 : u_T := fun k => match k with
  | _ => ("GoodsDownhill$Debts", "sums", "[I", true)
def tyX1 : Nat → FieldType := fun k => match k with
  | _ => .array .int
abbrev wsX10 : List Cond := u_ws RX1 TX1 1
theorem nmX1 : ∀ a, a < 1 → ∀ b, b < 1 → a ≠ b → (TX1 a).2.1 ≠ (TX1 b).2.1 := by decide +kernel
theorem tyX1_ok : ∀ k, k < 1 → parseFieldDescriptor (TX1 k).2.2.1 = some (tyX1 k) := by decide +kernel
abbrev cX1_init : ByteArray := prog_3_method_1_code
def yX1_init : MethodName := ⟨RX1, "<init>", "()V"⟩
abbrev cX1_copyFrom : ByteArray := prog_3_method_2_code
def yX1_copyFrom : MethodName := ⟨RX1, "copyFrom", "(LGoodsDownhill$Debts;)V"⟩
abbrev cX1_from : ByteArray := prog_3_method_3_code
def yX1_from : MethodName := ⟨RX1, "from", "(II)I"⟩
abbrev cX1_put : ByteArray := prog_3_method_4_code
def yX1_put : MethodName := ⟨RX1, "put", "(III)V"⟩
abbrev cX1_total : ByteArray := prog_3_method_5_code
def yX1_total : MethodName := ⟨RX1, "total", "()I"⟩
abbrev cX1_owedTo : ByteArray := prog_3_method_6_code
def yX1_owedTo : MethodName := ⟨RX1, "owedTo", "(I)I"⟩
abbrev cX1_strikeRings : ByteArray := prog_3_method_7_code
def yX1_strikeRings : MethodName := ⟨RX1, "strikeRings", "()I"⟩
abbrev cX1_strikeTwo : ByteArray := prog_3_method_8_code
def yX1_strikeTwo : MethodName := ⟨RX1, "strikeTwo", "(II)I"⟩
abbrev cX1_strikeThree : ByteArray := prog_3_method_9_code
def yX1_strikeThree : MethodName := ⟨RX1, "strikeThree", "(III)I"⟩
def RX2 : String := "GoodsDownhill$Feigned"
def TX2 : u_T := fun k => match k with
  | 0 => ("GoodsDownhill$House", "figure", "I", true)
  | 1 => ("GoodsDownhill$House", "height", "I", true)
  | 2 => ("GoodsDownhill$House", "madeGood", "I", true)
  | 3 => ("GoodsDownhill$House", "makes", "I", true)
  | 4 => ("GoodsDownhill$House", "wantedGood", "I", true)
  | _ => ("GoodsDownhill$House", "wants", "I", true)
def tyX2 : Nat → FieldType := fun k => match k with
  | 0 => .int
  | 1 => .int
  | 2 => .int
  | 3 => .int
  | 4 => .int
  | _ => .int
abbrev wsX20 : List Cond := u_ws RX2 TX2 6
theorem nmX2 : ∀ a, a < 6 → ∀ b, b < 6 → a ≠ b → (TX2 a).2.1 ≠ (TX2 b).2.1 := by decide +kernel
theorem tyX2_ok : ∀ k, k < 6 → parseFieldDescriptor (TX2 k).2.2.1 = some (tyX2 k) := by decide +kernel
abbrev cX2_init : ByteArray := prog_4_method_1_code
def yX2_init : MethodName := ⟨RX2, "<init>", "(IIIIII)V"⟩
abbrev cX2_kind : ByteArray := prog_4_method_2_code
def yX2_kind : MethodName := ⟨RX2, "kind", "()I"⟩
abbrev cX2_buysAt : ByteArray := prog_4_method_3_code
def yX2_buysAt : MethodName := ⟨RX2, "buysAt", "()I"⟩
def RX3 : String := "GoodsDownhill$Hermit"
def TX3 : u_T := fun k => match k with
  | 0 => ("GoodsDownhill$House", "figure", "I", true)
  | 1 => ("GoodsDownhill$House", "height", "I", true)
  | 2 => ("GoodsDownhill$House", "madeGood", "I", true)
  | 3 => ("GoodsDownhill$House", "makes", "I", true)
  | 4 => ("GoodsDownhill$House", "wantedGood", "I", true)
  | _ => ("GoodsDownhill$House", "wants", "I", true)
def tyX3 : Nat → FieldType := fun k => match k with
  | 0 => .int
  | 1 => .int
  | 2 => .int
  | 3 => .int
  | 4 => .int
  | _ => .int
abbrev wsX30 : List Cond := u_ws RX3 TX3 6
theorem nmX3 : ∀ a, a < 6 → ∀ b, b < 6 → a ≠ b → (TX3 a).2.1 ≠ (TX3 b).2.1 := by decide +kernel
theorem tyX3_ok : ∀ k, k < 6 → parseFieldDescriptor (TX3 k).2.2.1 = some (tyX3 k) := by decide +kernel
abbrev cX3_init : ByteArray := prog_5_method_1_code
def yX3_init : MethodName := ⟨RX3, "<init>", "(IIIIII)V"⟩
abbrev cX3_kind : ByteArray := prog_5_method_2_code
def yX3_kind : MethodName := ⟨RX3, "kind", "()I"⟩
abbrev cX3_buysAt : ByteArray := prog_5_method_3_code
def yX3_buysAt : MethodName := ⟨RX3, "buysAt", "()I"⟩
def RX4 : String := "GoodsDownhill$House"
def TX4 : u_T := fun k => match k with
  | 0 => ("GoodsDownhill$House", "figure", "I", true)
  | 1 => ("GoodsDownhill$House", "height", "I", true)
  | 2 => ("GoodsDownhill$House", "madeGood", "I", true)
  | 3 => ("GoodsDownhill$House", "makes", "I", true)
  | 4 => ("GoodsDownhill$House", "wantedGood", "I", true)
  | _ => ("GoodsDownhill$House", "wants", "I", true)
def tyX4 : Nat → FieldType := fun k => match k with
  | 0 => .int
  | 1 => .int
  | 2 => .int
  | 3 => .int
  | 4 => .int
  | _ => .int
abbrev wsX40 : List Cond := u_ws RX4 TX4 6
theorem nmX4 : ∀ a, a < 6 → ∀ b, b < 6 → a ≠ b → (TX4 a).2.1 ≠ (TX4 b).2.1 := by decide +kernel
theorem tyX4_ok : ∀ k, k < 6 → parseFieldDescriptor (TX4 k).2.2.1 = some (tyX4 k) := by decide +kernel
abbrev cX4_init : ByteArray := prog_6_method_1_code
def yX4_init : MethodName := ⟨RX4, "<init>", "(IIIIII)V"⟩
abbrev cX4_kind : ByteArray := prog_6_method_2_code
def yX4_kind : MethodName := ⟨RX4, "kind", "()I"⟩
abbrev cX4_sellsAt : ByteArray := prog_6_method_3_code
def yX4_sellsAt : MethodName := ⟨RX4, "sellsAt", "()I"⟩
abbrev cX4_buysAt : ByteArray := prog_6_method_4_code
def yX4_buysAt : MethodName := ⟨RX4, "buysAt", "()I"⟩
abbrev cX4_wantsSome : ByteArray := prog_6_method_5_code
def yX4_wantsSome : MethodName := ⟨RX4, "wantsSome", "(I)Z"⟩
def RX5 : String := "GoodsDownhill$Joined"
def TX5 : u_T := fun k => match k with
  | 0 => ("GoodsDownhill$House", "figure", "I", true)
  | 1 => ("GoodsDownhill$House", "height", "I", true)
  | 2 => ("GoodsDownhill$House", "madeGood", "I", true)
  | 3 => ("GoodsDownhill$House", "makes", "I", true)
  | 4 => ("GoodsDownhill$House", "wantedGood", "I", true)
  | _ => ("GoodsDownhill$House", "wants", "I", true)
def tyX5 : Nat → FieldType := fun k => match k with
  | 0 => .int
  | 1 => .int
  | 2 => .int
  | 3 => .int
  | 4 => .int
  | _ => .int
abbrev wsX50 : List Cond := u_ws RX5 TX5 6
theorem nmX5 : ∀ a, a < 6 → ∀ b, b < 6 → a ≠ b → (TX5 a).2.1 ≠ (TX5 b).2.1 := by decide +kernel
theorem tyX5_ok : ∀ k, k < 6 → parseFieldDescriptor (TX5 k).2.2.1 = some (tyX5 k) := by decide +kernel
abbrev cX5_init : ByteArray := prog_7_method_1_code
def yX5_init : MethodName := ⟨RX5, "<init>", "(IIIIII)V"⟩
abbrev cX5_kind : ByteArray := prog_7_method_2_code
def yX5_kind : MethodName := ⟨RX5, "kind", "()I"⟩
abbrev cX5_sellsAt : ByteArray := prog_7_method_3_code
def yX5_sellsAt : MethodName := ⟨RX5, "sellsAt", "()I"⟩
def RX6 : String := "GoodsDownhill$Land"
def TX6 : u_T := fun k => match k with
  | 0 => ("GoodsDownhill$Land", "houses", "[LGoodsDownhill$House;", true)
  | 1 => ("GoodsDownhill$Land", "size", "I", false)
  | 2 => ("GoodsDownhill$Land", "coin", "[I", true)
  | 3 => ("GoodsDownhill$Land", "stores", "[I", true)
  | 4 => ("GoodsDownhill$Land", "prices", "[I", true)
  | 5 => ("GoodsDownhill$Land", "debts", "LGoodsDownhill$Debts;", true)
  | 6 => ("GoodsDownhill$Land", "lawNow", "I", false)
  | 7 => ("GoodsDownhill$Land", "weekNow", "I", false)
  | _ => ("GoodsDownhill$Land", "muleFrom", "I", false)
def tyX6 : Nat → FieldType := fun k => match k with
  | 0 => .array (.object "GoodsDownhill$House")
  | 1 => .int
  | 2 => .array .int
  | 3 => .array .int
  | 4 => .array .int
  | 5 => .object "GoodsDownhill$Debts"
  | 6 => .int
  | 7 => .int
  | _ => .int
abbrev wsX60 : List Cond := u_ws RX6 TX6 9
theorem nmX6 : ∀ a, a < 9 → ∀ b, b < 9 → a ≠ b → (TX6 a).2.1 ≠ (TX6 b).2.1 := by decide +kernel
theorem tyX6_ok : ∀ k, k < 9 → parseFieldDescriptor (TX6 k).2.2.1 = some (tyX6 k) := by decide +kernel
abbrev cX6_init : ByteArray := prog_8_method_1_code
def yX6_init : MethodName := ⟨RX6, "<init>", "()V"⟩
abbrev cX6_copyFrom : ByteArray := prog_8_method_2_code
def yX6_copyFrom : MethodName := ⟨RX6, "copyFrom", "(LGoodsDownhill$Land;)V"⟩
abbrev cX6_addHouse : ByteArray := prog_8_method_3_code
def yX6_addHouse : MethodName := ⟨RX6, "addHouse", "(LGoodsDownhill$House;I)Z"⟩
abbrev cX6_hasHouse : ByteArray := prog_8_method_4_code
def yX6_hasHouse : MethodName := ⟨RX6, "hasHouse", "(I)Z"⟩
abbrev cX6_areTwo : ByteArray := prog_8_method_5_code
def yX6_areTwo : MethodName := ⟨RX6, "areTwo", "(II)Z"⟩
abbrev cX6_piecesOf : ByteArray := prog_8_method_6_code
def yX6_piecesOf : MethodName := ⟨RX6, "piecesOf", "(II)I"⟩
abbrev cX6_addPieces : ByteArray := prog_8_method_7_code
def yX6_addPieces : MethodName := ⟨RX6, "addPieces", "(III)V"⟩
abbrev cX6_isLawful : ByteArray := prog_8_method_8_code
def yX6_isLawful : MethodName := ⟨RX6, "isLawful", "(II)Z"⟩
abbrev cX6_hasMeans : ByteArray := prog_8_method_9_code
def yX6_hasMeans : MethodName := ⟨RX6, "hasMeans", "(III)Z"⟩
abbrev cX6_moveOnePiece : ByteArray := prog_8_method_10_code
def yX6_moveOnePiece : MethodName := ⟨RX6, "moveOnePiece", "(III)V"⟩
abbrev cX6_trySale : ByteArray := prog_8_method_11_code
def yX6_trySale : MethodName := ⟨RX6, "trySale", "(III)Z"⟩
abbrev cX6_passWeek : ByteArray := prog_8_method_12_code
def yX6_passWeek : MethodName := ⟨RX6, "passWeek", "(LGoodsDownhill$Tally;)V"⟩
abbrev cX6_makeGoods : ByteArray := prog_8_method_13_code
def yX6_makeGoods : MethodName := ⟨RX6, "makeGoods", "(I)V"⟩
abbrev cX6_buyWanted : ByteArray := prog_8_method_14_code
def yX6_buyWanted : MethodName := ⟨RX6, "buyWanted", "(I)I"⟩
abbrev cX6_fullestSellerTo : ByteArray := prog_8_method_15_code
def yX6_fullestSellerTo : MethodName := ⟨RX6, "fullestSellerTo", "(II)I"⟩
abbrev cX6_useWanted : ByteArray := prog_8_method_16_code
def yX6_useWanted : MethodName := ⟨RX6, "useWanted", "(I)I"⟩
abbrev cX6_richest : ByteArray := prog_8_method_17_code
def yX6_richest : MethodName := ⟨RX6, "richest", "()I"⟩
def RX7 : String := "GoodsDownhill$Letters"
def TX7 : u_T := fun k => match k with
  | 0 => ("GoodsDownhill$Letters", "signs", "[I", true)
  | _ => ("GoodsDownhill$Letters", "size", "I", false)
def tyX7 : Nat → FieldType := fun k => match k with
  | 0 => .array .int
  | _ => .int
abbrev wsX70 : List Cond := u_ws RX7 TX7 2
theorem nmX7 : ∀ a, a < 2 → ∀ b, b < 2 → a ≠ b → (TX7 a).2.1 ≠ (TX7 b).2.1 := by decide +kernel
theorem tyX7_ok : ∀ k, k < 2 → parseFieldDescriptor (TX7 k).2.2.1 = some (tyX7 k) := by decide +kernel
abbrev cX7_init : ByteArray := prog_9_method_1_code
def yX7_init : MethodName := ⟨RX7, "<init>", "()V"⟩
abbrev cX7_isFull : ByteArray := prog_9_method_2_code
def yX7_isFull : MethodName := ⟨RX7, "isFull", "()Z"⟩
abbrev cX7_add : ByteArray := prog_9_method_3_code
def yX7_add : MethodName := ⟨RX7, "add", "(I)V"⟩
abbrev cX7_firstWrongPlace : ByteArray := prog_9_method_4_code
def yX7_firstWrongPlace : MethodName := ⟨RX7, "firstWrongPlace", "()I"⟩
abbrev cX7_endOfDigits : ByteArray := prog_9_method_5_code
def yX7_endOfDigits : MethodName := ⟨RX7, "endOfDigits", "(II)I"⟩
abbrev cX7_leastDigits : ByteArray := prog_9_method_6_code
def yX7_leastDigits : MethodName := ⟨RX7, "leastDigits", "(I)I"⟩
abbrev cX7_mostDigits : ByteArray := prog_9_method_7_code
def yX7_mostDigits : MethodName := ⟨RX7, "mostDigits", "(I)I"⟩
abbrev cX7_endOfStatement : ByteArray := prog_9_method_8_code
def yX7_endOfStatement : MethodName := ⟨RX7, "endOfStatement", "(I)I"⟩
abbrev cX7_number : ByteArray := prog_9_method_9_code
def yX7_number : MethodName := ⟨RX7, "number", "(II)I"⟩
abbrev cX7_digit : ByteArray := prog_9_method_10_code
def yX7_digit : MethodName := ⟨RX7, "digit", "(I)I"⟩
abbrev cX7_tellTo : ByteArray := prog_9_method_11_code
def yX7_tellTo : MethodName := ⟨RX7, "tellTo", "(LGoodsDownhill$Land;)I"⟩
abbrev cX7_tellHouse : ByteArray := prog_9_method_12_code
def yX7_tellHouse : MethodName := ⟨RX7, "tellHouse", "(LGoodsDownhill$Land;II)Z"⟩
abbrev cX7_tellPrice : ByteArray := prog_9_method_13_code
def yX7_tellPrice : MethodName := ⟨RX7, "tellPrice", "(LGoodsDownhill$Land;I)Z"⟩
abbrev cX7_tellLaw : ByteArray := prog_9_method_14_code
def yX7_tellLaw : MethodName := ⟨RX7, "tellLaw", "(LGoodsDownhill$Land;I)Z"⟩
abbrev cX7_tellDebt : ByteArray := prog_9_method_15_code
def yX7_tellDebt : MethodName := ⟨RX7, "tellDebt", "(LGoodsDownhill$Land;II)Z"⟩
def RX8 : String := "GoodsDownhill$Market"
def TX8 : u_T := fun k => match k with
  | 0 => ("GoodsDownhill$House", "figure", "I", true)
  | 1 => ("GoodsDownhill$House", "height", "I", true)
  | 2 => ("GoodsDownhill$House", "madeGood", "I", true)
  | 3 => ("GoodsDownhill$House", "makes", "I", true)
  | 4 => ("GoodsDownhill$House", "wantedGood", "I", true)
  | _ => ("GoodsDownhill$House", "wants", "I", true)
def tyX8 : Nat → FieldType := fun k => match k with
  | 0 => .int
  | 1 => .int
  | 2 => .int
  | 3 => .int
  | 4 => .int
  | _ => .int
abbrev wsX80 : List Cond := u_ws RX8 TX8 6
theorem nmX8 : ∀ a, a < 6 → ∀ b, b < 6 → a ≠ b → (TX8 a).2.1 ≠ (TX8 b).2.1 := by decide +kernel
theorem tyX8_ok : ∀ k, k < 6 → parseFieldDescriptor (TX8 k).2.2.1 = some (tyX8 k) := by decide +kernel
abbrev cX8_init : ByteArray := prog_10_method_1_code
def yX8_init : MethodName := ⟨RX8, "<init>", "(IIIIII)V"⟩
abbrev cX8_kind : ByteArray := prog_10_method_2_code
def yX8_kind : MethodName := ⟨RX8, "kind", "()I"⟩
abbrev cX8_sellsAt : ByteArray := prog_10_method_3_code
def yX8_sellsAt : MethodName := ⟨RX8, "sellsAt", "()I"⟩
def RX9 : String := "GoodsDownhill$Tally"
def TX9 : u_T := fun k => match k with
  | 0 => ("GoodsDownhill$Tally", "servedInAll", "I", false)
  | 1 => ("GoodsDownhill$Tally", "salesOfWeek", "I", false)
  | 2 => ("GoodsDownhill$Tally", "lacksOfWeek", "I", false)
  | _ => ("GoodsDownhill$Tally", "servedOf", "[I", true)
def tyX9 : Nat → FieldType := fun k => match k with
  | 0 => .int
  | 1 => .int
  | 2 => .int
  | _ => .array .int
abbrev wsX90 : List Cond := u_ws RX9 TX9 4
theorem nmX9 : ∀ a, a < 4 → ∀ b, b < 4 → a ≠ b → (TX9 a).2.1 ≠ (TX9 b).2.1 := by decide +kernel
theorem tyX9_ok : ∀ k, k < 4 → parseFieldDescriptor (TX9 k).2.2.1 = some (tyX9 k) := by decide +kernel
abbrev cX9_init : ByteArray := prog_11_method_1_code
def yX9_init : MethodName := ⟨RX9, "<init>", "()V"⟩
abbrev cX9_clear : ByteArray := prog_11_method_2_code
def yX9_clear : MethodName := ⟨RX9, "clear", "()V"⟩
abbrev cX9_beginWeek : ByteArray := prog_11_method_3_code
def yX9_beginWeek : MethodName := ⟨RX9, "beginWeek", "()V"⟩
abbrev cX9_addUse : ByteArray := prog_11_method_4_code
def yX9_addUse : MethodName := ⟨RX9, "addUse", "(III)V"⟩
def RX10 : String := "GoodsDownhill$Trade"
def TX10 : u_T := fun k => match k with
  | _ => ("", "", "", false)
def tyX10 : Nat → FieldType := fun k => match k with
  | _ => .int
abbrev wsX100 : List Cond := u_ws RX10 TX10 0
theorem nmX10 : ∀ a, a < 0 → ∀ b, b < 0 → a ≠ b → (TX10 a).2.1 ≠ (TX10 b).2.1 := by decide +kernel
theorem tyX10_ok : ∀ k, k < 0 → parseFieldDescriptor (TX10 k).2.2.1 = some (tyX10 k) := by decide +kernel
abbrev cX10_stuckOf : ByteArray := prog_12_method_2_code
def yX10_stuckOf : MethodName := ⟨RX10, "stuckOf", "(LGoodsDownhill$Land;I)I"⟩
abbrev cX10_hasBuyer : ByteArray := prog_12_method_3_code
def yX10_hasBuyer : MethodName := ⟨RX10, "hasBuyer", "(LGoodsDownhill$Land;II)Z"⟩
abbrev cX10_mostOf : ByteArray := prog_12_method_4_code
def yX10_mostOf : MethodName := ⟨RX10, "mostOf", "(LGoodsDownhill$Land;I)I"⟩
abbrev cX10_cutBeside : ByteArray := prog_12_method_5_code
def yX10_cutBeside : MethodName := ⟨RX10, "cutBeside", "(LGoodsDownhill$Land;II)I"⟩
abbrev cX10_hasSellerAmong : ByteArray := prog_12_method_6_code
def yX10_hasSellerAmong : MethodName := ⟨RX10, "hasSellerAmong", "(LGoodsDownhill$Land;III)Z"⟩
abbrev cX10_ways : ByteArray := prog_12_method_7_code
def yX10_ways : MethodName := ⟨RX10, "ways", "(LGoodsDownhill$Land;II)I"⟩
abbrev cX10_waysOn : ByteArray := prog_12_method_8_code
def yX10_waysOn : MethodName := ⟨RX10, "waysOn", "(LGoodsDownhill$Land;IIII)I"⟩
abbrev cX10_fewestSales : ByteArray := prog_12_method_9_code
def yX10_fewestSales : MethodName := ⟨RX10, "fewestSales", "(LGoodsDownhill$Land;II)I"⟩
abbrev cX10_oneSaleBehind : ByteArray := prog_12_method_10_code
def yX10_oneSaleBehind : MethodName := ⟨RX10, "oneSaleBehind", "(LGoodsDownhill$Land;I)I"⟩
def RX11 : String := "GoodsDownhill"
def TX11 : u_T := fun k => match k with
  | 0 => ("GoodsDownhill", "now", "LGoodsDownhill$Land;", true)
  | 1 => ("GoodsDownhill", "mind", "LGoodsDownhill$Land;", true)
  | 2 => ("GoodsDownhill", "kept", "LGoodsDownhill$Land;", true)
  | 3 => ("GoodsDownhill", "isKept", "Z", false)
  | 4 => ("GoodsDownhill", "tally", "LGoodsDownhill$Tally;", true)
  | 5 => ("GoodsDownhill", "otherTally", "LGoodsDownhill$Tally;", true)
  | 6 => ("GoodsDownhill", "letters", "LGoodsDownhill$Letters;", true)
  | 7 => ("GoodsDownhill", "toldSales", "[I", true)
  | 8 => ("GoodsDownhill", "toldCount", "I", false)
  | _ => ("GoodsDownhill", "refusals", "[I", true)
def tyX11 : Nat → FieldType := fun k => match k with
  | 0 => .object "GoodsDownhill$Land"
  | 1 => .object "GoodsDownhill$Land"
  | 2 => .object "GoodsDownhill$Land"
  | 3 => .boolean
  | 4 => .object "GoodsDownhill$Tally"
  | 5 => .object "GoodsDownhill$Tally"
  | 6 => .object "GoodsDownhill$Letters"
  | 7 => .array .int
  | 8 => .int
  | _ => .array .int
abbrev wsX110 : List Cond := u_ws RX11 TX11 10
theorem nmX11 : ∀ a, a < 10 → ∀ b, b < 10 → a ≠ b → (TX11 a).2.1 ≠ (TX11 b).2.1 := by decide +kernel
theorem tyX11_ok : ∀ k, k < 10 → parseFieldDescriptor (TX11 k).2.2.1 = some (tyX11 k) := by decide +kernel
abbrev cX11_init : ByteArray := prog_1_method_1_code
def yX11_init : MethodName := ⟨RX11, "<init>", "()V"⟩
abbrev cX11_feed : ByteArray := prog_1_method_2_code
def yX11_feed : MethodName := ⟨RX11, "feed", "(I)I"⟩
abbrev cX11_mountain : ByteArray := prog_1_method_3_code
def yX11_mountain : MethodName := ⟨RX11, "mountain", "()I"⟩
abbrev cX11_house : ByteArray := prog_1_method_4_code
def yX11_house : MethodName := ⟨RX11, "house", "(II)I"⟩
abbrev cX11_store : ByteArray := prog_1_method_5_code
def yX11_store : MethodName := ⟨RX11, "store", "(II)I"⟩
abbrev cX11_price : ByteArray := prog_1_method_6_code
def yX11_price : MethodName := ⟨RX11, "price", "(II)I"⟩
abbrev cX11_law : ByteArray := prog_1_method_7_code
def yX11_law : MethodName := ⟨RX11, "law", "(I)I"⟩
abbrev cX11_lawful : ByteArray := prog_1_method_8_code
def yX11_lawful : MethodName := ⟨RX11, "lawful", "(II)I"⟩
abbrev cX11_count : ByteArray := prog_1_method_9_code
def yX11_count : MethodName := ⟨RX11, "count", "(I)I"⟩
abbrev cX11_sale : ByteArray := prog_1_method_10_code
def yX11_sale : MethodName := ⟨RX11, "sale", "(III)I"⟩
abbrev cX11_week : ByteArray := prog_1_method_11_code
def yX11_week : MethodName := ⟨RX11, "week", "()I"⟩
abbrev cX11_mule : ByteArray := prog_1_method_12_code
def yX11_mule : MethodName := ⟨RX11, "mule", "(III)I"⟩
abbrev cX11_owe : ByteArray := prog_1_method_13_code
def yX11_owe : MethodName := ⟨RX11, "owe", "(III)I"⟩
abbrev cX11_strike : ByteArray := prog_1_method_14_code
def yX11_strike : MethodName := ⟨RX11, "strike", "()I"⟩
abbrev cX11_behind : ByteArray := prog_1_method_15_code
def yX11_behind : MethodName := ⟨RX11, "behind", "(II)I"⟩
abbrev cX11_served : ByteArray := prog_1_method_16_code
def yX11_served : MethodName := ⟨RX11, "served", "(II)I"⟩
abbrev cX11_drift : ByteArray := prog_1_method_17_code
def yX11_drift : MethodName := ⟨RX11, "drift", "(I)I"⟩
abbrev cX11_votes : ByteArray := prog_1_method_18_code
def yX11_votes : MethodName := ⟨RX11, "votes", "(II)I"⟩
abbrev cX11_passInMind : ByteArray := prog_1_method_19_code
def yX11_passInMind : MethodName := ⟨RX11, "passInMind", "(IILGoodsDownhill$Tally;)V"⟩
abbrev cX11_rings : ByteArray := prog_1_method_20_code
def yX11_rings : MethodName := ⟨RX11, "rings", "(I)I"⟩
abbrev cX11_seeds : ByteArray := prog_1_method_21_code
def yX11_seeds : MethodName := ⟨RX11, "seeds", "(II)I"⟩
abbrev cX11_nextSeed : ByteArray := prog_1_method_22_code
def yX11_nextSeed : MethodName := ⟨RX11, "nextSeed", "(I)I"⟩
abbrev cX11_drawBelow : ByteArray := prog_1_method_23_code
def yX11_drawBelow : MethodName := ⟨RX11, "drawBelow", "(II)I"⟩
abbrev cX11_stuck : ByteArray := prog_1_method_24_code
def yX11_stuck : MethodName := ⟨RX11, "stuck", "()I"⟩
abbrev cX11_most : ByteArray := prog_1_method_25_code
def yX11_most : MethodName := ⟨RX11, "most", "(I)I"⟩
abbrev cX11_cellar : ByteArray := prog_1_method_26_code
def yX11_cellar : MethodName := ⟨RX11, "cellar", "(III)I"⟩
abbrev cX11_paths : ByteArray := prog_1_method_27_code
def yX11_paths : MethodName := ⟨RX11, "paths", "(III)I"⟩
abbrev cX11_owed : ByteArray := prog_1_method_28_code
def yX11_owed : MethodName := ⟨RX11, "owed", "(I)I"⟩
abbrev cX11_row : ByteArray := prog_1_method_29_code
def yX11_row : MethodName := ⟨RX11, "row", "(I)I"⟩
abbrev cX11_judge : ByteArray := prog_1_method_30_code
def yX11_judge : MethodName := ⟨RX11, "judge", "()I"⟩
abbrev cX11_image : ByteArray := prog_1_method_31_code
def yX11_image : MethodName := ⟨RX11, "image", "()I"⟩
abbrev cX11_restore : ByteArray := prog_1_method_32_code
def yX11_restore : MethodName := ⟨RX11, "restore", "()I"⟩
abbrev cX11_refuse : ByteArray := prog_1_method_33_code
def yX11_refuse : MethodName := ⟨RX11, "refuse", "(I)I"⟩
abbrev cX11_isGood : ByteArray := prog_1_method_34_code
def yX11_isGood : MethodName := ⟨RX11, "isGood", "(I)Z"⟩
abbrev cX11_isLaw : ByteArray := prog_1_method_35_code
def yX11_isLaw : MethodName := ⟨RX11, "isLaw", "(I)Z"⟩
abbrev cX11_sumOf : ByteArray := prog_1_method_36_code
def yX11_sumOf : MethodName := ⟨RX11, "sumOf", "([I)I"⟩
def RX12 : String := "GoodsDownhillModel"
def TX12 : u_T := fun k => match k with
  | 0 => ("GoodsDownhillModel", "houses", "I", false)
  | 1 => ("GoodsDownhillModel", "law", "I", false)
  | 2 => ("GoodsDownhillModel", "weeks", "I", false)
  | 3 => ("GoodsDownhillModel", "muleWeek", "I", false)
  | 4 => ("GoodsDownhillModel", "kinds", "[I", true)
  | 5 => ("GoodsDownhillModel", "figures", "[I", true)
  | 6 => ("GoodsDownhillModel", "heights", "[I", true)
  | 7 => ("GoodsDownhillModel", "madeGood", "[I", true)
  | 8 => ("GoodsDownhillModel", "madeMany", "[I", true)
  | 9 => ("GoodsDownhillModel", "wantGood", "[I", true)
  | 10 => ("GoodsDownhillModel", "wantMany", "[I", true)
  | 11 => ("GoodsDownhillModel", "coins", "[I", true)
  | 12 => ("GoodsDownhillModel", "stores", "[I", true)
  | 13 => ("GoodsDownhillModel", "debts", "[I", true)
  | 14 => ("GoodsDownhillModel", "prices", "[I", true)
  | 15 => ("GoodsDownhillModel", "thrown", "I", false)
  | 16 => ("GoodsDownhillModel", "refusals", "[I", true)
  | 17 => ("GoodsDownhillModel", "sales", "I", false)
  | 18 => ("GoodsDownhillModel", "servedOf", "[I", true)
  | 19 => ("GoodsDownhillModel", "struckSum", "I", false)
  | 20 => ("GoodsDownhillModel", "kept", "[I", true)
  | 21 => ("GoodsDownhillModel", "imaged", "[I", true)
  | 22 => ("GoodsDownhillModel", "hasImage", "Z", false)
  | 23 => ("GoodsDownhillModel", "place", "I", false)
  | 24 => ("GoodsDownhillModel", "isTaking", "Z", false)
  | 25 => ("GoodsDownhillModel", "keptIn", "[I", false)
  | 26 => ("GoodsDownhillModel", "letters", "[I", true)
  | 27 => ("GoodsDownhillModel", "letterMany", "I", false)
  | 28 => ("GoodsDownhillModel", "at", "I", false)
  | 29 => ("GoodsDownhillModel", "isBad", "Z", false)
  | 30 => ("GoodsDownhillModel", "statements", "I", false)
  | 31 => ("GoodsDownhillModel", "placeOf", "[I", true)
  | 32 => ("GoodsDownhillModel", "letterOf", "[I", true)
  | 33 => ("GoodsDownhillModel", "told", "[I", true)
  | 34 => ("GoodsDownhillModel", "servedNow", "[I", true)
  | 35 => ("GoodsDownhillModel", "row", "[I", true)
  | 36 => ("GoodsDownhillModel", "rowMany", "I", false)
  | _ => ("GoodsDownhillModel", "seed", "I", false)
def tyX12 : Nat → FieldType := fun k => match k with
  | 0 => .int
  | 1 => .int
  | 2 => .int
  | 3 => .int
  | 4 => .array .int
  | 5 => .array .int
  | 6 => .array .int
  | 7 => .array .int
  | 8 => .array .int
  | 9 => .array .int
  | 10 => .array .int
  | 11 => .array .int
  | 12 => .array .int
  | 13 => .array .int
  | 14 => .array .int
  | 15 => .int
  | 16 => .array .int
  | 17 => .int
  | 18 => .array .int
  | 19 => .int
  | 20 => .array .int
  | 21 => .array .int
  | 22 => .boolean
  | 23 => .int
  | 24 => .boolean
  | 25 => .array .int
  | 26 => .array .int
  | 27 => .int
  | 28 => .int
  | 29 => .boolean
  | 30 => .int
  | 31 => .array .int
  | 32 => .array .int
  | 33 => .array .int
  | 34 => .array .int
  | 35 => .array .int
  | 36 => .int
  | _ => .int
abbrev wsX120 : List Cond := u_ws RX12 TX12 38
theorem nmX12 : ∀ a, a < 38 → ∀ b, b < 38 → a ≠ b → (TX12 a).2.1 ≠ (TX12 b).2.1 := by decide +kernel
theorem tyX12_ok : ∀ k, k < 38 → parseFieldDescriptor (TX12 k).2.2.1 = some (tyX12 k) := by decide +kernel
abbrev cX12_init : ByteArray := prog_14_method_1_code
def yX12_init : MethodName := ⟨RX12, "<init>", "()V"⟩
abbrev cX12_in : ByteArray := prog_14_method_3_code
def yX12_in : MethodName := ⟨RX12, "in", "(JJJ)Z"⟩
abbrev cX12_refuse : ByteArray := prog_14_method_4_code
def yX12_refuse : MethodName := ⟨RX12, "refuse", "(I)I"⟩
abbrev cX12_isHouse : ByteArray := prog_14_method_5_code
def yX12_isHouse : MethodName := ⟨RX12, "isHouse", "(I)Z"⟩
abbrev cX12_areTwo : ByteArray := prog_14_method_6_code
def yX12_areTwo : MethodName := ⟨RX12, "areTwo", "(II)Z"⟩
abbrev cX12_isGood : ByteArray := prog_14_method_7_code
def yX12_isGood : MethodName := ⟨RX12, "isGood", "(I)Z"⟩
abbrev cX12_sellsAt : ByteArray := prog_14_method_8_code
def yX12_sellsAt : MethodName := ⟨RX12, "sellsAt", "(I)I"⟩
abbrev cX12_buysAt : ByteArray := prog_14_method_9_code
def yX12_buysAt : MethodName := ⟨RX12, "buysAt", "(I)I"⟩
abbrev cX12_isLawful : ByteArray := prog_14_method_10_code
def yX12_isLawful : MethodName := ⟨RX12, "isLawful", "(II)Z"⟩
abbrev cX12_canSell : ByteArray := prog_14_method_11_code
def yX12_canSell : MethodName := ⟨RX12, "canSell", "(III)Z"⟩
abbrev cX12_sell : ByteArray := prog_14_method_12_code
def yX12_sell : MethodName := ⟨RX12, "sell", "(III)V"⟩
abbrev cX12_wants : ByteArray := prog_14_method_13_code
def yX12_wants : MethodName := ⟨RX12, "wants", "(II)Z"⟩
abbrev cX12_buyFor : ByteArray := prog_14_method_14_code
def yX12_buyFor : MethodName := ⟨RX12, "buyFor", "(I)V"⟩
abbrev cX12_weekOn : ByteArray := prog_14_method_15_code
def yX12_weekOn : MethodName := ⟨RX12, "weekOn", "()I"⟩
abbrev cX12_debt : ByteArray := prog_14_method_16_code
def yX12_debt : MethodName := ⟨RX12, "debt", "(II)I"⟩
abbrev cX12_lessen : ByteArray := prog_14_method_17_code
def yX12_lessen : MethodName := ⟨RX12, "lessen", "(III)I"⟩
abbrev cX12_strikeOne : ByteArray := prog_14_method_18_code
def yX12_strikeOne : MethodName := ⟨RX12, "strikeOne", "()Z"⟩
abbrev cX12_strikeAll : ByteArray := prog_14_method_19_code
def yX12_strikeAll : MethodName := ⟨RX12, "strikeAll", "()I"⟩
abbrev cX12_carry : ByteArray := prog_14_method_20_code
def yX12_carry : MethodName := ⟨RX12, "carry", "(I)I"⟩
abbrev cX12_carryAll : ByteArray := prog_14_method_21_code
def yX12_carryAll : MethodName := ⟨RX12, "carryAll", "([IZ)V"⟩
abbrev cX12_open : ByteArray := prog_14_method_22_code
def yX12_open : MethodName := ⟨RX12, "open", "()V"⟩
abbrev cX12_close : ByteArray := prog_14_method_23_code
def yX12_close : MethodName := ⟨RX12, "close", "()V"⟩
abbrev cX12_image : ByteArray := prog_14_method_24_code
def yX12_image : MethodName := ⟨RX12, "image", "()I"⟩
abbrev cX12_restore : ByteArray := prog_14_method_25_code
def yX12_restore : MethodName := ⟨RX12, "restore", "()I"⟩
abbrev cX12_feed : ByteArray := prog_14_method_26_code
def yX12_feed : MethodName := ⟨RX12, "feed", "(I)I"⟩
abbrev cX12_here : ByteArray := prog_14_method_27_code
def yX12_here : MethodName := ⟨RX12, "here", "()I"⟩
abbrev cX12_readDigit : ByteArray := prog_14_method_28_code
def yX12_readDigit : MethodName := ⟨RX12, "readDigit", "()I"⟩
abbrev cX12_readNumber : ByteArray := prog_14_method_29_code
def yX12_readNumber : MethodName := ⟨RX12, "readNumber", "(I)I"⟩
abbrev cX12_readStatement : ByteArray := prog_14_method_30_code
def yX12_readStatement : MethodName := ⟨RX12, "readStatement", "()V"⟩
abbrev cX12_houseComes : ByteArray := prog_14_method_31_code
def yX12_houseComes : MethodName := ⟨RX12, "houseComes", "(I)Z"⟩
abbrev cX12_comes : ByteArray := prog_14_method_32_code
def yX12_comes : MethodName := ⟨RX12, "comes", "(I)Z"⟩
abbrev cX12_mountain : ByteArray := prog_14_method_33_code
def yX12_mountain : MethodName := ⟨RX12, "mountain", "()I"⟩
abbrev cX12_house : ByteArray := prog_14_method_34_code
def yX12_house : MethodName := ⟨RX12, "house", "(II)I"⟩
abbrev cX12_store : ByteArray := prog_14_method_35_code
def yX12_store : MethodName := ⟨RX12, "store", "(II)I"⟩
abbrev cX12_price : ByteArray := prog_14_method_36_code
def yX12_price : MethodName := ⟨RX12, "price", "(II)I"⟩
abbrev cX12_law : ByteArray := prog_14_method_37_code
def yX12_law : MethodName := ⟨RX12, "law", "(I)I"⟩
abbrev cX12_lawful : ByteArray := prog_14_method_38_code
def yX12_lawful : MethodName := ⟨RX12, "lawful", "(II)I"⟩
abbrev cX12_sale : ByteArray := prog_14_method_39_code
def yX12_sale : MethodName := ⟨RX12, "sale", "(III)I"⟩
abbrev cX12_week : ByteArray := prog_14_method_40_code
def yX12_week : MethodName := ⟨RX12, "week", "()I"⟩
abbrev cX12_mule : ByteArray := prog_14_method_41_code
def yX12_mule : MethodName := ⟨RX12, "mule", "(III)I"⟩
abbrev cX12_owe : ByteArray := prog_14_method_42_code
def yX12_owe : MethodName := ⟨RX12, "owe", "(III)I"⟩
abbrev cX12_strike : ByteArray := prog_14_method_43_code
def yX12_strike : MethodName := ⟨RX12, "strike", "()I"⟩
abbrev cX12_servedIn : ByteArray := prog_14_method_44_code
def yX12_servedIn : MethodName := ⟨RX12, "servedIn", "(I)I"⟩
abbrev cX12_behind : ByteArray := prog_14_method_45_code
def yX12_behind : MethodName := ⟨RX12, "behind", "(II)I"⟩
abbrev cX12_wantsOfAll : ByteArray := prog_14_method_46_code
def yX12_wantsOfAll : MethodName := ⟨RX12, "wantsOfAll", "()I"⟩
abbrev cX12_served : ByteArray := prog_14_method_47_code
def yX12_served : MethodName := ⟨RX12, "served", "(II)I"⟩
abbrev cX12_drift : ByteArray := prog_14_method_48_code
def yX12_drift : MethodName := ⟨RX12, "drift", "(I)I"⟩
abbrev cX12_stuck : ByteArray := prog_14_method_49_code
def yX12_stuck : MethodName := ⟨RX12, "stuck", "()I"⟩
abbrev cX12_mostOf : ByteArray := prog_14_method_50_code
def yX12_mostOf : MethodName := ⟨RX12, "mostOf", "(I)I"⟩
abbrev cX12_most : ByteArray := prog_14_method_51_code
def yX12_most : MethodName := ⟨RX12, "most", "(I)I"⟩
abbrev cX12_cellar : ByteArray := prog_14_method_52_code
def yX12_cellar : MethodName := ⟨RX12, "cellar", "(III)I"⟩
abbrev cX12_isPath : ByteArray := prog_14_method_53_code
def yX12_isPath : MethodName := ⟨RX12, "isPath", "(IIII)Z"⟩
abbrev cX12_paths : ByteArray := prog_14_method_54_code
def yX12_paths : MethodName := ⟨RX12, "paths", "(III)I"⟩
abbrev cX12_owed : ByteArray := prog_14_method_55_code
def yX12_owed : MethodName := ⟨RX12, "owed", "(I)I"⟩
abbrev cX12_rings : ByteArray := prog_14_method_56_code
def yX12_rings : MethodName := ⟨RX12, "rings", "(I)I"⟩
abbrev cX12_votes : ByteArray := prog_14_method_57_code
def yX12_votes : MethodName := ⟨RX12, "votes", "(II)I"⟩
abbrev cX12_row : ByteArray := prog_14_method_58_code
def yX12_row : MethodName := ⟨RX12, "row", "(I)I"⟩
abbrev cX12_isSold : ByteArray := prog_14_method_59_code
def yX12_isSold : MethodName := ⟨RX12, "isSold", "(III)Z"⟩
abbrev cX12_judge : ByteArray := prog_14_method_60_code
def yX12_judge : MethodName := ⟨RX12, "judge", "()I"⟩
abbrev cX12_draw : ByteArray := prog_14_method_61_code
def yX12_draw : MethodName := ⟨RX12, "draw", "(I)I"⟩
abbrev cX12_seeds : ByteArray := prog_14_method_62_code
def yX12_seeds : MethodName := ⟨RX12, "seeds", "(II)I"⟩
abbrev cX12_sumOf : ByteArray := prog_14_method_63_code
def yX12_sumOf : MethodName := ⟨RX12, "sumOf", "([II)I"⟩
abbrev cX12_count : ByteArray := prog_14_method_64_code
def yX12_count : MethodName := ⟨RX12, "count", "(I)I"⟩
def RJ9 : String := "java/lang/Math"
def TJ9 : u_T := fun k => match k with
  | _ => ("", "", "", false)
def tyJ9 : Nat → FieldType := fun k => match k with
  | _ => .int
abbrev wsJ90 : List Cond := u_ws RJ9 TJ9 0
theorem nmJ9 : ∀ a, a < 0 → ∀ b, b < 0 → a ≠ b → (TJ9 a).2.1 ≠ (TJ9 b).2.1 := by decide +kernel
theorem tyJ9_ok : ∀ k, k < 0 → parseFieldDescriptor (TJ9 k).2.2.1 = some (tyJ9 k) := by decide +kernel
abbrev cJ9_max_7cf53 : ByteArray := prog_15_method_65_code
def yJ9_max_7cf53 : MethodName := ⟨RJ9, "max", "(II)I"⟩
abbrev cJ9_min_7cf53 : ByteArray := prog_15_method_69_code
def yJ9_min_7cf53 : MethodName := ⟨RJ9, "min", "(II)I"⟩
def RJ10 : String := "java/lang/System"
def TJ10 : u_T := fun k => match k with
  | _ => ("", "", "", false)
def tyJ10 : Nat → FieldType := fun k => match k with
  | _ => .int
abbrev wsJ100 : List Cond := u_ws RJ10 TJ10 0
theorem nmJ10 : ∀ a, a < 0 → ∀ b, b < 0 → a ≠ b → (TJ10 a).2.1 ≠ (TJ10 b).2.1 := by decide +kernel
theorem tyJ10_ok : ∀ k, k < 0 → parseFieldDescriptor (TJ10 k).2.2.1 = some (tyJ10 k) := by decide +kernel
def RL : String := "GoodsDownhillLaw"
abbrev cL_law : ByteArray := code
abbrev vwCl : List vw_C := [(RX0, TX0, 6), (RX1, TX1, 1), (RX2, TX2, 6), (RX3, TX3, 6), (RX4, TX4, 6), (RX5, TX5, 6), (RX6, TX6, 9), (RX7, TX7, 2), (RX8, TX8, 6), (RX9, TX9, 4), (RX11, TX11, 10), (RX12, TX12, 38)]
end
section
theorem dX0_init_0 : decode cX0_init 0 = .ok (.aload_n 0, 1) := by decide +kernel
theorem dX0_init_1 : decode cX0_init 1 = .ok (.iload_n 1, 1) := by decide +kernel
theorem dX0_init_2 : decode cX0_init 2 = .ok (.iload_n 2, 1) := by decide +kernel
theorem dX0_init_3 : decode cX0_init 3 = .ok (.iload_n 3, 1) := by decide +kernel
theorem dX0_init_4 : decode cX0_init 4 = .ok (.iload 4, 2) := by decide +kernel
theorem dX0_init_6 : decode cX0_init 6 = .ok (.iload 5, 2) := by decide +kernel
theorem dX0_init_8 : decode cX0_init 8 = .ok (.iload 6, 2) := by decide +kernel
theorem dX0_init_10 : decode cX0_init 10 = .ok (.invokespecial 1, 3) := by decide +kernel
theorem dX0_init_13 : decode cX0_init 13 = .ok (.return_, 1) := by decide +kernel
theorem dX0_insteadOf_0 : decode cX0_insteadOf 0 = .ok (.new 7, 3) := by decide +kernel
theorem dX0_insteadOf_3 : decode cX0_insteadOf 3 = .ok (.dup, 1) := by decide +kernel
theorem dX0_insteadOf_4 : decode cX0_insteadOf 4 = .ok (.iload_n 1, 1) := by decide +kernel
theorem dX0_insteadOf_5 : decode cX0_insteadOf 5 = .ok (.aload_n 0, 1) := by decide +kernel
theorem dX0_insteadOf_6 : decode cX0_insteadOf 6 = .ok (.getfield 9, 3) := by decide +kernel
theorem dX0_insteadOf_9 : decode cX0_insteadOf 9 = .ok (.aload_n 0, 1) := by decide +kernel
theorem dX0_insteadOf_10 : decode cX0_insteadOf 10 = .ok (.getfield 13, 3) := by decide +kernel
theorem dX0_insteadOf_13 : decode cX0_insteadOf 13 = .ok (.aload_n 0, 1) := by decide +kernel
theorem dX0_insteadOf_14 : decode cX0_insteadOf 14 = .ok (.getfield 16, 3) := by decide +kernel
theorem dX0_insteadOf_17 : decode cX0_insteadOf 17 = .ok (.aload_n 0, 1) := by decide +kernel
theorem dX0_insteadOf_18 : decode cX0_insteadOf 18 = .ok (.getfield 19, 3) := by decide +kernel
theorem dX0_insteadOf_21 : decode cX0_insteadOf 21 = .ok (.aload_n 0, 1) := by decide +kernel
theorem dX0_insteadOf_22 : decode cX0_insteadOf 22 = .ok (.getfield 22, 3) := by decide +kernel
theorem dX0_insteadOf_25 : decode cX0_insteadOf 25 = .ok (.invokespecial 25, 3) := by decide +kernel
theorem dX0_insteadOf_28 : decode cX0_insteadOf 28 = .ok (.areturn, 1) := by decide +kernel
theorem dX0_kind_0 : decode cX0_kind 0 = .ok (.iconst 1, 1) := by decide +kernel
theorem dX0_kind_1 : decode cX0_kind 1 = .ok (.ireturn, 1) := by decide +kernel
theorem dX0_buysAt_0 : decode cX0_buysAt 0 = .ok (.aload_n 0, 1) := by decide +kernel
theorem dX0_buysAt_1 : decode cX0_buysAt 1 = .ok (.getfield 26, 3) := by decide +kernel
theorem dX0_buysAt_4 : decode cX0_buysAt 4 = .ok (.aload_n 0, 1) := by decide +kernel
theorem dX0_buysAt_5 : decode cX0_buysAt 5 = .ok (.getfield 27, 3) := by decide +kernel
theorem dX0_buysAt_8 : decode cX0_buysAt 8 = .ok (.isub, 1) := by decide +kernel
theorem dX0_buysAt_9 : decode cX0_buysAt 9 = .ok (.ireturn, 1) := by decide +kernel
theorem dX1_init_0 : decode cX1_init 0 = .ok (.aload_n 0, 1) := by decide +kernel
theorem dX1_init_1 : decode cX1_init 1 = .ok (.invokespecial 3, 3) := by decide +kernel
theorem dX1_init_4 : decode cX1_init 4 = .ok (.aload_n 0, 1) := by decide +kernel
theorem dX1_init_5 : decode cX1_init 5 = .ok (.bipush 36, 2) := by decide +kernel
theorem dX1_init_7 : decode cX1_init 7 = .ok (.newarray .int, 2) := by decide +kernel
theorem dX1_init_9 : decode cX1_init 9 = .ok (.putfield 9, 3) := by decide +kernel
theorem dX1_init_12 : decode cX1_init 12 = .ok (.return_, 1) := by decide +kernel
theorem dX1_copyFrom_0 : decode cX1_copyFrom 0 = .ok (.aload_n 1, 1) := by decide +kernel
theorem dX1_copyFrom_1 : decode cX1_copyFrom 1 = .ok (.getfield 9, 3) := by decide +kernel
theorem dX1_copyFrom_4 : decode cX1_copyFrom 4 = .ok (.iconst 0, 1) := by decide +kernel
theorem dX1_copyFrom_5 : decode cX1_copyFrom 5 = .ok (.aload_n 0, 1) := by decide +kernel
theorem dX1_copyFrom_6 : decode cX1_copyFrom 6 = .ok (.getfield 9, 3) := by decide +kernel
theorem dX1_copyFrom_9 : decode cX1_copyFrom 9 = .ok (.iconst 0, 1) := by decide +kernel
theorem dX1_copyFrom_10 : decode cX1_copyFrom 10 = .ok (.aload_n 0, 1) := by decide +kernel
theorem dX1_copyFrom_11 : decode cX1_copyFrom 11 = .ok (.getfield 9, 3) := by decide +kernel
theorem dX1_copyFrom_14 : decode cX1_copyFrom 14 = .ok (.arraylength, 1) := by decide +kernel
theorem dX1_copyFrom_15 : decode cX1_copyFrom 15 = .ok (.invokestatic 15, 3) := by decide +kernel
theorem dX1_copyFrom_18 : decode cX1_copyFrom 18 = .ok (.return_, 1) := by decide +kernel
theorem dX1_from_0 : decode cX1_from 0 = .ok (.aload_n 0, 1) := by decide +kernel
theorem dX1_from_1 : decode cX1_from 1 = .ok (.getfield 9, 3) := by decide +kernel
theorem dX1_from_4 : decode cX1_from 4 = .ok (.iload_n 1, 1) := by decide +kernel
theorem dX1_from_5 : decode cX1_from 5 = .ok (.bipush 6, 2) := by decide +kernel
theorem dX1_from_7 : decode cX1_from 7 = .ok (.imul, 1) := by decide +kernel
theorem dX1_from_8 : decode cX1_from 8 = .ok (.iload_n 2, 1) := by decide +kernel
theorem dX1_from_9 : decode cX1_from 9 = .ok (.iadd, 1) := by decide +kernel
theorem dX1_from_10 : decode cX1_from 10 = .ok (.iaload, 1) := by decide +kernel
theorem dX1_from_11 : decode cX1_from 11 = .ok (.ireturn, 1) := by decide +kernel
theorem dX1_put_0 : decode cX1_put 0 = .ok (.aload_n 0, 1) := by decide +kernel
theorem dX1_put_1 : decode cX1_put 1 = .ok (.getfield 9, 3) := by decide +kernel
theorem dX1_put_4 : decode cX1_put 4 = .ok (.iload_n 1, 1) := by decide +kernel
theorem dX1_put_5 : decode cX1_put 5 = .ok (.bipush 6, 2) := by decide +kernel
theorem dX1_put_7 : decode cX1_put 7 = .ok (.imul, 1) := by decide +kernel
theorem dX1_put_8 : decode cX1_put 8 = .ok (.iload_n 2, 1) := by decide +kernel
theorem dX1_put_9 : decode cX1_put 9 = .ok (.iadd, 1) := by decide +kernel
theorem dX1_put_10 : decode cX1_put 10 = .ok (.iload_n 3, 1) := by decide +kernel
theorem dX1_put_11 : decode cX1_put 11 = .ok (.iastore, 1) := by decide +kernel
theorem dX1_put_12 : decode cX1_put 12 = .ok (.return_, 1) := by decide +kernel
theorem dX1_total_0 : decode cX1_total 0 = .ok (.aload_n 0, 1) := by decide +kernel
theorem dX1_total_1 : decode cX1_total 1 = .ok (.getfield 9, 3) := by decide +kernel
theorem dX1_total_4 : decode cX1_total 4 = .ok (.invokestatic 21, 3) := by decide +kernel
theorem dX1_total_7 : decode cX1_total 7 = .ok (.ireturn, 1) := by decide +kernel
theorem dX1_owedTo_0 : decode cX1_owedTo 0 = .ok (.iconst 0, 1) := by decide +kernel
theorem dX1_owedTo_1 : decode cX1_owedTo 1 = .ok (.istore_n 2, 1) := by decide +kernel
theorem dX1_owedTo_2 : decode cX1_owedTo 2 = .ok (.iconst 0, 1) := by decide +kernel
theorem dX1_owedTo_3 : decode cX1_owedTo 3 = .ok (.istore_n 3, 1) := by decide +kernel
theorem dX1_owedTo_4 : decode cX1_owedTo 4 = .ok (.iload_n 3, 1) := by decide +kernel
theorem dX1_owedTo_5 : decode cX1_owedTo 5 = .ok (.bipush 6, 2) := by decide +kernel
theorem dX1_owedTo_7 : decode cX1_owedTo 7 = .ok (.if_icmp .ge 25, 3) := by decide +kernel
theorem dX1_owedTo_10 : decode cX1_owedTo 10 = .ok (.iload_n 2, 1) := by decide +kernel
theorem dX1_owedTo_11 : decode cX1_owedTo 11 = .ok (.aload_n 0, 1) := by decide +kernel
theorem dX1_owedTo_12 : decode cX1_owedTo 12 = .ok (.iload_n 3, 1) := by decide +kernel
theorem dX1_owedTo_13 : decode cX1_owedTo 13 = .ok (.iload_n 1, 1) := by decide +kernel
theorem dX1_owedTo_14 : decode cX1_owedTo 14 = .ok (.invokevirtual 25, 3) := by decide +kernel
theorem dX1_owedTo_17 : decode cX1_owedTo 17 = .ok (.aload_n 0, 1) := by decide +kernel
theorem dX1_owedTo_18 : decode cX1_owedTo 18 = .ok (.iload_n 1, 1) := by decide +kernel
theorem dX1_owedTo_19 : decode cX1_owedTo 19 = .ok (.iload_n 3, 1) := by decide +kernel
theorem dX1_owedTo_20 : decode cX1_owedTo 20 = .ok (.invokevirtual 25, 3) := by decide +kernel
theorem dX1_owedTo_23 : decode cX1_owedTo 23 = .ok (.isub, 1) := by decide +kernel
theorem dX1_owedTo_24 : decode cX1_owedTo 24 = .ok (.iadd, 1) := by decide +kernel
theorem dX1_owedTo_25 : decode cX1_owedTo 25 = .ok (.istore_n 2, 1) := by decide +kernel
theorem dX1_owedTo_26 : decode cX1_owedTo 26 = .ok (.iinc 3 1, 3) := by decide +kernel
theorem dX1_owedTo_29 : decode cX1_owedTo 29 = .ok (.goto (-25), 3) := by decide +kernel
theorem dX1_owedTo_32 : decode cX1_owedTo 32 = .ok (.iload_n 2, 1) := by decide +kernel
theorem dX1_owedTo_33 : decode cX1_owedTo 33 = .ok (.ireturn, 1) := by decide +kernel
theorem dX1_strikeRings_0 : decode cX1_strikeRings 0 = .ok (.iconst 0, 1) := by decide +kernel
theorem dX1_strikeRings_1 : decode cX1_strikeRings 1 = .ok (.istore_n 1, 1) := by decide +kernel
theorem dX1_strikeRings_2 : decode cX1_strikeRings 2 = .ok (.iconst 0, 1) := by decide +kernel
theorem dX1_strikeRings_3 : decode cX1_strikeRings 3 = .ok (.istore_n 2, 1) := by decide +kernel
theorem dX1_strikeRings_4 : decode cX1_strikeRings 4 = .ok (.iload_n 2, 1) := by decide +kernel
theorem dX1_strikeRings_5 : decode cX1_strikeRings 5 = .ok (.bipush 6, 2) := by decide +kernel
theorem dX1_strikeRings_7 : decode cX1_strikeRings 7 = .ok (.if_icmp .ge 34, 3) := by decide +kernel
theorem dX1_strikeRings_10 : decode cX1_strikeRings 10 = .ok (.iload_n 2, 1) := by decide +kernel
theorem dX1_strikeRings_11 : decode cX1_strikeRings 11 = .ok (.iconst 1, 1) := by decide +kernel
theorem dX1_strikeRings_12 : decode cX1_strikeRings 12 = .ok (.iadd, 1) := by decide +kernel
theorem dX1_strikeRings_13 : decode cX1_strikeRings 13 = .ok (.istore_n 3, 1) := by decide +kernel
theorem dX1_strikeRings_14 : decode cX1_strikeRings 14 = .ok (.iload_n 3, 1) := by decide +kernel
theorem dX1_strikeRings_15 : decode cX1_strikeRings 15 = .ok (.bipush 6, 2) := by decide +kernel
theorem dX1_strikeRings_17 : decode cX1_strikeRings 17 = .ok (.if_icmp .ge 18, 3) := by decide +kernel
theorem dX1_strikeRings_20 : decode cX1_strikeRings 20 = .ok (.iload_n 1, 1) := by decide +kernel
theorem dX1_strikeRings_21 : decode cX1_strikeRings 21 = .ok (.aload_n 0, 1) := by decide +kernel
theorem dX1_strikeRings_22 : decode cX1_strikeRings 22 = .ok (.iload_n 2, 1) := by decide +kernel
theorem dX1_strikeRings_23 : decode cX1_strikeRings 23 = .ok (.iload_n 3, 1) := by decide +kernel
theorem dX1_strikeRings_24 : decode cX1_strikeRings 24 = .ok (.invokevirtual 29, 3) := by decide +kernel
theorem dX1_strikeRings_27 : decode cX1_strikeRings 27 = .ok (.iadd, 1) := by decide +kernel
theorem dX1_strikeRings_28 : decode cX1_strikeRings 28 = .ok (.istore_n 1, 1) := by decide +kernel
theorem dX1_strikeRings_29 : decode cX1_strikeRings 29 = .ok (.iinc 3 1, 3) := by decide +kernel
theorem dX1_strikeRings_32 : decode cX1_strikeRings 32 = .ok (.goto (-18), 3) := by decide +kernel
theorem dX1_strikeRings_35 : decode cX1_strikeRings 35 = .ok (.iinc 2 1, 3) := by decide +kernel
theorem dX1_strikeRings_38 : decode cX1_strikeRings 38 = .ok (.goto (-34), 3) := by decide +kernel
theorem dX1_strikeRings_41 : decode cX1_strikeRings 41 = .ok (.iconst 0, 1) := by decide +kernel
theorem dX1_strikeRings_42 : decode cX1_strikeRings 42 = .ok (.istore_n 2, 1) := by decide +kernel
theorem dX1_strikeRings_43 : decode cX1_strikeRings 43 = .ok (.iload_n 2, 1) := by decide +kernel
theorem dX1_strikeRings_44 : decode cX1_strikeRings 44 = .ok (.bipush 6, 2) := by decide +kernel
theorem dX1_strikeRings_46 : decode cX1_strikeRings 46 = .ok (.if_icmp .ge 64, 3) := by decide +kernel
theorem dX1_strikeRings_49 : decode cX1_strikeRings 49 = .ok (.iload_n 2, 1) := by decide +kernel
theorem dX1_strikeRings_50 : decode cX1_strikeRings 50 = .ok (.iconst 1, 1) := by decide +kernel
theorem dX1_strikeRings_51 : decode cX1_strikeRings 51 = .ok (.iadd, 1) := by decide +kernel
theorem dX1_strikeRings_52 : decode cX1_strikeRings 52 = .ok (.istore_n 3, 1) := by decide +kernel
theorem dX1_strikeRings_53 : decode cX1_strikeRings 53 = .ok (.iload_n 3, 1) := by decide +kernel
theorem dX1_strikeRings_54 : decode cX1_strikeRings 54 = .ok (.bipush 6, 2) := by decide +kernel
theorem dX1_strikeRings_56 : decode cX1_strikeRings 56 = .ok (.if_icmp .ge 48, 3) := by decide +kernel
theorem dX1_strikeRings_59 : decode cX1_strikeRings 59 = .ok (.iload_n 2, 1) := by decide +kernel
theorem dX1_strikeRings_60 : decode cX1_strikeRings 60 = .ok (.iconst 1, 1) := by decide +kernel
theorem dX1_strikeRings_61 : decode cX1_strikeRings 61 = .ok (.iadd, 1) := by decide +kernel
theorem dX1_strikeRings_62 : decode cX1_strikeRings 62 = .ok (.istore 4, 2) := by decide +kernel
theorem dX1_strikeRings_64 : decode cX1_strikeRings 64 = .ok (.iload 4, 2) := by decide +kernel
theorem dX1_strikeRings_66 : decode cX1_strikeRings 66 = .ok (.bipush 6, 2) := by decide +kernel
theorem dX1_strikeRings_68 : decode cX1_strikeRings 68 = .ok (.if_icmp .ge 30, 3) := by decide +kernel
theorem dX1_strikeRings_71 : decode cX1_strikeRings 71 = .ok (.iload_n 1, 1) := by decide +kernel
theorem dX1_strikeRings_72 : decode cX1_strikeRings 72 = .ok (.iload_n 3, 1) := by decide +kernel
theorem dX1_strikeRings_73 : decode cX1_strikeRings 73 = .ok (.iload 4, 2) := by decide +kernel
theorem dX1_strikeRings_75 : decode cX1_strikeRings 75 = .ok (.if_icmp .ne 7, 3) := by decide +kernel
theorem dX1_strikeRings_78 : decode cX1_strikeRings 78 = .ok (.iconst 0, 1) := by decide +kernel
theorem dX1_strikeRings_79 : decode cX1_strikeRings 79 = .ok (.goto 11, 3) := by decide +kernel
theorem dX1_strikeRings_82 : decode cX1_strikeRings 82 = .ok (.aload_n 0, 1) := by decide +kernel
theorem dX1_strikeRings_83 : decode cX1_strikeRings 83 = .ok (.iload_n 2, 1) := by decide +kernel
theorem dX1_strikeRings_84 : decode cX1_strikeRings 84 = .ok (.iload_n 3, 1) := by decide +kernel
theorem dX1_strikeRings_85 : decode cX1_strikeRings 85 = .ok (.iload 4, 2) := by decide +kernel
theorem dX1_strikeRings_87 : decode cX1_strikeRings 87 = .ok (.invokevirtual 32, 3) := by decide +kernel
theorem dX1_strikeRings_90 : decode cX1_strikeRings 90 = .ok (.iadd, 1) := by decide +kernel
theorem dX1_strikeRings_91 : decode cX1_strikeRings 91 = .ok (.istore_n 1, 1) := by decide +kernel
theorem dX1_strikeRings_92 : decode cX1_strikeRings 92 = .ok (.iinc 4 1, 3) := by decide +kernel
theorem dX1_strikeRings_95 : decode cX1_strikeRings 95 = .ok (.goto (-31), 3) := by decide +kernel
theorem dX1_strikeRings_98 : decode cX1_strikeRings 98 = .ok (.iinc 3 1, 3) := by decide +kernel
theorem dX1_strikeRings_101 : decode cX1_strikeRings 101 = .ok (.goto (-48), 3) := by decide +kernel
theorem dX1_strikeRings_104 : decode cX1_strikeRings 104 = .ok (.iinc 2 1, 3) := by decide +kernel
theorem dX1_strikeRings_107 : decode cX1_strikeRings 107 = .ok (.goto (-64), 3) := by decide +kernel
theorem dX1_strikeRings_110 : decode cX1_strikeRings 110 = .ok (.iload_n 1, 1) := by decide +kernel
theorem dX1_strikeRings_111 : decode cX1_strikeRings 111 = .ok (.ireturn, 1) := by decide +kernel
theorem dX1_strikeTwo_0 : decode cX1_strikeTwo 0 = .ok (.aload_n 0, 1) := by decide +kernel
theorem dX1_strikeTwo_1 : decode cX1_strikeTwo 1 = .ok (.iload_n 1, 1) := by decide +kernel
theorem dX1_strikeTwo_2 : decode cX1_strikeTwo 2 = .ok (.iload_n 2, 1) := by decide +kernel
theorem dX1_strikeTwo_3 : decode cX1_strikeTwo 3 = .ok (.invokevirtual 25, 3) := by decide +kernel
theorem dX1_strikeTwo_6 : decode cX1_strikeTwo 6 = .ok (.aload_n 0, 1) := by decide +kernel
theorem dX1_strikeTwo_7 : decode cX1_strikeTwo 7 = .ok (.iload_n 2, 1) := by decide +kernel
theorem dX1_strikeTwo_8 : decode cX1_strikeTwo 8 = .ok (.iload_n 1, 1) := by decide +kernel
theorem dX1_strikeTwo_9 : decode cX1_strikeTwo 9 = .ok (.invokevirtual 25, 3) := by decide +kernel
theorem dX1_strikeTwo_12 : decode cX1_strikeTwo 12 = .ok (.invokestatic 36, 3) := by decide +kernel
theorem dX1_strikeTwo_15 : decode cX1_strikeTwo 15 = .ok (.istore_n 3, 1) := by decide +kernel
theorem dX1_strikeTwo_16 : decode cX1_strikeTwo 16 = .ok (.aload_n 0, 1) := by decide +kernel
theorem dX1_strikeTwo_17 : decode cX1_strikeTwo 17 = .ok (.iload_n 1, 1) := by decide +kernel
theorem dX1_strikeTwo_18 : decode cX1_strikeTwo 18 = .ok (.iload_n 2, 1) := by decide +kernel
theorem dX1_strikeTwo_19 : decode cX1_strikeTwo 19 = .ok (.aload_n 0, 1) := by decide +kernel
theorem dX1_strikeTwo_20 : decode cX1_strikeTwo 20 = .ok (.iload_n 1, 1) := by decide +kernel
theorem dX1_strikeTwo_21 : decode cX1_strikeTwo 21 = .ok (.iload_n 2, 1) := by decide +kernel
theorem dX1_strikeTwo_22 : decode cX1_strikeTwo 22 = .ok (.invokevirtual 25, 3) := by decide +kernel
theorem dX1_strikeTwo_25 : decode cX1_strikeTwo 25 = .ok (.iload_n 3, 1) := by decide +kernel
theorem dX1_strikeTwo_26 : decode cX1_strikeTwo 26 = .ok (.isub, 1) := by decide +kernel
theorem dX1_strikeTwo_27 : decode cX1_strikeTwo 27 = .ok (.invokevirtual 41, 3) := by decide +kernel
theorem dX1_strikeTwo_30 : decode cX1_strikeTwo 30 = .ok (.aload_n 0, 1) := by decide +kernel
theorem dX1_strikeTwo_31 : decode cX1_strikeTwo 31 = .ok (.iload_n 2, 1) := by decide +kernel
theorem dX1_strikeTwo_32 : decode cX1_strikeTwo 32 = .ok (.iload_n 1, 1) := by decide +kernel
theorem dX1_strikeTwo_33 : decode cX1_strikeTwo 33 = .ok (.aload_n 0, 1) := by decide +kernel
theorem dX1_strikeTwo_34 : decode cX1_strikeTwo 34 = .ok (.iload_n 2, 1) := by decide +kernel
theorem dX1_strikeTwo_35 : decode cX1_strikeTwo 35 = .ok (.iload_n 1, 1) := by decide +kernel
theorem dX1_strikeTwo_36 : decode cX1_strikeTwo 36 = .ok (.invokevirtual 25, 3) := by decide +kernel
theorem dX1_strikeTwo_39 : decode cX1_strikeTwo 39 = .ok (.iload_n 3, 1) := by decide +kernel
theorem dX1_strikeTwo_40 : decode cX1_strikeTwo 40 = .ok (.isub, 1) := by decide +kernel
theorem dX1_strikeTwo_41 : decode cX1_strikeTwo 41 = .ok (.invokevirtual 41, 3) := by decide +kernel
theorem dX1_strikeTwo_44 : decode cX1_strikeTwo 44 = .ok (.iload_n 3, 1) := by decide +kernel
theorem dX1_strikeTwo_45 : decode cX1_strikeTwo 45 = .ok (.ifCond .le 7, 3) := by decide +kernel
theorem dX1_strikeTwo_48 : decode cX1_strikeTwo 48 = .ok (.iconst 1, 1) := by decide +kernel
theorem dX1_strikeTwo_49 : decode cX1_strikeTwo 49 = .ok (.goto 4, 3) := by decide +kernel
theorem dX1_strikeTwo_52 : decode cX1_strikeTwo 52 = .ok (.iconst 0, 1) := by decide +kernel
theorem dX1_strikeTwo_53 : decode cX1_strikeTwo 53 = .ok (.ireturn, 1) := by decide +kernel
theorem dX1_strikeThree_0 : decode cX1_strikeThree 0 = .ok (.aload_n 0, 1) := by decide +kernel
theorem dX1_strikeThree_1 : decode cX1_strikeThree 1 = .ok (.iload_n 1, 1) := by decide +kernel
theorem dX1_strikeThree_2 : decode cX1_strikeThree 2 = .ok (.iload_n 2, 1) := by decide +kernel
theorem dX1_strikeThree_3 : decode cX1_strikeThree 3 = .ok (.invokevirtual 25, 3) := by decide +kernel
theorem dX1_strikeThree_6 : decode cX1_strikeThree 6 = .ok (.aload_n 0, 1) := by decide +kernel
theorem dX1_strikeThree_7 : decode cX1_strikeThree 7 = .ok (.iload_n 2, 1) := by decide +kernel
theorem dX1_strikeThree_8 : decode cX1_strikeThree 8 = .ok (.iload_n 3, 1) := by decide +kernel
theorem dX1_strikeThree_9 : decode cX1_strikeThree 9 = .ok (.invokevirtual 25, 3) := by decide +kernel
theorem dX1_strikeThree_12 : decode cX1_strikeThree 12 = .ok (.aload_n 0, 1) := by decide +kernel
theorem dX1_strikeThree_13 : decode cX1_strikeThree 13 = .ok (.iload_n 3, 1) := by decide +kernel
theorem dX1_strikeThree_14 : decode cX1_strikeThree 14 = .ok (.iload_n 1, 1) := by decide +kernel
theorem dX1_strikeThree_15 : decode cX1_strikeThree 15 = .ok (.invokevirtual 25, 3) := by decide +kernel
theorem dX1_strikeThree_18 : decode cX1_strikeThree 18 = .ok (.invokestatic 36, 3) := by decide +kernel
theorem dX1_strikeThree_21 : decode cX1_strikeThree 21 = .ok (.invokestatic 36, 3) := by decide +kernel
theorem dX1_strikeThree_24 : decode cX1_strikeThree 24 = .ok (.istore 4, 2) := by decide +kernel
theorem dX1_strikeThree_26 : decode cX1_strikeThree 26 = .ok (.aload_n 0, 1) := by decide +kernel
theorem dX1_strikeThree_27 : decode cX1_strikeThree 27 = .ok (.iload_n 1, 1) := by decide +kernel
theorem dX1_strikeThree_28 : decode cX1_strikeThree 28 = .ok (.iload_n 2, 1) := by decide +kernel
theorem dX1_strikeThree_29 : decode cX1_strikeThree 29 = .ok (.aload_n 0, 1) := by decide +kernel
theorem dX1_strikeThree_30 : decode cX1_strikeThree 30 = .ok (.iload_n 1, 1) := by decide +kernel
theorem dX1_strikeThree_31 : decode cX1_strikeThree 31 = .ok (.iload_n 2, 1) := by decide +kernel
theorem dX1_strikeThree_32 : decode cX1_strikeThree 32 = .ok (.invokevirtual 25, 3) := by decide +kernel
theorem dX1_strikeThree_35 : decode cX1_strikeThree 35 = .ok (.iload 4, 2) := by decide +kernel
theorem dX1_strikeThree_37 : decode cX1_strikeThree 37 = .ok (.isub, 1) := by decide +kernel
theorem dX1_strikeThree_38 : decode cX1_strikeThree 38 = .ok (.invokevirtual 41, 3) := by decide +kernel
theorem dX1_strikeThree_41 : decode cX1_strikeThree 41 = .ok (.aload_n 0, 1) := by decide +kernel
theorem dX1_strikeThree_42 : decode cX1_strikeThree 42 = .ok (.iload_n 2, 1) := by decide +kernel
theorem dX1_strikeThree_43 : decode cX1_strikeThree 43 = .ok (.iload_n 3, 1) := by decide +kernel
theorem dX1_strikeThree_44 : decode cX1_strikeThree 44 = .ok (.aload_n 0, 1) := by decide +kernel
theorem dX1_strikeThree_45 : decode cX1_strikeThree 45 = .ok (.iload_n 2, 1) := by decide +kernel
theorem dX1_strikeThree_46 : decode cX1_strikeThree 46 = .ok (.iload_n 3, 1) := by decide +kernel
theorem dX1_strikeThree_47 : decode cX1_strikeThree 47 = .ok (.invokevirtual 25, 3) := by decide +kernel
theorem dX1_strikeThree_50 : decode cX1_strikeThree 50 = .ok (.iload 4, 2) := by decide +kernel
theorem dX1_strikeThree_52 : decode cX1_strikeThree 52 = .ok (.isub, 1) := by decide +kernel
theorem dX1_strikeThree_53 : decode cX1_strikeThree 53 = .ok (.invokevirtual 41, 3) := by decide +kernel
theorem dX1_strikeThree_56 : decode cX1_strikeThree 56 = .ok (.aload_n 0, 1) := by decide +kernel
theorem dX1_strikeThree_57 : decode cX1_strikeThree 57 = .ok (.iload_n 3, 1) := by decide +kernel
theorem dX1_strikeThree_58 : decode cX1_strikeThree 58 = .ok (.iload_n 1, 1) := by decide +kernel
theorem dX1_strikeThree_59 : decode cX1_strikeThree 59 = .ok (.aload_n 0, 1) := by decide +kernel
theorem dX1_strikeThree_60 : decode cX1_strikeThree 60 = .ok (.iload_n 3, 1) := by decide +kernel
theorem dX1_strikeThree_61 : decode cX1_strikeThree 61 = .ok (.iload_n 1, 1) := by decide +kernel
theorem dX1_strikeThree_62 : decode cX1_strikeThree 62 = .ok (.invokevirtual 25, 3) := by decide +kernel
theorem dX1_strikeThree_65 : decode cX1_strikeThree 65 = .ok (.iload 4, 2) := by decide +kernel
theorem dX1_strikeThree_67 : decode cX1_strikeThree 67 = .ok (.isub, 1) := by decide +kernel
theorem dX1_strikeThree_68 : decode cX1_strikeThree 68 = .ok (.invokevirtual 41, 3) := by decide +kernel
theorem dX1_strikeThree_71 : decode cX1_strikeThree 71 = .ok (.iload 4, 2) := by decide +kernel
theorem dX1_strikeThree_73 : decode cX1_strikeThree 73 = .ok (.ifCond .le 7, 3) := by decide +kernel
theorem dX1_strikeThree_76 : decode cX1_strikeThree 76 = .ok (.iconst 1, 1) := by decide +kernel
theorem dX1_strikeThree_77 : decode cX1_strikeThree 77 = .ok (.goto 4, 3) := by decide +kernel
theorem dX1_strikeThree_80 : decode cX1_strikeThree 80 = .ok (.iconst 0, 1) := by decide +kernel
theorem dX1_strikeThree_81 : decode cX1_strikeThree 81 = .ok (.ireturn, 1) := by decide +kernel
theorem dX2_init_0 : decode cX2_init 0 = .ok (.aload_n 0, 1) := by decide +kernel
theorem dX2_init_1 : decode cX2_init 1 = .ok (.iload_n 1, 1) := by decide +kernel
theorem dX2_init_2 : decode cX2_init 2 = .ok (.iload_n 2, 1) := by decide +kernel
theorem dX2_init_3 : decode cX2_init 3 = .ok (.iload_n 3, 1) := by decide +kernel
theorem dX2_init_4 : decode cX2_init 4 = .ok (.iload 4, 2) := by decide +kernel
theorem dX2_init_6 : decode cX2_init 6 = .ok (.iload 5, 2) := by decide +kernel
theorem dX2_init_8 : decode cX2_init 8 = .ok (.iload 6, 2) := by decide +kernel
theorem dX2_init_10 : decode cX2_init 10 = .ok (.invokespecial 1, 3) := by decide +kernel
theorem dX2_init_13 : decode cX2_init 13 = .ok (.return_, 1) := by decide +kernel
theorem dX2_kind_0 : decode cX2_kind 0 = .ok (.iconst 5, 1) := by decide +kernel
theorem dX2_kind_1 : decode cX2_kind 1 = .ok (.ireturn, 1) := by decide +kernel
theorem dX2_buysAt_0 : decode cX2_buysAt 0 = .ok (.aload_n 0, 1) := by decide +kernel
theorem dX2_buysAt_1 : decode cX2_buysAt 1 = .ok (.getfield 7, 3) := by decide +kernel
theorem dX2_buysAt_4 : decode cX2_buysAt 4 = .ok (.iconst 2, 1) := by decide +kernel
theorem dX2_buysAt_5 : decode cX2_buysAt 5 = .ok (.aload_n 0, 1) := by decide +kernel
theorem dX2_buysAt_6 : decode cX2_buysAt 6 = .ok (.getfield 13, 3) := by decide +kernel
theorem dX2_buysAt_9 : decode cX2_buysAt 9 = .ok (.imul, 1) := by decide +kernel
theorem dX2_buysAt_10 : decode cX2_buysAt 10 = .ok (.isub, 1) := by decide +kernel
theorem dX2_buysAt_11 : decode cX2_buysAt 11 = .ok (.ireturn, 1) := by decide +kernel
theorem dX3_init_0 : decode cX3_init 0 = .ok (.aload_n 0, 1) := by decide +kernel
theorem dX3_init_1 : decode cX3_init 1 = .ok (.iload_n 1, 1) := by decide +kernel
theorem dX3_init_2 : decode cX3_init 2 = .ok (.iload_n 2, 1) := by decide +kernel
theorem dX3_init_3 : decode cX3_init 3 = .ok (.iload_n 3, 1) := by decide +kernel
theorem dX3_init_4 : decode cX3_init 4 = .ok (.iload 4, 2) := by decide +kernel
theorem dX3_init_6 : decode cX3_init 6 = .ok (.iload 5, 2) := by decide +kernel
theorem dX3_init_8 : decode cX3_init 8 = .ok (.iload 6, 2) := by decide +kernel
theorem dX3_init_10 : decode cX3_init 10 = .ok (.invokespecial 3, 3) := by decide +kernel
theorem dX3_init_13 : decode cX3_init 13 = .ok (.return_, 1) := by decide +kernel
theorem dX3_kind_0 : decode cX3_kind 0 = .ok (.iconst 3, 1) := by decide +kernel
theorem dX3_kind_1 : decode cX3_kind 1 = .ok (.ireturn, 1) := by decide +kernel
theorem dX3_buysAt_0 : decode cX3_buysAt 0 = .ok (.sipush 999, 3) := by decide +kernel
theorem dX3_buysAt_3 : decode cX3_buysAt 3 = .ok (.ireturn, 1) := by decide +kernel
theorem dX4_init_0 : decode cX4_init 0 = .ok (.aload_n 0, 1) := by decide +kernel
theorem dX4_init_1 : decode cX4_init 1 = .ok (.invokespecial 1, 3) := by decide +kernel
theorem dX4_init_4 : decode cX4_init 4 = .ok (.aload_n 0, 1) := by decide +kernel
theorem dX4_init_5 : decode cX4_init 5 = .ok (.iload_n 1, 1) := by decide +kernel
theorem dX4_init_6 : decode cX4_init 6 = .ok (.putfield 7, 3) := by decide +kernel
theorem dX4_init_9 : decode cX4_init 9 = .ok (.aload_n 0, 1) := by decide +kernel
theorem dX4_init_10 : decode cX4_init 10 = .ok (.iload_n 2, 1) := by decide +kernel
theorem dX4_init_11 : decode cX4_init 11 = .ok (.putfield 13, 3) := by decide +kernel
theorem dX4_init_14 : decode cX4_init 14 = .ok (.aload_n 0, 1) := by decide +kernel
theorem dX4_init_15 : decode cX4_init 15 = .ok (.iload_n 3, 1) := by decide +kernel
theorem dX4_init_16 : decode cX4_init 16 = .ok (.putfield 16, 3) := by decide +kernel
theorem dX4_init_19 : decode cX4_init 19 = .ok (.aload_n 0, 1) := by decide +kernel
theorem dX4_init_20 : decode cX4_init 20 = .ok (.iload 4, 2) := by decide +kernel
theorem dX4_init_22 : decode cX4_init 22 = .ok (.putfield 19, 3) := by decide +kernel
theorem dX4_init_25 : decode cX4_init 25 = .ok (.aload_n 0, 1) := by decide +kernel
theorem dX4_init_26 : decode cX4_init 26 = .ok (.iload 5, 2) := by decide +kernel
theorem dX4_init_28 : decode cX4_init 28 = .ok (.putfield 22, 3) := by decide +kernel
theorem dX4_init_31 : decode cX4_init 31 = .ok (.aload_n 0, 1) := by decide +kernel
theorem dX4_init_32 : decode cX4_init 32 = .ok (.iload 6, 2) := by decide +kernel
theorem dX4_init_34 : decode cX4_init 34 = .ok (.putfield 25, 3) := by decide +kernel
theorem dX4_init_37 : decode cX4_init 37 = .ok (.return_, 1) := by decide +kernel
theorem dX4_kind_0 : decode cX4_kind 0 = .ok (.iconst 0, 1) := by decide +kernel
theorem dX4_kind_1 : decode cX4_kind 1 = .ok (.ireturn, 1) := by decide +kernel
theorem dX4_sellsAt_0 : decode cX4_sellsAt 0 = .ok (.aload_n 0, 1) := by decide +kernel
theorem dX4_sellsAt_1 : decode cX4_sellsAt 1 = .ok (.getfield 13, 3) := by decide +kernel
theorem dX4_sellsAt_4 : decode cX4_sellsAt 4 = .ok (.ireturn, 1) := by decide +kernel
theorem dX4_buysAt_0 : decode cX4_buysAt 0 = .ok (.aload_n 0, 1) := by decide +kernel
theorem dX4_buysAt_1 : decode cX4_buysAt 1 = .ok (.getfield 13, 3) := by decide +kernel
theorem dX4_buysAt_4 : decode cX4_buysAt 4 = .ok (.ireturn, 1) := by decide +kernel
theorem dX4_wantsSome_0 : decode cX4_wantsSome 0 = .ok (.aload_n 0, 1) := by decide +kernel
theorem dX4_wantsSome_1 : decode cX4_wantsSome 1 = .ok (.getfield 25, 3) := by decide +kernel
theorem dX4_wantsSome_4 : decode cX4_wantsSome 4 = .ok (.ifCond .le 15, 3) := by decide +kernel
theorem dX4_wantsSome_7 : decode cX4_wantsSome 7 = .ok (.aload_n 0, 1) := by decide +kernel
theorem dX4_wantsSome_8 : decode cX4_wantsSome 8 = .ok (.getfield 22, 3) := by decide +kernel
theorem dX4_wantsSome_11 : decode cX4_wantsSome 11 = .ok (.iload_n 1, 1) := by decide +kernel
theorem dX4_wantsSome_12 : decode cX4_wantsSome 12 = .ok (.if_icmp .ne 7, 3) := by decide +kernel
theorem dX4_wantsSome_15 : decode cX4_wantsSome 15 = .ok (.iconst 1, 1) := by decide +kernel
theorem dX4_wantsSome_16 : decode cX4_wantsSome 16 = .ok (.goto 4, 3) := by decide +kernel
theorem dX4_wantsSome_19 : decode cX4_wantsSome 19 = .ok (.iconst 0, 1) := by decide +kernel
theorem dX4_wantsSome_20 : decode cX4_wantsSome 20 = .ok (.ireturn, 1) := by decide +kernel
theorem dX5_init_0 : decode cX5_init 0 = .ok (.aload_n 0, 1) := by decide +kernel
theorem dX5_init_1 : decode cX5_init 1 = .ok (.iload_n 1, 1) := by decide +kernel
theorem dX5_init_2 : decode cX5_init 2 = .ok (.iload_n 2, 1) := by decide +kernel
theorem dX5_init_3 : decode cX5_init 3 = .ok (.iload_n 3, 1) := by decide +kernel
theorem dX5_init_4 : decode cX5_init 4 = .ok (.iload 4, 2) := by decide +kernel
theorem dX5_init_6 : decode cX5_init 6 = .ok (.iload 5, 2) := by decide +kernel
theorem dX5_init_8 : decode cX5_init 8 = .ok (.iload 6, 2) := by decide +kernel
theorem dX5_init_10 : decode cX5_init 10 = .ok (.invokespecial 1, 3) := by decide +kernel
theorem dX5_init_13 : decode cX5_init 13 = .ok (.return_, 1) := by decide +kernel
theorem dX5_kind_0 : decode cX5_kind 0 = .ok (.iconst 2, 1) := by decide +kernel
theorem dX5_kind_1 : decode cX5_kind 1 = .ok (.ireturn, 1) := by decide +kernel
theorem dX5_sellsAt_0 : decode cX5_sellsAt 0 = .ok (.aload_n 0, 1) := by decide +kernel
theorem dX5_sellsAt_1 : decode cX5_sellsAt 1 = .ok (.getfield 7, 3) := by decide +kernel
theorem dX5_sellsAt_4 : decode cX5_sellsAt 4 = .ok (.aload_n 0, 1) := by decide +kernel
theorem dX5_sellsAt_5 : decode cX5_sellsAt 5 = .ok (.getfield 13, 3) := by decide +kernel
theorem dX5_sellsAt_8 : decode cX5_sellsAt 8 = .ok (.iadd, 1) := by decide +kernel
theorem dX5_sellsAt_9 : decode cX5_sellsAt 9 = .ok (.ireturn, 1) := by decide +kernel
theorem dX6_init_0 : decode cX6_init 0 = .ok (.aload_n 0, 1) := by decide +kernel
theorem dX6_init_1 : decode cX6_init 1 = .ok (.invokespecial 3, 3) := by decide +kernel
theorem dX6_init_4 : decode cX6_init 4 = .ok (.aload_n 0, 1) := by decide +kernel
theorem dX6_init_5 : decode cX6_init 5 = .ok (.bipush 6, 2) := by decide +kernel
theorem dX6_init_7 : decode cX6_init 7 = .ok (.anewarray 9, 3) := by decide +kernel
theorem dX6_init_10 : decode cX6_init 10 = .ok (.putfield 11, 3) := by decide +kernel
theorem dX6_init_13 : decode cX6_init 13 = .ok (.aload_n 0, 1) := by decide +kernel
theorem dX6_init_14 : decode cX6_init 14 = .ok (.bipush 6, 2) := by decide +kernel
theorem dX6_init_16 : decode cX6_init 16 = .ok (.newarray .int, 2) := by decide +kernel
theorem dX6_init_18 : decode cX6_init 18 = .ok (.putfield 17, 3) := by decide +kernel
theorem dX6_init_21 : decode cX6_init 21 = .ok (.aload_n 0, 1) := by decide +kernel
theorem dX6_init_22 : decode cX6_init 22 = .ok (.bipush 18, 2) := by decide +kernel
theorem dX6_init_24 : decode cX6_init 24 = .ok (.newarray .int, 2) := by decide +kernel
theorem dX6_init_26 : decode cX6_init 26 = .ok (.putfield 21, 3) := by decide +kernel
theorem dX6_init_29 : decode cX6_init 29 = .ok (.aload_n 0, 1) := by decide +kernel
theorem dX6_init_30 : decode cX6_init 30 = .ok (.iconst 3, 1) := by decide +kernel
theorem dX6_init_31 : decode cX6_init 31 = .ok (.newarray .int, 2) := by decide +kernel
theorem dX6_init_33 : decode cX6_init 33 = .ok (.putfield 24, 3) := by decide +kernel
theorem dX6_init_36 : decode cX6_init 36 = .ok (.aload_n 0, 1) := by decide +kernel
theorem dX6_init_37 : decode cX6_init 37 = .ok (.new 27, 3) := by decide +kernel
theorem dX6_init_40 : decode cX6_init 40 = .ok (.dup, 1) := by decide +kernel
theorem dX6_init_41 : decode cX6_init 41 = .ok (.invokespecial 29, 3) := by decide +kernel
theorem dX6_init_44 : decode cX6_init 44 = .ok (.putfield 30, 3) := by decide +kernel
theorem dX6_init_47 : decode cX6_init 47 = .ok (.new 9, 3) := by decide +kernel
theorem dX6_init_50 : decode cX6_init 50 = .ok (.dup, 1) := by decide +kernel
theorem dX6_init_51 : decode cX6_init 51 = .ok (.iconst 0, 1) := by decide +kernel
theorem dX6_init_52 : decode cX6_init 52 = .ok (.iconst 0, 1) := by decide +kernel
theorem dX6_init_53 : decode cX6_init 53 = .ok (.iconst 0, 1) := by decide +kernel
theorem dX6_init_54 : decode cX6_init 54 = .ok (.iconst 0, 1) := by decide +kernel
theorem dX6_init_55 : decode cX6_init 55 = .ok (.iconst 0, 1) := by decide +kernel
theorem dX6_init_56 : decode cX6_init 56 = .ok (.iconst 0, 1) := by decide +kernel
theorem dX6_init_57 : decode cX6_init 57 = .ok (.invokespecial 34, 3) := by decide +kernel
theorem dX6_init_60 : decode cX6_init 60 = .ok (.astore_n 1, 1) := by decide +kernel
theorem dX6_init_61 : decode cX6_init 61 = .ok (.iconst 0, 1) := by decide +kernel
theorem dX6_init_62 : decode cX6_init 62 = .ok (.istore_n 2, 1) := by decide +kernel
theorem dX6_init_63 : decode cX6_init 63 = .ok (.iload_n 2, 1) := by decide +kernel
theorem dX6_init_64 : decode cX6_init 64 = .ok (.aload_n 0, 1) := by decide +kernel
theorem dX6_init_65 : decode cX6_init 65 = .ok (.getfield 11, 3) := by decide +kernel
theorem dX6_init_68 : decode cX6_init 68 = .ok (.arraylength, 1) := by decide +kernel
theorem dX6_init_69 : decode cX6_init 69 = .ok (.if_icmp .ge 16, 3) := by decide +kernel
theorem dX6_init_72 : decode cX6_init 72 = .ok (.aload_n 0, 1) := by decide +kernel
theorem dX6_init_73 : decode cX6_init 73 = .ok (.getfield 11, 3) := by decide +kernel
theorem dX6_init_76 : decode cX6_init 76 = .ok (.iload_n 2, 1) := by decide +kernel
theorem dX6_init_77 : decode cX6_init 77 = .ok (.aload_n 1, 1) := by decide +kernel
theorem dX6_init_78 : decode cX6_init 78 = .ok (.aastore, 1) := by decide +kernel
theorem dX6_init_79 : decode cX6_init 79 = .ok (.iinc 2 1, 3) := by decide +kernel
theorem dX6_init_82 : decode cX6_init 82 = .ok (.goto (-19), 3) := by decide +kernel
theorem dX6_init_85 : decode cX6_init 85 = .ok (.iconst 0, 1) := by decide +kernel
theorem dX6_init_86 : decode cX6_init 86 = .ok (.istore_n 2, 1) := by decide +kernel
theorem dX6_init_87 : decode cX6_init 87 = .ok (.iload_n 2, 1) := by decide +kernel
theorem dX6_init_88 : decode cX6_init 88 = .ok (.aload_n 0, 1) := by decide +kernel
theorem dX6_init_89 : decode cX6_init 89 = .ok (.getfield 24, 3) := by decide +kernel
theorem dX6_init_92 : decode cX6_init 92 = .ok (.arraylength, 1) := by decide +kernel
theorem dX6_init_93 : decode cX6_init 93 = .ok (.if_icmp .ge 16, 3) := by decide +kernel
theorem dX6_init_96 : decode cX6_init 96 = .ok (.aload_n 0, 1) := by decide +kernel
theorem dX6_init_97 : decode cX6_init 97 = .ok (.getfield 24, 3) := by decide +kernel
theorem dX6_init_100 : decode cX6_init 100 = .ok (.iload_n 2, 1) := by decide +kernel
theorem dX6_init_101 : decode cX6_init 101 = .ok (.iconst 1, 1) := by decide +kernel
theorem dX6_init_102 : decode cX6_init 102 = .ok (.iastore, 1) := by decide +kernel
theorem dX6_init_103 : decode cX6_init 103 = .ok (.iinc 2 1, 3) := by decide +kernel
theorem dX6_init_106 : decode cX6_init 106 = .ok (.goto (-19), 3) := by decide +kernel
theorem dX6_init_109 : decode cX6_init 109 = .ok (.return_, 1) := by decide +kernel
theorem dX6_copyFrom_0 : decode cX6_copyFrom 0 = .ok (.iconst 0, 1) := by decide +kernel
theorem dX6_copyFrom_1 : decode cX6_copyFrom 1 = .ok (.istore_n 2, 1) := by decide +kernel
theorem dX6_copyFrom_2 : decode cX6_copyFrom 2 = .ok (.iload_n 2, 1) := by decide +kernel
theorem dX6_copyFrom_3 : decode cX6_copyFrom 3 = .ok (.aload_n 0, 1) := by decide +kernel
theorem dX6_copyFrom_4 : decode cX6_copyFrom 4 = .ok (.getfield 11, 3) := by decide +kernel
theorem dX6_copyFrom_7 : decode cX6_copyFrom 7 = .ok (.arraylength, 1) := by decide +kernel
theorem dX6_copyFrom_8 : decode cX6_copyFrom 8 = .ok (.if_icmp .ge 21, 3) := by decide +kernel
theorem dX6_copyFrom_11 : decode cX6_copyFrom 11 = .ok (.aload_n 0, 1) := by decide +kernel
theorem dX6_copyFrom_12 : decode cX6_copyFrom 12 = .ok (.getfield 11, 3) := by decide +kernel
theorem dX6_copyFrom_15 : decode cX6_copyFrom 15 = .ok (.iload_n 2, 1) := by decide +kernel
theorem dX6_copyFrom_16 : decode cX6_copyFrom 16 = .ok (.aload_n 1, 1) := by decide +kernel
theorem dX6_copyFrom_17 : decode cX6_copyFrom 17 = .ok (.getfield 11, 3) := by decide +kernel
theorem dX6_copyFrom_20 : decode cX6_copyFrom 20 = .ok (.iload_n 2, 1) := by decide +kernel
theorem dX6_copyFrom_21 : decode cX6_copyFrom 21 = .ok (.aaload, 1) := by decide +kernel
theorem dX6_copyFrom_22 : decode cX6_copyFrom 22 = .ok (.aastore, 1) := by decide +kernel
theorem dX6_copyFrom_23 : decode cX6_copyFrom 23 = .ok (.iinc 2 1, 3) := by decide +kernel
theorem dX6_copyFrom_26 : decode cX6_copyFrom 26 = .ok (.goto (-24), 3) := by decide +kernel
theorem dX6_copyFrom_29 : decode cX6_copyFrom 29 = .ok (.aload_n 0, 1) := by decide +kernel
theorem dX6_copyFrom_30 : decode cX6_copyFrom 30 = .ok (.aload_n 1, 1) := by decide +kernel
theorem dX6_copyFrom_31 : decode cX6_copyFrom 31 = .ok (.getfield 37, 3) := by decide +kernel
theorem dX6_copyFrom_34 : decode cX6_copyFrom 34 = .ok (.putfield 37, 3) := by decide +kernel
theorem dX6_copyFrom_37 : decode cX6_copyFrom 37 = .ok (.aload_n 1, 1) := by decide +kernel
theorem dX6_copyFrom_38 : decode cX6_copyFrom 38 = .ok (.getfield 17, 3) := by decide +kernel
theorem dX6_copyFrom_41 : decode cX6_copyFrom 41 = .ok (.iconst 0, 1) := by decide +kernel
theorem dX6_copyFrom_42 : decode cX6_copyFrom 42 = .ok (.aload_n 0, 1) := by decide +kernel
theorem dX6_copyFrom_43 : decode cX6_copyFrom 43 = .ok (.getfield 17, 3) := by decide +kernel
theorem dX6_copyFrom_46 : decode cX6_copyFrom 46 = .ok (.iconst 0, 1) := by decide +kernel
theorem dX6_copyFrom_47 : decode cX6_copyFrom 47 = .ok (.aload_n 0, 1) := by decide +kernel
theorem dX6_copyFrom_48 : decode cX6_copyFrom 48 = .ok (.getfield 17, 3) := by decide +kernel
theorem dX6_copyFrom_51 : decode cX6_copyFrom 51 = .ok (.arraylength, 1) := by decide +kernel
theorem dX6_copyFrom_52 : decode cX6_copyFrom 52 = .ok (.invokestatic 41, 3) := by decide +kernel
theorem dX6_copyFrom_55 : decode cX6_copyFrom 55 = .ok (.aload_n 1, 1) := by decide +kernel
theorem dX6_copyFrom_56 : decode cX6_copyFrom 56 = .ok (.getfield 21, 3) := by decide +kernel
theorem dX6_copyFrom_59 : decode cX6_copyFrom 59 = .ok (.iconst 0, 1) := by decide +kernel
theorem dX6_copyFrom_60 : decode cX6_copyFrom 60 = .ok (.aload_n 0, 1) := by decide +kernel
theorem dX6_copyFrom_61 : decode cX6_copyFrom 61 = .ok (.getfield 21, 3) := by decide +kernel
theorem dX6_copyFrom_64 : decode cX6_copyFrom 64 = .ok (.iconst 0, 1) := by decide +kernel
theorem dX6_copyFrom_65 : decode cX6_copyFrom 65 = .ok (.aload_n 0, 1) := by decide +kernel
theorem dX6_copyFrom_66 : decode cX6_copyFrom 66 = .ok (.getfield 21, 3) := by decide +kernel
theorem dX6_copyFrom_69 : decode cX6_copyFrom 69 = .ok (.arraylength, 1) := by decide +kernel
theorem dX6_copyFrom_70 : decode cX6_copyFrom 70 = .ok (.invokestatic 41, 3) := by decide +kernel
theorem dX6_copyFrom_73 : decode cX6_copyFrom 73 = .ok (.aload_n 1, 1) := by decide +kernel
theorem dX6_copyFrom_74 : decode cX6_copyFrom 74 = .ok (.getfield 24, 3) := by decide +kernel
theorem dX6_copyFrom_77 : decode cX6_copyFrom 77 = .ok (.iconst 0, 1) := by decide +kernel
theorem dX6_copyFrom_78 : decode cX6_copyFrom 78 = .ok (.aload_n 0, 1) := by decide +kernel
theorem dX6_copyFrom_79 : decode cX6_copyFrom 79 = .ok (.getfield 24, 3) := by decide +kernel
theorem dX6_copyFrom_82 : decode cX6_copyFrom 82 = .ok (.iconst 0, 1) := by decide +kernel
theorem dX6_copyFrom_83 : decode cX6_copyFrom 83 = .ok (.aload_n 0, 1) := by decide +kernel
theorem dX6_copyFrom_84 : decode cX6_copyFrom 84 = .ok (.getfield 24, 3) := by decide +kernel
theorem dX6_copyFrom_87 : decode cX6_copyFrom 87 = .ok (.arraylength, 1) := by decide +kernel
theorem dX6_copyFrom_88 : decode cX6_copyFrom 88 = .ok (.invokestatic 41, 3) := by decide +kernel
theorem dX6_copyFrom_91 : decode cX6_copyFrom 91 = .ok (.aload_n 0, 1) := by decide +kernel
theorem dX6_copyFrom_92 : decode cX6_copyFrom 92 = .ok (.getfield 30, 3) := by decide +kernel
theorem dX6_copyFrom_95 : decode cX6_copyFrom 95 = .ok (.aload_n 1, 1) := by decide +kernel
theorem dX6_copyFrom_96 : decode cX6_copyFrom 96 = .ok (.getfield 30, 3) := by decide +kernel
theorem dX6_copyFrom_99 : decode cX6_copyFrom 99 = .ok (.invokevirtual 47, 3) := by decide +kernel
theorem dX6_copyFrom_102 : decode cX6_copyFrom 102 = .ok (.aload_n 0, 1) := by decide +kernel
theorem dX6_copyFrom_103 : decode cX6_copyFrom 103 = .ok (.aload_n 1, 1) := by decide +kernel
theorem dX6_copyFrom_104 : decode cX6_copyFrom 104 = .ok (.getfield 51, 3) := by decide +kernel
theorem dX6_copyFrom_107 : decode cX6_copyFrom 107 = .ok (.putfield 51, 3) := by decide +kernel
theorem dX6_copyFrom_110 : decode cX6_copyFrom 110 = .ok (.aload_n 0, 1) := by decide +kernel
theorem dX6_copyFrom_111 : decode cX6_copyFrom 111 = .ok (.aload_n 1, 1) := by decide +kernel
theorem dX6_copyFrom_112 : decode cX6_copyFrom 112 = .ok (.getfield 54, 3) := by decide +kernel
theorem dX6_copyFrom_115 : decode cX6_copyFrom 115 = .ok (.putfield 54, 3) := by decide +kernel
theorem dX6_copyFrom_118 : decode cX6_copyFrom 118 = .ok (.aload_n 0, 1) := by decide +kernel
theorem dX6_copyFrom_119 : decode cX6_copyFrom 119 = .ok (.aload_n 1, 1) := by decide +kernel
theorem dX6_copyFrom_120 : decode cX6_copyFrom 120 = .ok (.getfield 57, 3) := by decide +kernel
theorem dX6_copyFrom_123 : decode cX6_copyFrom 123 = .ok (.putfield 57, 3) := by decide +kernel
theorem dX6_copyFrom_126 : decode cX6_copyFrom 126 = .ok (.return_, 1) := by decide +kernel
theorem dX6_addHouse_0 : decode cX6_addHouse 0 = .ok (.aload_n 0, 1) := by decide +kernel
theorem dX6_addHouse_1 : decode cX6_addHouse 1 = .ok (.getfield 37, 3) := by decide +kernel
theorem dX6_addHouse_4 : decode cX6_addHouse 4 = .ok (.bipush 6, 2) := by decide +kernel
theorem dX6_addHouse_6 : decode cX6_addHouse 6 = .ok (.if_icmp .lt 5, 3) := by decide +kernel
theorem dX6_addHouse_9 : decode cX6_addHouse 9 = .ok (.iconst 0, 1) := by decide +kernel
theorem dX6_addHouse_10 : decode cX6_addHouse 10 = .ok (.ireturn, 1) := by decide +kernel
theorem dX6_addHouse_11 : decode cX6_addHouse 11 = .ok (.aload_n 0, 1) := by decide +kernel
theorem dX6_addHouse_12 : decode cX6_addHouse 12 = .ok (.getfield 11, 3) := by decide +kernel
theorem dX6_addHouse_15 : decode cX6_addHouse 15 = .ok (.aload_n 0, 1) := by decide +kernel
theorem dX6_addHouse_16 : decode cX6_addHouse 16 = .ok (.getfield 37, 3) := by decide +kernel
theorem dX6_addHouse_19 : decode cX6_addHouse 19 = .ok (.aload_n 1, 1) := by decide +kernel
theorem dX6_addHouse_20 : decode cX6_addHouse 20 = .ok (.aastore, 1) := by decide +kernel
theorem dX6_addHouse_21 : decode cX6_addHouse 21 = .ok (.aload_n 0, 1) := by decide +kernel
theorem dX6_addHouse_22 : decode cX6_addHouse 22 = .ok (.getfield 17, 3) := by decide +kernel
theorem dX6_addHouse_25 : decode cX6_addHouse 25 = .ok (.aload_n 0, 1) := by decide +kernel
theorem dX6_addHouse_26 : decode cX6_addHouse 26 = .ok (.getfield 37, 3) := by decide +kernel
theorem dX6_addHouse_29 : decode cX6_addHouse 29 = .ok (.iload_n 2, 1) := by decide +kernel
theorem dX6_addHouse_30 : decode cX6_addHouse 30 = .ok (.iastore, 1) := by decide +kernel
theorem dX6_addHouse_31 : decode cX6_addHouse 31 = .ok (.aload_n 0, 1) := by decide +kernel
theorem dX6_addHouse_32 : decode cX6_addHouse 32 = .ok (.dup, 1) := by decide +kernel
theorem dX6_addHouse_33 : decode cX6_addHouse 33 = .ok (.getfield 37, 3) := by decide +kernel
theorem dX6_addHouse_36 : decode cX6_addHouse 36 = .ok (.iconst 1, 1) := by decide +kernel
theorem dX6_addHouse_37 : decode cX6_addHouse 37 = .ok (.iadd, 1) := by decide +kernel
theorem dX6_addHouse_38 : decode cX6_addHouse 38 = .ok (.putfield 37, 3) := by decide +kernel
theorem dX6_addHouse_41 : decode cX6_addHouse 41 = .ok (.iconst 1, 1) := by decide +kernel
theorem dX6_addHouse_42 : decode cX6_addHouse 42 = .ok (.ireturn, 1) := by decide +kernel
theorem dX6_hasHouse_0 : decode cX6_hasHouse 0 = .ok (.iload_n 1, 1) := by decide +kernel
theorem dX6_hasHouse_1 : decode cX6_hasHouse 1 = .ok (.ifCond .lt 15, 3) := by decide +kernel
theorem dX6_hasHouse_4 : decode cX6_hasHouse 4 = .ok (.iload_n 1, 1) := by decide +kernel
theorem dX6_hasHouse_5 : decode cX6_hasHouse 5 = .ok (.aload_n 0, 1) := by decide +kernel
theorem dX6_hasHouse_6 : decode cX6_hasHouse 6 = .ok (.getfield 37, 3) := by decide +kernel
theorem dX6_hasHouse_9 : decode cX6_hasHouse 9 = .ok (.if_icmp .ge 7, 3) := by decide +kernel
theorem dX6_hasHouse_12 : decode cX6_hasHouse 12 = .ok (.iconst 1, 1) := by decide +kernel
theorem dX6_hasHouse_13 : decode cX6_hasHouse 13 = .ok (.goto 4, 3) := by decide +kernel
theorem dX6_hasHouse_16 : decode cX6_hasHouse 16 = .ok (.iconst 0, 1) := by decide +kernel
theorem dX6_hasHouse_17 : decode cX6_hasHouse 17 = .ok (.ireturn, 1) := by decide +kernel
theorem dX6_areTwo_0 : decode cX6_areTwo 0 = .ok (.aload_n 0, 1) := by decide +kernel
theorem dX6_areTwo_1 : decode cX6_areTwo 1 = .ok (.iload_n 1, 1) := by decide +kernel
theorem dX6_areTwo_2 : decode cX6_areTwo 2 = .ok (.invokevirtual 60, 3) := by decide +kernel
theorem dX6_areTwo_5 : decode cX6_areTwo 5 = .ok (.ifCond .eq 20, 3) := by decide +kernel
theorem dX6_areTwo_8 : decode cX6_areTwo 8 = .ok (.aload_n 0, 1) := by decide +kernel
theorem dX6_areTwo_9 : decode cX6_areTwo 9 = .ok (.iload_n 2, 1) := by decide +kernel
theorem dX6_areTwo_10 : decode cX6_areTwo 10 = .ok (.invokevirtual 60, 3) := by decide +kernel
theorem dX6_areTwo_13 : decode cX6_areTwo 13 = .ok (.ifCond .eq 12, 3) := by decide +kernel
theorem dX6_areTwo_16 : decode cX6_areTwo 16 = .ok (.iload_n 1, 1) := by decide +kernel
theorem dX6_areTwo_17 : decode cX6_areTwo 17 = .ok (.iload_n 2, 1) := by decide +kernel
theorem dX6_areTwo_18 : decode cX6_areTwo 18 = .ok (.if_icmp .eq 7, 3) := by decide +kernel
theorem dX6_areTwo_21 : decode cX6_areTwo 21 = .ok (.iconst 1, 1) := by decide +kernel
theorem dX6_areTwo_22 : decode cX6_areTwo 22 = .ok (.goto 4, 3) := by decide +kernel
theorem dX6_areTwo_25 : decode cX6_areTwo 25 = .ok (.iconst 0, 1) := by decide +kernel
theorem dX6_areTwo_26 : decode cX6_areTwo 26 = .ok (.ireturn, 1) := by decide +kernel
theorem dX6_piecesOf_0 : decode cX6_piecesOf 0 = .ok (.aload_n 0, 1) := by decide +kernel
theorem dX6_piecesOf_1 : decode cX6_piecesOf 1 = .ok (.getfield 21, 3) := by decide +kernel
theorem dX6_piecesOf_4 : decode cX6_piecesOf 4 = .ok (.iload_n 1, 1) := by decide +kernel
theorem dX6_piecesOf_5 : decode cX6_piecesOf 5 = .ok (.iconst 3, 1) := by decide +kernel
theorem dX6_piecesOf_6 : decode cX6_piecesOf 6 = .ok (.imul, 1) := by decide +kernel
theorem dX6_piecesOf_7 : decode cX6_piecesOf 7 = .ok (.iload_n 2, 1) := by decide +kernel
theorem dX6_piecesOf_8 : decode cX6_piecesOf 8 = .ok (.iadd, 1) := by decide +kernel
theorem dX6_piecesOf_9 : decode cX6_piecesOf 9 = .ok (.iaload, 1) := by decide +kernel
theorem dX6_piecesOf_10 : decode cX6_piecesOf 10 = .ok (.ireturn, 1) := by decide +kernel
theorem dX6_addPieces_0 : decode cX6_addPieces 0 = .ok (.aload_n 0, 1) := by decide +kernel
theorem dX6_addPieces_1 : decode cX6_addPieces 1 = .ok (.getfield 21, 3) := by decide +kernel
theorem dX6_addPieces_4 : decode cX6_addPieces 4 = .ok (.iload_n 1, 1) := by decide +kernel
theorem dX6_addPieces_5 : decode cX6_addPieces 5 = .ok (.iconst 3, 1) := by decide +kernel
theorem dX6_addPieces_6 : decode cX6_addPieces 6 = .ok (.imul, 1) := by decide +kernel
theorem dX6_addPieces_7 : decode cX6_addPieces 7 = .ok (.iload_n 2, 1) := by decide +kernel
theorem dX6_addPieces_8 : decode cX6_addPieces 8 = .ok (.iadd, 1) := by decide +kernel
theorem dX6_addPieces_9 : decode cX6_addPieces 9 = .ok (.dup2, 1) := by decide +kernel
theorem dX6_addPieces_10 : decode cX6_addPieces 10 = .ok (.iaload, 1) := by decide +kernel
theorem dX6_addPieces_11 : decode cX6_addPieces 11 = .ok (.iload_n 3, 1) := by decide +kernel
theorem dX6_addPieces_12 : decode cX6_addPieces 12 = .ok (.iadd, 1) := by decide +kernel
theorem dX6_addPieces_13 : decode cX6_addPieces 13 = .ok (.iastore, 1) := by decide +kernel
theorem dX6_addPieces_14 : decode cX6_addPieces 14 = .ok (.return_, 1) := by decide +kernel
theorem dX6_isLawful_0 : decode cX6_isLawful 0 = .ok (.iload_n 1, 1) := by decide +kernel
theorem dX6_isLawful_1 : decode cX6_isLawful 1 = .ok (.iload_n 2, 1) := by decide +kernel
theorem dX6_isLawful_2 : decode cX6_isLawful 2 = .ok (.if_icmp .ne 5, 3) := by decide +kernel
theorem dX6_isLawful_5 : decode cX6_isLawful 5 = .ok (.iconst 0, 1) := by decide +kernel
theorem dX6_isLawful_6 : decode cX6_isLawful 6 = .ok (.ireturn, 1) := by decide +kernel
theorem dX6_isLawful_7 : decode cX6_isLawful 7 = .ok (.aload_n 0, 1) := by decide +kernel
theorem dX6_isLawful_8 : decode cX6_isLawful 8 = .ok (.getfield 11, 3) := by decide +kernel
theorem dX6_isLawful_11 : decode cX6_isLawful 11 = .ok (.iload_n 2, 1) := by decide +kernel
theorem dX6_isLawful_12 : decode cX6_isLawful 12 = .ok (.aaload, 1) := by decide +kernel
theorem dX6_isLawful_13 : decode cX6_isLawful 13 = .ok (.invokevirtual 64, 3) := by decide +kernel
theorem dX6_isLawful_16 : decode cX6_isLawful 16 = .ok (.istore_n 3, 1) := by decide +kernel
theorem dX6_isLawful_17 : decode cX6_isLawful 17 = .ok (.aload_n 0, 1) := by decide +kernel
theorem dX6_isLawful_18 : decode cX6_isLawful 18 = .ok (.getfield 11, 3) := by decide +kernel
theorem dX6_isLawful_21 : decode cX6_isLawful 21 = .ok (.iload_n 1, 1) := by decide +kernel
theorem dX6_isLawful_22 : decode cX6_isLawful 22 = .ok (.aaload, 1) := by decide +kernel
theorem dX6_isLawful_23 : decode cX6_isLawful 23 = .ok (.invokevirtual 68, 3) := by decide +kernel
theorem dX6_isLawful_26 : decode cX6_isLawful 26 = .ok (.istore 4, 2) := by decide +kernel
theorem dX6_isLawful_28 : decode cX6_isLawful 28 = .ok (.aload_n 0, 1) := by decide +kernel
theorem dX6_isLawful_29 : decode cX6_isLawful 29 = .ok (.getfield 51, 3) := by decide +kernel
theorem dX6_isLawful_32 : decode cX6_isLawful 32 = .ok (.lookupswitch 52 #[(0, 28), (1, 40)], 28) := by decide +kernel
theorem dX6_isLawful_60 : decode cX6_isLawful 60 = .ok (.iload_n 3, 1) := by decide +kernel
theorem dX6_isLawful_61 : decode cX6_isLawful 61 = .ok (.iload 4, 2) := by decide +kernel
theorem dX6_isLawful_63 : decode cX6_isLawful 63 = .ok (.if_icmp .ge 7, 3) := by decide +kernel
theorem dX6_isLawful_66 : decode cX6_isLawful 66 = .ok (.iconst 1, 1) := by decide +kernel
theorem dX6_isLawful_67 : decode cX6_isLawful 67 = .ok (.goto 4, 3) := by decide +kernel
theorem dX6_isLawful_70 : decode cX6_isLawful 70 = .ok (.iconst 0, 1) := by decide +kernel
theorem dX6_isLawful_71 : decode cX6_isLawful 71 = .ok (.ireturn, 1) := by decide +kernel
theorem dX6_isLawful_72 : decode cX6_isLawful 72 = .ok (.iload_n 3, 1) := by decide +kernel
theorem dX6_isLawful_73 : decode cX6_isLawful 73 = .ok (.iload 4, 2) := by decide +kernel
theorem dX6_isLawful_75 : decode cX6_isLawful 75 = .ok (.if_icmp .le 7, 3) := by decide +kernel
theorem dX6_isLawful_78 : decode cX6_isLawful 78 = .ok (.iconst 1, 1) := by decide +kernel
theorem dX6_isLawful_79 : decode cX6_isLawful 79 = .ok (.goto 4, 3) := by decide +kernel
theorem dX6_isLawful_82 : decode cX6_isLawful 82 = .ok (.iconst 0, 1) := by decide +kernel
theorem dX6_isLawful_83 : decode cX6_isLawful 83 = .ok (.ireturn, 1) := by decide +kernel
theorem dX6_isLawful_84 : decode cX6_isLawful 84 = .ok (.iconst 1, 1) := by decide +kernel
theorem dX6_isLawful_85 : decode cX6_isLawful 85 = .ok (.ireturn, 1) := by decide +kernel
theorem dX6_hasMeans_0 : decode cX6_hasMeans 0 = .ok (.aload_n 0, 1) := by decide +kernel
theorem dX6_hasMeans_1 : decode cX6_hasMeans 1 = .ok (.iload_n 1, 1) := by decide +kernel
theorem dX6_hasMeans_2 : decode cX6_hasMeans 2 = .ok (.iload_n 3, 1) := by decide +kernel
theorem dX6_hasMeans_3 : decode cX6_hasMeans 3 = .ok (.invokevirtual 71, 3) := by decide +kernel
theorem dX6_hasMeans_6 : decode cX6_hasMeans 6 = .ok (.ifCond .le 52, 3) := by decide +kernel
theorem dX6_hasMeans_9 : decode cX6_hasMeans 9 = .ok (.aload_n 0, 1) := by decide +kernel
theorem dX6_hasMeans_10 : decode cX6_hasMeans 10 = .ok (.getfield 17, 3) := by decide +kernel
theorem dX6_hasMeans_13 : decode cX6_hasMeans 13 = .ok (.iload_n 2, 1) := by decide +kernel
theorem dX6_hasMeans_14 : decode cX6_hasMeans 14 = .ok (.iaload, 1) := by decide +kernel
theorem dX6_hasMeans_15 : decode cX6_hasMeans 15 = .ok (.aload_n 0, 1) := by decide +kernel
theorem dX6_hasMeans_16 : decode cX6_hasMeans 16 = .ok (.getfield 24, 3) := by decide +kernel
theorem dX6_hasMeans_19 : decode cX6_hasMeans 19 = .ok (.iload_n 3, 1) := by decide +kernel
theorem dX6_hasMeans_20 : decode cX6_hasMeans 20 = .ok (.iaload, 1) := by decide +kernel
theorem dX6_hasMeans_21 : decode cX6_hasMeans 21 = .ok (.if_icmp .lt 37, 3) := by decide +kernel
theorem dX6_hasMeans_24 : decode cX6_hasMeans 24 = .ok (.aload_n 0, 1) := by decide +kernel
theorem dX6_hasMeans_25 : decode cX6_hasMeans 25 = .ok (.iload_n 2, 1) := by decide +kernel
theorem dX6_hasMeans_26 : decode cX6_hasMeans 26 = .ok (.iload_n 3, 1) := by decide +kernel
theorem dX6_hasMeans_27 : decode cX6_hasMeans 27 = .ok (.invokevirtual 71, 3) := by decide +kernel
theorem dX6_hasMeans_30 : decode cX6_hasMeans 30 = .ok (.bipush 99, 2) := by decide +kernel
theorem dX6_hasMeans_32 : decode cX6_hasMeans 32 = .ok (.if_icmp .ge 26, 3) := by decide +kernel
theorem dX6_hasMeans_35 : decode cX6_hasMeans 35 = .ok (.aload_n 0, 1) := by decide +kernel
theorem dX6_hasMeans_36 : decode cX6_hasMeans 36 = .ok (.getfield 17, 3) := by decide +kernel
theorem dX6_hasMeans_39 : decode cX6_hasMeans 39 = .ok (.iload_n 1, 1) := by decide +kernel
theorem dX6_hasMeans_40 : decode cX6_hasMeans 40 = .ok (.iaload, 1) := by decide +kernel
theorem dX6_hasMeans_41 : decode cX6_hasMeans 41 = .ok (.aload_n 0, 1) := by decide +kernel
theorem dX6_hasMeans_42 : decode cX6_hasMeans 42 = .ok (.getfield 24, 3) := by decide +kernel
theorem dX6_hasMeans_45 : decode cX6_hasMeans 45 = .ok (.iload_n 3, 1) := by decide +kernel
theorem dX6_hasMeans_46 : decode cX6_hasMeans 46 = .ok (.iaload, 1) := by decide +kernel
theorem dX6_hasMeans_47 : decode cX6_hasMeans 47 = .ok (.iadd, 1) := by decide +kernel
theorem dX6_hasMeans_48 : decode cX6_hasMeans 48 = .ok (.sipush 9999, 3) := by decide +kernel
theorem dX6_hasMeans_51 : decode cX6_hasMeans 51 = .ok (.if_icmp .gt 7, 3) := by decide +kernel
theorem dX6_hasMeans_54 : decode cX6_hasMeans 54 = .ok (.iconst 1, 1) := by decide +kernel
theorem dX6_hasMeans_55 : decode cX6_hasMeans 55 = .ok (.goto 4, 3) := by decide +kernel
theorem dX6_hasMeans_58 : decode cX6_hasMeans 58 = .ok (.iconst 0, 1) := by decide +kernel
theorem dX6_hasMeans_59 : decode cX6_hasMeans 59 = .ok (.ireturn, 1) := by decide +kernel
theorem dX6_moveOnePiece_0 : decode cX6_moveOnePiece 0 = .ok (.aload_n 0, 1) := by decide +kernel
theorem dX6_moveOnePiece_1 : decode cX6_moveOnePiece 1 = .ok (.iload_n 1, 1) := by decide +kernel
theorem dX6_moveOnePiece_2 : decode cX6_moveOnePiece 2 = .ok (.iload_n 3, 1) := by decide +kernel
theorem dX6_moveOnePiece_3 : decode cX6_moveOnePiece 3 = .ok (.iconst (-1), 1) := by decide +kernel
theorem dX6_moveOnePiece_4 : decode cX6_moveOnePiece 4 = .ok (.invokevirtual 75, 3) := by decide +kernel
theorem dX6_moveOnePiece_7 : decode cX6_moveOnePiece 7 = .ok (.aload_n 0, 1) := by decide +kernel
theorem dX6_moveOnePiece_8 : decode cX6_moveOnePiece 8 = .ok (.iload_n 2, 1) := by decide +kernel
theorem dX6_moveOnePiece_9 : decode cX6_moveOnePiece 9 = .ok (.iload_n 3, 1) := by decide +kernel
theorem dX6_moveOnePiece_10 : decode cX6_moveOnePiece 10 = .ok (.iconst 1, 1) := by decide +kernel
theorem dX6_moveOnePiece_11 : decode cX6_moveOnePiece 11 = .ok (.invokevirtual 75, 3) := by decide +kernel
theorem dX6_moveOnePiece_14 : decode cX6_moveOnePiece 14 = .ok (.aload_n 0, 1) := by decide +kernel
theorem dX6_moveOnePiece_15 : decode cX6_moveOnePiece 15 = .ok (.getfield 17, 3) := by decide +kernel
theorem dX6_moveOnePiece_18 : decode cX6_moveOnePiece 18 = .ok (.iload_n 2, 1) := by decide +kernel
theorem dX6_moveOnePiece_19 : decode cX6_moveOnePiece 19 = .ok (.dup2, 1) := by decide +kernel
theorem dX6_moveOnePiece_20 : decode cX6_moveOnePiece 20 = .ok (.iaload, 1) := by decide +kernel
theorem dX6_moveOnePiece_21 : decode cX6_moveOnePiece 21 = .ok (.aload_n 0, 1) := by decide +kernel
theorem dX6_moveOnePiece_22 : decode cX6_moveOnePiece 22 = .ok (.getfield 24, 3) := by decide +kernel
theorem dX6_moveOnePiece_25 : decode cX6_moveOnePiece 25 = .ok (.iload_n 3, 1) := by decide +kernel
theorem dX6_moveOnePiece_26 : decode cX6_moveOnePiece 26 = .ok (.iaload, 1) := by decide +kernel
theorem dX6_moveOnePiece_27 : decode cX6_moveOnePiece 27 = .ok (.isub, 1) := by decide +kernel
theorem dX6_moveOnePiece_28 : decode cX6_moveOnePiece 28 = .ok (.iastore, 1) := by decide +kernel
theorem dX6_moveOnePiece_29 : decode cX6_moveOnePiece 29 = .ok (.aload_n 0, 1) := by decide +kernel
theorem dX6_moveOnePiece_30 : decode cX6_moveOnePiece 30 = .ok (.getfield 17, 3) := by decide +kernel
theorem dX6_moveOnePiece_33 : decode cX6_moveOnePiece 33 = .ok (.iload_n 1, 1) := by decide +kernel
theorem dX6_moveOnePiece_34 : decode cX6_moveOnePiece 34 = .ok (.dup2, 1) := by decide +kernel
theorem dX6_moveOnePiece_35 : decode cX6_moveOnePiece 35 = .ok (.iaload, 1) := by decide +kernel
theorem dX6_moveOnePiece_36 : decode cX6_moveOnePiece 36 = .ok (.aload_n 0, 1) := by decide +kernel
theorem dX6_moveOnePiece_37 : decode cX6_moveOnePiece 37 = .ok (.getfield 24, 3) := by decide +kernel
theorem dX6_moveOnePiece_40 : decode cX6_moveOnePiece 40 = .ok (.iload_n 3, 1) := by decide +kernel
theorem dX6_moveOnePiece_41 : decode cX6_moveOnePiece 41 = .ok (.iaload, 1) := by decide +kernel
theorem dX6_moveOnePiece_42 : decode cX6_moveOnePiece 42 = .ok (.iadd, 1) := by decide +kernel
theorem dX6_moveOnePiece_43 : decode cX6_moveOnePiece 43 = .ok (.iastore, 1) := by decide +kernel
theorem dX6_moveOnePiece_44 : decode cX6_moveOnePiece 44 = .ok (.return_, 1) := by decide +kernel
theorem dX6_trySale_0 : decode cX6_trySale 0 = .ok (.aload_n 0, 1) := by decide +kernel
theorem dX6_trySale_1 : decode cX6_trySale 1 = .ok (.iload_n 1, 1) := by decide +kernel
theorem dX6_trySale_2 : decode cX6_trySale 2 = .ok (.iload_n 2, 1) := by decide +kernel
theorem dX6_trySale_3 : decode cX6_trySale 3 = .ok (.invokevirtual 79, 3) := by decide +kernel
theorem dX6_trySale_6 : decode cX6_trySale 6 = .ok (.ifCond .eq 29, 3) := by decide +kernel
theorem dX6_trySale_9 : decode cX6_trySale 9 = .ok (.iload_n 3, 1) := by decide +kernel
theorem dX6_trySale_10 : decode cX6_trySale 10 = .ok (.invokestatic 83, 3) := by decide +kernel
theorem dX6_trySale_13 : decode cX6_trySale 13 = .ok (.ifCond .eq 22, 3) := by decide +kernel
theorem dX6_trySale_16 : decode cX6_trySale 16 = .ok (.aload_n 0, 1) := by decide +kernel
theorem dX6_trySale_17 : decode cX6_trySale 17 = .ok (.iload_n 1, 1) := by decide +kernel
theorem dX6_trySale_18 : decode cX6_trySale 18 = .ok (.iload_n 2, 1) := by decide +kernel
theorem dX6_trySale_19 : decode cX6_trySale 19 = .ok (.invokevirtual 86, 3) := by decide +kernel
theorem dX6_trySale_22 : decode cX6_trySale 22 = .ok (.ifCond .eq 13, 3) := by decide +kernel
theorem dX6_trySale_25 : decode cX6_trySale 25 = .ok (.aload_n 0, 1) := by decide +kernel
theorem dX6_trySale_26 : decode cX6_trySale 26 = .ok (.iload_n 1, 1) := by decide +kernel
theorem dX6_trySale_27 : decode cX6_trySale 27 = .ok (.iload_n 2, 1) := by decide +kernel
theorem dX6_trySale_28 : decode cX6_trySale 28 = .ok (.iload_n 3, 1) := by decide +kernel
theorem dX6_trySale_29 : decode cX6_trySale 29 = .ok (.invokevirtual 89, 3) := by decide +kernel
theorem dX6_trySale_32 : decode cX6_trySale 32 = .ok (.ifCond .ne 5, 3) := by decide +kernel
theorem dX6_trySale_35 : decode cX6_trySale 35 = .ok (.iconst 0, 1) := by decide +kernel
theorem dX6_trySale_36 : decode cX6_trySale 36 = .ok (.ireturn, 1) := by decide +kernel
theorem dX6_trySale_37 : decode cX6_trySale 37 = .ok (.aload_n 0, 1) := by decide +kernel
theorem dX6_trySale_38 : decode cX6_trySale 38 = .ok (.iload_n 1, 1) := by decide +kernel
theorem dX6_trySale_39 : decode cX6_trySale 39 = .ok (.iload_n 2, 1) := by decide +kernel
theorem dX6_trySale_40 : decode cX6_trySale 40 = .ok (.iload_n 3, 1) := by decide +kernel
theorem dX6_trySale_41 : decode cX6_trySale 41 = .ok (.invokevirtual 93, 3) := by decide +kernel
theorem dX6_trySale_44 : decode cX6_trySale 44 = .ok (.iconst 1, 1) := by decide +kernel
theorem dX6_trySale_45 : decode cX6_trySale 45 = .ok (.ireturn, 1) := by decide +kernel
theorem dX6_passWeek_0 : decode cX6_passWeek 0 = .ok (.aload_n 1, 1) := by decide +kernel
theorem dX6_passWeek_1 : decode cX6_passWeek 1 = .ok (.invokevirtual 96, 3) := by decide +kernel
theorem dX6_passWeek_4 : decode cX6_passWeek 4 = .ok (.iconst 0, 1) := by decide +kernel
theorem dX6_passWeek_5 : decode cX6_passWeek 5 = .ok (.istore_n 2, 1) := by decide +kernel
theorem dX6_passWeek_6 : decode cX6_passWeek 6 = .ok (.iload_n 2, 1) := by decide +kernel
theorem dX6_passWeek_7 : decode cX6_passWeek 7 = .ok (.aload_n 0, 1) := by decide +kernel
theorem dX6_passWeek_8 : decode cX6_passWeek 8 = .ok (.getfield 37, 3) := by decide +kernel
theorem dX6_passWeek_11 : decode cX6_passWeek 11 = .ok (.if_icmp .ge 14, 3) := by decide +kernel
theorem dX6_passWeek_14 : decode cX6_passWeek 14 = .ok (.aload_n 0, 1) := by decide +kernel
theorem dX6_passWeek_15 : decode cX6_passWeek 15 = .ok (.iload_n 2, 1) := by decide +kernel
theorem dX6_passWeek_16 : decode cX6_passWeek 16 = .ok (.invokevirtual 101, 3) := by decide +kernel
theorem dX6_passWeek_19 : decode cX6_passWeek 19 = .ok (.iinc 2 1, 3) := by decide +kernel
theorem dX6_passWeek_22 : decode cX6_passWeek 22 = .ok (.goto (-16), 3) := by decide +kernel
theorem dX6_passWeek_25 : decode cX6_passWeek 25 = .ok (.iconst 0, 1) := by decide +kernel
theorem dX6_passWeek_26 : decode cX6_passWeek 26 = .ok (.istore_n 2, 1) := by decide +kernel
theorem dX6_passWeek_27 : decode cX6_passWeek 27 = .ok (.iload_n 2, 1) := by decide +kernel
theorem dX6_passWeek_28 : decode cX6_passWeek 28 = .ok (.aload_n 0, 1) := by decide +kernel
theorem dX6_passWeek_29 : decode cX6_passWeek 29 = .ok (.getfield 37, 3) := by decide +kernel
theorem dX6_passWeek_32 : decode cX6_passWeek 32 = .ok (.if_icmp .ge 23, 3) := by decide +kernel
theorem dX6_passWeek_35 : decode cX6_passWeek 35 = .ok (.aload_n 1, 1) := by decide +kernel
theorem dX6_passWeek_36 : decode cX6_passWeek 36 = .ok (.dup, 1) := by decide +kernel
theorem dX6_passWeek_37 : decode cX6_passWeek 37 = .ok (.getfield 105, 3) := by decide +kernel
theorem dX6_passWeek_40 : decode cX6_passWeek 40 = .ok (.aload_n 0, 1) := by decide +kernel
theorem dX6_passWeek_41 : decode cX6_passWeek 41 = .ok (.iload_n 2, 1) := by decide +kernel
theorem dX6_passWeek_42 : decode cX6_passWeek 42 = .ok (.invokevirtual 108, 3) := by decide +kernel
theorem dX6_passWeek_45 : decode cX6_passWeek 45 = .ok (.iadd, 1) := by decide +kernel
theorem dX6_passWeek_46 : decode cX6_passWeek 46 = .ok (.putfield 105, 3) := by decide +kernel
theorem dX6_passWeek_49 : decode cX6_passWeek 49 = .ok (.iinc 2 1, 3) := by decide +kernel
theorem dX6_passWeek_52 : decode cX6_passWeek 52 = .ok (.goto (-25), 3) := by decide +kernel
theorem dX6_passWeek_55 : decode cX6_passWeek 55 = .ok (.iconst 0, 1) := by decide +kernel
theorem dX6_passWeek_56 : decode cX6_passWeek 56 = .ok (.istore_n 2, 1) := by decide +kernel
theorem dX6_passWeek_57 : decode cX6_passWeek 57 = .ok (.iload_n 2, 1) := by decide +kernel
theorem dX6_passWeek_58 : decode cX6_passWeek 58 = .ok (.aload_n 0, 1) := by decide +kernel
theorem dX6_passWeek_59 : decode cX6_passWeek 59 = .ok (.getfield 37, 3) := by decide +kernel
theorem dX6_passWeek_62 : decode cX6_passWeek 62 = .ok (.if_icmp .ge 28, 3) := by decide +kernel
theorem dX6_passWeek_65 : decode cX6_passWeek 65 = .ok (.aload_n 1, 1) := by decide +kernel
theorem dX6_passWeek_66 : decode cX6_passWeek 66 = .ok (.iload_n 2, 1) := by decide +kernel
theorem dX6_passWeek_67 : decode cX6_passWeek 67 = .ok (.aload_n 0, 1) := by decide +kernel
theorem dX6_passWeek_68 : decode cX6_passWeek 68 = .ok (.iload_n 2, 1) := by decide +kernel
theorem dX6_passWeek_69 : decode cX6_passWeek 69 = .ok (.invokevirtual 112, 3) := by decide +kernel
theorem dX6_passWeek_72 : decode cX6_passWeek 72 = .ok (.aload_n 0, 1) := by decide +kernel
theorem dX6_passWeek_73 : decode cX6_passWeek 73 = .ok (.getfield 11, 3) := by decide +kernel
theorem dX6_passWeek_76 : decode cX6_passWeek 76 = .ok (.iload_n 2, 1) := by decide +kernel
theorem dX6_passWeek_77 : decode cX6_passWeek 77 = .ok (.aaload, 1) := by decide +kernel
theorem dX6_passWeek_78 : decode cX6_passWeek 78 = .ok (.getfield 115, 3) := by decide +kernel
theorem dX6_passWeek_81 : decode cX6_passWeek 81 = .ok (.invokevirtual 118, 3) := by decide +kernel
theorem dX6_passWeek_84 : decode cX6_passWeek 84 = .ok (.iinc 2 1, 3) := by decide +kernel
theorem dX6_passWeek_87 : decode cX6_passWeek 87 = .ok (.goto (-30), 3) := by decide +kernel
theorem dX6_passWeek_90 : decode cX6_passWeek 90 = .ok (.aload_n 0, 1) := by decide +kernel
theorem dX6_passWeek_91 : decode cX6_passWeek 91 = .ok (.dup, 1) := by decide +kernel
theorem dX6_passWeek_92 : decode cX6_passWeek 92 = .ok (.getfield 54, 3) := by decide +kernel
theorem dX6_passWeek_95 : decode cX6_passWeek 95 = .ok (.iconst 1, 1) := by decide +kernel
theorem dX6_passWeek_96 : decode cX6_passWeek 96 = .ok (.iadd, 1) := by decide +kernel
theorem dX6_passWeek_97 : decode cX6_passWeek 97 = .ok (.putfield 54, 3) := by decide +kernel
theorem dX6_passWeek_100 : decode cX6_passWeek 100 = .ok (.return_, 1) := by decide +kernel
theorem dX6_makeGoods_0 : decode cX6_makeGoods 0 = .ok (.aload_n 0, 1) := by decide +kernel
theorem dX6_makeGoods_1 : decode cX6_makeGoods 1 = .ok (.getfield 11, 3) := by decide +kernel
theorem dX6_makeGoods_4 : decode cX6_makeGoods 4 = .ok (.iload_n 1, 1) := by decide +kernel
theorem dX6_makeGoods_5 : decode cX6_makeGoods 5 = .ok (.aaload, 1) := by decide +kernel
theorem dX6_makeGoods_6 : decode cX6_makeGoods 6 = .ok (.astore_n 2, 1) := by decide +kernel
theorem dX6_makeGoods_7 : decode cX6_makeGoods 7 = .ok (.bipush 99, 2) := by decide +kernel
theorem dX6_makeGoods_9 : decode cX6_makeGoods 9 = .ok (.aload_n 0, 1) := by decide +kernel
theorem dX6_makeGoods_10 : decode cX6_makeGoods 10 = .ok (.iload_n 1, 1) := by decide +kernel
theorem dX6_makeGoods_11 : decode cX6_makeGoods 11 = .ok (.aload_n 2, 1) := by decide +kernel
theorem dX6_makeGoods_12 : decode cX6_makeGoods 12 = .ok (.getfield 121, 3) := by decide +kernel
theorem dX6_makeGoods_15 : decode cX6_makeGoods 15 = .ok (.invokevirtual 71, 3) := by decide +kernel
theorem dX6_makeGoods_18 : decode cX6_makeGoods 18 = .ok (.isub, 1) := by decide +kernel
theorem dX6_makeGoods_19 : decode cX6_makeGoods 19 = .ok (.istore_n 3, 1) := by decide +kernel
theorem dX6_makeGoods_20 : decode cX6_makeGoods 20 = .ok (.aload_n 0, 1) := by decide +kernel
theorem dX6_makeGoods_21 : decode cX6_makeGoods 21 = .ok (.iload_n 1, 1) := by decide +kernel
theorem dX6_makeGoods_22 : decode cX6_makeGoods 22 = .ok (.aload_n 2, 1) := by decide +kernel
theorem dX6_makeGoods_23 : decode cX6_makeGoods 23 = .ok (.getfield 121, 3) := by decide +kernel
theorem dX6_makeGoods_26 : decode cX6_makeGoods 26 = .ok (.aload_n 2, 1) := by decide +kernel
theorem dX6_makeGoods_27 : decode cX6_makeGoods 27 = .ok (.getfield 124, 3) := by decide +kernel
theorem dX6_makeGoods_30 : decode cX6_makeGoods 30 = .ok (.iload_n 3, 1) := by decide +kernel
theorem dX6_makeGoods_31 : decode cX6_makeGoods 31 = .ok (.invokestatic 127, 3) := by decide +kernel
theorem dX6_makeGoods_34 : decode cX6_makeGoods 34 = .ok (.invokevirtual 75, 3) := by decide +kernel
theorem dX6_makeGoods_37 : decode cX6_makeGoods 37 = .ok (.return_, 1) := by decide +kernel
theorem dX6_buyWanted_0 : decode cX6_buyWanted 0 = .ok (.aload_n 0, 1) := by decide +kernel
theorem dX6_buyWanted_1 : decode cX6_buyWanted 1 = .ok (.getfield 11, 3) := by decide +kernel
theorem dX6_buyWanted_4 : decode cX6_buyWanted 4 = .ok (.iload_n 1, 1) := by decide +kernel
theorem dX6_buyWanted_5 : decode cX6_buyWanted 5 = .ok (.aaload, 1) := by decide +kernel
theorem dX6_buyWanted_6 : decode cX6_buyWanted 6 = .ok (.getfield 132, 3) := by decide +kernel
theorem dX6_buyWanted_9 : decode cX6_buyWanted 9 = .ok (.istore_n 2, 1) := by decide +kernel
theorem dX6_buyWanted_10 : decode cX6_buyWanted 10 = .ok (.aload_n 0, 1) := by decide +kernel
theorem dX6_buyWanted_11 : decode cX6_buyWanted 11 = .ok (.getfield 11, 3) := by decide +kernel
theorem dX6_buyWanted_14 : decode cX6_buyWanted 14 = .ok (.iload_n 1, 1) := by decide +kernel
theorem dX6_buyWanted_15 : decode cX6_buyWanted 15 = .ok (.aaload, 1) := by decide +kernel
theorem dX6_buyWanted_16 : decode cX6_buyWanted 16 = .ok (.getfield 115, 3) := by decide +kernel
theorem dX6_buyWanted_19 : decode cX6_buyWanted 19 = .ok (.aload_n 0, 1) := by decide +kernel
theorem dX6_buyWanted_20 : decode cX6_buyWanted 20 = .ok (.iload_n 1, 1) := by decide +kernel
theorem dX6_buyWanted_21 : decode cX6_buyWanted 21 = .ok (.iload_n 2, 1) := by decide +kernel
theorem dX6_buyWanted_22 : decode cX6_buyWanted 22 = .ok (.invokevirtual 71, 3) := by decide +kernel
theorem dX6_buyWanted_25 : decode cX6_buyWanted 25 = .ok (.isub, 1) := by decide +kernel
theorem dX6_buyWanted_26 : decode cX6_buyWanted 26 = .ok (.istore_n 3, 1) := by decide +kernel
theorem dX6_buyWanted_27 : decode cX6_buyWanted 27 = .ok (.iconst 0, 1) := by decide +kernel
theorem dX6_buyWanted_28 : decode cX6_buyWanted 28 = .ok (.istore 4, 2) := by decide +kernel
theorem dX6_buyWanted_30 : decode cX6_buyWanted 30 = .ok (.iload 4, 2) := by decide +kernel
theorem dX6_buyWanted_32 : decode cX6_buyWanted 32 = .ok (.iload_n 3, 1) := by decide +kernel
theorem dX6_buyWanted_33 : decode cX6_buyWanted 33 = .ok (.if_icmp .ge 33, 3) := by decide +kernel
theorem dX6_buyWanted_36 : decode cX6_buyWanted 36 = .ok (.aload_n 0, 1) := by decide +kernel
theorem dX6_buyWanted_37 : decode cX6_buyWanted 37 = .ok (.iload_n 1, 1) := by decide +kernel
theorem dX6_buyWanted_38 : decode cX6_buyWanted 38 = .ok (.iload_n 2, 1) := by decide +kernel
theorem dX6_buyWanted_39 : decode cX6_buyWanted 39 = .ok (.invokevirtual 135, 3) := by decide +kernel
theorem dX6_buyWanted_42 : decode cX6_buyWanted 42 = .ok (.istore 5, 2) := by decide +kernel
theorem dX6_buyWanted_44 : decode cX6_buyWanted 44 = .ok (.iload 5, 2) := by decide +kernel
theorem dX6_buyWanted_46 : decode cX6_buyWanted 46 = .ok (.ifCond .ge 6, 3) := by decide +kernel
theorem dX6_buyWanted_49 : decode cX6_buyWanted 49 = .ok (.iload 4, 2) := by decide +kernel
theorem dX6_buyWanted_51 : decode cX6_buyWanted 51 = .ok (.ireturn, 1) := by decide +kernel
theorem dX6_buyWanted_52 : decode cX6_buyWanted 52 = .ok (.aload_n 0, 1) := by decide +kernel
theorem dX6_buyWanted_53 : decode cX6_buyWanted 53 = .ok (.iload 5, 2) := by decide +kernel
theorem dX6_buyWanted_55 : decode cX6_buyWanted 55 = .ok (.iload_n 1, 1) := by decide +kernel
theorem dX6_buyWanted_56 : decode cX6_buyWanted 56 = .ok (.iload_n 2, 1) := by decide +kernel
theorem dX6_buyWanted_57 : decode cX6_buyWanted 57 = .ok (.invokevirtual 93, 3) := by decide +kernel
theorem dX6_buyWanted_60 : decode cX6_buyWanted 60 = .ok (.iinc 4 1, 3) := by decide +kernel
theorem dX6_buyWanted_63 : decode cX6_buyWanted 63 = .ok (.goto (-33), 3) := by decide +kernel
theorem dX6_buyWanted_66 : decode cX6_buyWanted 66 = .ok (.iconst 0, 1) := by decide +kernel
theorem dX6_buyWanted_67 : decode cX6_buyWanted 67 = .ok (.iload_n 3, 1) := by decide +kernel
theorem dX6_buyWanted_68 : decode cX6_buyWanted 68 = .ok (.invokestatic 138, 3) := by decide +kernel
theorem dX6_buyWanted_71 : decode cX6_buyWanted 71 = .ok (.ireturn, 1) := by decide +kernel
theorem dX6_fullestSellerTo_0 : decode cX6_fullestSellerTo 0 = .ok (.iconst (-1), 1) := by decide +kernel
theorem dX6_fullestSellerTo_1 : decode cX6_fullestSellerTo 1 = .ok (.istore_n 3, 1) := by decide +kernel
theorem dX6_fullestSellerTo_2 : decode cX6_fullestSellerTo 2 = .ok (.iconst 0, 1) := by decide +kernel
theorem dX6_fullestSellerTo_3 : decode cX6_fullestSellerTo 3 = .ok (.istore 4, 2) := by decide +kernel
theorem dX6_fullestSellerTo_5 : decode cX6_fullestSellerTo 5 = .ok (.iload 4, 2) := by decide +kernel
theorem dX6_fullestSellerTo_7 : decode cX6_fullestSellerTo 7 = .ok (.aload_n 0, 1) := by decide +kernel
theorem dX6_fullestSellerTo_8 : decode cX6_fullestSellerTo 8 = .ok (.getfield 37, 3) := by decide +kernel
theorem dX6_fullestSellerTo_11 : decode cX6_fullestSellerTo 11 = .ok (.if_icmp .ge 67, 3) := by decide +kernel
theorem dX6_fullestSellerTo_14 : decode cX6_fullestSellerTo 14 = .ok (.aload_n 0, 1) := by decide +kernel
theorem dX6_fullestSellerTo_15 : decode cX6_fullestSellerTo 15 = .ok (.getfield 11, 3) := by decide +kernel
theorem dX6_fullestSellerTo_18 : decode cX6_fullestSellerTo 18 = .ok (.iload 4, 2) := by decide +kernel
theorem dX6_fullestSellerTo_20 : decode cX6_fullestSellerTo 20 = .ok (.aaload, 1) := by decide +kernel
theorem dX6_fullestSellerTo_21 : decode cX6_fullestSellerTo 21 = .ok (.iload_n 2, 1) := by decide +kernel
theorem dX6_fullestSellerTo_22 : decode cX6_fullestSellerTo 22 = .ok (.invokevirtual 141, 3) := by decide +kernel
theorem dX6_fullestSellerTo_25 : decode cX6_fullestSellerTo 25 = .ok (.ifCond .ne 47, 3) := by decide +kernel
theorem dX6_fullestSellerTo_28 : decode cX6_fullestSellerTo 28 = .ok (.aload_n 0, 1) := by decide +kernel
theorem dX6_fullestSellerTo_29 : decode cX6_fullestSellerTo 29 = .ok (.iload 4, 2) := by decide +kernel
theorem dX6_fullestSellerTo_31 : decode cX6_fullestSellerTo 31 = .ok (.iload_n 1, 1) := by decide +kernel
theorem dX6_fullestSellerTo_32 : decode cX6_fullestSellerTo 32 = .ok (.invokevirtual 86, 3) := by decide +kernel
theorem dX6_fullestSellerTo_35 : decode cX6_fullestSellerTo 35 = .ok (.ifCond .eq 37, 3) := by decide +kernel
theorem dX6_fullestSellerTo_38 : decode cX6_fullestSellerTo 38 = .ok (.aload_n 0, 1) := by decide +kernel
theorem dX6_fullestSellerTo_39 : decode cX6_fullestSellerTo 39 = .ok (.iload 4, 2) := by decide +kernel
theorem dX6_fullestSellerTo_41 : decode cX6_fullestSellerTo 41 = .ok (.iload_n 1, 1) := by decide +kernel
theorem dX6_fullestSellerTo_42 : decode cX6_fullestSellerTo 42 = .ok (.iload_n 2, 1) := by decide +kernel
theorem dX6_fullestSellerTo_43 : decode cX6_fullestSellerTo 43 = .ok (.invokevirtual 89, 3) := by decide +kernel
theorem dX6_fullestSellerTo_46 : decode cX6_fullestSellerTo 46 = .ok (.ifCond .eq 26, 3) := by decide +kernel
theorem dX6_fullestSellerTo_49 : decode cX6_fullestSellerTo 49 = .ok (.iload_n 3, 1) := by decide +kernel
theorem dX6_fullestSellerTo_50 : decode cX6_fullestSellerTo 50 = .ok (.ifCond .lt 19, 3) := by decide +kernel
theorem dX6_fullestSellerTo_53 : decode cX6_fullestSellerTo 53 = .ok (.aload_n 0, 1) := by decide +kernel
theorem dX6_fullestSellerTo_54 : decode cX6_fullestSellerTo 54 = .ok (.iload 4, 2) := by decide +kernel
theorem dX6_fullestSellerTo_56 : decode cX6_fullestSellerTo 56 = .ok (.iload_n 2, 1) := by decide +kernel
theorem dX6_fullestSellerTo_57 : decode cX6_fullestSellerTo 57 = .ok (.invokevirtual 71, 3) := by decide +kernel
theorem dX6_fullestSellerTo_60 : decode cX6_fullestSellerTo 60 = .ok (.aload_n 0, 1) := by decide +kernel
theorem dX6_fullestSellerTo_61 : decode cX6_fullestSellerTo 61 = .ok (.iload_n 3, 1) := by decide +kernel
theorem dX6_fullestSellerTo_62 : decode cX6_fullestSellerTo 62 = .ok (.iload_n 2, 1) := by decide +kernel
theorem dX6_fullestSellerTo_63 : decode cX6_fullestSellerTo 63 = .ok (.invokevirtual 71, 3) := by decide +kernel
theorem dX6_fullestSellerTo_66 : decode cX6_fullestSellerTo 66 = .ok (.if_icmp .le 6, 3) := by decide +kernel
theorem dX6_fullestSellerTo_69 : decode cX6_fullestSellerTo 69 = .ok (.iload 4, 2) := by decide +kernel
theorem dX6_fullestSellerTo_71 : decode cX6_fullestSellerTo 71 = .ok (.istore_n 3, 1) := by decide +kernel
theorem dX6_fullestSellerTo_72 : decode cX6_fullestSellerTo 72 = .ok (.iinc 4 1, 3) := by decide +kernel
theorem dX6_fullestSellerTo_75 : decode cX6_fullestSellerTo 75 = .ok (.goto (-70), 3) := by decide +kernel
theorem dX6_fullestSellerTo_78 : decode cX6_fullestSellerTo 78 = .ok (.iload_n 3, 1) := by decide +kernel
theorem dX6_fullestSellerTo_79 : decode cX6_fullestSellerTo 79 = .ok (.ireturn, 1) := by decide +kernel
theorem dX6_useWanted_0 : decode cX6_useWanted 0 = .ok (.aload_n 0, 1) := by decide +kernel
theorem dX6_useWanted_1 : decode cX6_useWanted 1 = .ok (.getfield 11, 3) := by decide +kernel
theorem dX6_useWanted_4 : decode cX6_useWanted 4 = .ok (.iload_n 1, 1) := by decide +kernel
theorem dX6_useWanted_5 : decode cX6_useWanted 5 = .ok (.aaload, 1) := by decide +kernel
theorem dX6_useWanted_6 : decode cX6_useWanted 6 = .ok (.getfield 132, 3) := by decide +kernel
theorem dX6_useWanted_9 : decode cX6_useWanted 9 = .ok (.istore_n 2, 1) := by decide +kernel
theorem dX6_useWanted_10 : decode cX6_useWanted 10 = .ok (.aload_n 0, 1) := by decide +kernel
theorem dX6_useWanted_11 : decode cX6_useWanted 11 = .ok (.getfield 11, 3) := by decide +kernel
theorem dX6_useWanted_14 : decode cX6_useWanted 14 = .ok (.iload_n 1, 1) := by decide +kernel
theorem dX6_useWanted_15 : decode cX6_useWanted 15 = .ok (.aaload, 1) := by decide +kernel
theorem dX6_useWanted_16 : decode cX6_useWanted 16 = .ok (.getfield 115, 3) := by decide +kernel
theorem dX6_useWanted_19 : decode cX6_useWanted 19 = .ok (.aload_n 0, 1) := by decide +kernel
theorem dX6_useWanted_20 : decode cX6_useWanted 20 = .ok (.iload_n 1, 1) := by decide +kernel
theorem dX6_useWanted_21 : decode cX6_useWanted 21 = .ok (.iload_n 2, 1) := by decide +kernel
theorem dX6_useWanted_22 : decode cX6_useWanted 22 = .ok (.invokevirtual 71, 3) := by decide +kernel
theorem dX6_useWanted_25 : decode cX6_useWanted 25 = .ok (.invokestatic 127, 3) := by decide +kernel
theorem dX6_useWanted_28 : decode cX6_useWanted 28 = .ok (.istore_n 3, 1) := by decide +kernel
theorem dX6_useWanted_29 : decode cX6_useWanted 29 = .ok (.aload_n 0, 1) := by decide +kernel
theorem dX6_useWanted_30 : decode cX6_useWanted 30 = .ok (.iload_n 1, 1) := by decide +kernel
theorem dX6_useWanted_31 : decode cX6_useWanted 31 = .ok (.iload_n 2, 1) := by decide +kernel
theorem dX6_useWanted_32 : decode cX6_useWanted 32 = .ok (.iload_n 3, 1) := by decide +kernel
theorem dX6_useWanted_33 : decode cX6_useWanted 33 = .ok (.ineg, 1) := by decide +kernel
theorem dX6_useWanted_34 : decode cX6_useWanted 34 = .ok (.invokevirtual 75, 3) := by decide +kernel
theorem dX6_useWanted_37 : decode cX6_useWanted 37 = .ok (.iload_n 3, 1) := by decide +kernel
theorem dX6_useWanted_38 : decode cX6_useWanted 38 = .ok (.ireturn, 1) := by decide +kernel
theorem dX6_richest_0 : decode cX6_richest 0 = .ok (.iconst 0, 1) := by decide +kernel
theorem dX6_richest_1 : decode cX6_richest 1 = .ok (.istore_n 1, 1) := by decide +kernel
theorem dX6_richest_2 : decode cX6_richest 2 = .ok (.iconst 1, 1) := by decide +kernel
theorem dX6_richest_3 : decode cX6_richest 3 = .ok (.istore_n 2, 1) := by decide +kernel
theorem dX6_richest_4 : decode cX6_richest 4 = .ok (.iload_n 2, 1) := by decide +kernel
theorem dX6_richest_5 : decode cX6_richest 5 = .ok (.aload_n 0, 1) := by decide +kernel
theorem dX6_richest_6 : decode cX6_richest 6 = .ok (.getfield 37, 3) := by decide +kernel
theorem dX6_richest_9 : decode cX6_richest 9 = .ok (.if_icmp .ge 26, 3) := by decide +kernel
theorem dX6_richest_12 : decode cX6_richest 12 = .ok (.aload_n 0, 1) := by decide +kernel
theorem dX6_richest_13 : decode cX6_richest 13 = .ok (.getfield 17, 3) := by decide +kernel
theorem dX6_richest_16 : decode cX6_richest 16 = .ok (.iload_n 2, 1) := by decide +kernel
theorem dX6_richest_17 : decode cX6_richest 17 = .ok (.iaload, 1) := by decide +kernel
theorem dX6_richest_18 : decode cX6_richest 18 = .ok (.aload_n 0, 1) := by decide +kernel
theorem dX6_richest_19 : decode cX6_richest 19 = .ok (.getfield 17, 3) := by decide +kernel
theorem dX6_richest_22 : decode cX6_richest 22 = .ok (.iload_n 1, 1) := by decide +kernel
theorem dX6_richest_23 : decode cX6_richest 23 = .ok (.iaload, 1) := by decide +kernel
theorem dX6_richest_24 : decode cX6_richest 24 = .ok (.if_icmp .le 5, 3) := by decide +kernel
theorem dX6_richest_27 : decode cX6_richest 27 = .ok (.iload_n 2, 1) := by decide +kernel
theorem dX6_richest_28 : decode cX6_richest 28 = .ok (.istore_n 1, 1) := by decide +kernel
theorem dX6_richest_29 : decode cX6_richest 29 = .ok (.iinc 2 1, 3) := by decide +kernel
theorem dX6_richest_32 : decode cX6_richest 32 = .ok (.goto (-28), 3) := by decide +kernel
theorem dX6_richest_35 : decode cX6_richest 35 = .ok (.iload_n 1, 1) := by decide +kernel
theorem dX6_richest_36 : decode cX6_richest 36 = .ok (.ireturn, 1) := by decide +kernel
theorem dX7_init_0 : decode cX7_init 0 = .ok (.aload_n 0, 1) := by decide +kernel
theorem dX7_init_1 : decode cX7_init 1 = .ok (.invokespecial 3, 3) := by decide +kernel
theorem dX7_init_4 : decode cX7_init 4 = .ok (.aload_n 0, 1) := by decide +kernel
theorem dX7_init_5 : decode cX7_init 5 = .ok (.bipush 96, 2) := by decide +kernel
theorem dX7_init_7 : decode cX7_init 7 = .ok (.newarray .int, 2) := by decide +kernel
theorem dX7_init_9 : decode cX7_init 9 = .ok (.putfield 9, 3) := by decide +kernel
theorem dX7_init_12 : decode cX7_init 12 = .ok (.return_, 1) := by decide +kernel
theorem dX7_isFull_0 : decode cX7_isFull 0 = .ok (.aload_n 0, 1) := by decide +kernel
theorem dX7_isFull_1 : decode cX7_isFull 1 = .ok (.getfield 15, 3) := by decide +kernel
theorem dX7_isFull_4 : decode cX7_isFull 4 = .ok (.bipush 96, 2) := by decide +kernel
theorem dX7_isFull_6 : decode cX7_isFull 6 = .ok (.if_icmp .lt 7, 3) := by decide +kernel
theorem dX7_isFull_9 : decode cX7_isFull 9 = .ok (.iconst 1, 1) := by decide +kernel
theorem dX7_isFull_10 : decode cX7_isFull 10 = .ok (.goto 4, 3) := by decide +kernel
theorem dX7_isFull_13 : decode cX7_isFull 13 = .ok (.iconst 0, 1) := by decide +kernel
theorem dX7_isFull_14 : decode cX7_isFull 14 = .ok (.ireturn, 1) := by decide +kernel
theorem dX7_add_0 : decode cX7_add 0 = .ok (.aload_n 0, 1) := by decide +kernel
theorem dX7_add_1 : decode cX7_add 1 = .ok (.invokevirtual 19, 3) := by decide +kernel
theorem dX7_add_4 : decode cX7_add 4 = .ok (.ifCond .ne 23, 3) := by decide +kernel
theorem dX7_add_7 : decode cX7_add 7 = .ok (.aload_n 0, 1) := by decide +kernel
theorem dX7_add_8 : decode cX7_add 8 = .ok (.getfield 9, 3) := by decide +kernel
theorem dX7_add_11 : decode cX7_add 11 = .ok (.aload_n 0, 1) := by decide +kernel
theorem dX7_add_12 : decode cX7_add 12 = .ok (.getfield 15, 3) := by decide +kernel
theorem dX7_add_15 : decode cX7_add 15 = .ok (.iload_n 1, 1) := by decide +kernel
theorem dX7_add_16 : decode cX7_add 16 = .ok (.iastore, 1) := by decide +kernel
theorem dX7_add_17 : decode cX7_add 17 = .ok (.aload_n 0, 1) := by decide +kernel
theorem dX7_add_18 : decode cX7_add 18 = .ok (.dup, 1) := by decide +kernel
theorem dX7_add_19 : decode cX7_add 19 = .ok (.getfield 15, 3) := by decide +kernel
theorem dX7_add_22 : decode cX7_add 22 = .ok (.iconst 1, 1) := by decide +kernel
theorem dX7_add_23 : decode cX7_add 23 = .ok (.iadd, 1) := by decide +kernel
theorem dX7_add_24 : decode cX7_add 24 = .ok (.putfield 15, 3) := by decide +kernel
theorem dX7_add_27 : decode cX7_add 27 = .ok (.return_, 1) := by decide +kernel
theorem dX7_firstWrongPlace_0 : decode cX7_firstWrongPlace 0 = .ok (.aload_n 0, 1) := by decide +kernel
theorem dX7_firstWrongPlace_1 : decode cX7_firstWrongPlace 1 = .ok (.getfield 15, 3) := by decide +kernel
theorem dX7_firstWrongPlace_4 : decode cX7_firstWrongPlace 4 = .ok (.ifCond .ne 5, 3) := by decide +kernel
theorem dX7_firstWrongPlace_7 : decode cX7_firstWrongPlace 7 = .ok (.iconst 0, 1) := by decide +kernel
theorem dX7_firstWrongPlace_8 : decode cX7_firstWrongPlace 8 = .ok (.ireturn, 1) := by decide +kernel
theorem dX7_firstWrongPlace_9 : decode cX7_firstWrongPlace 9 = .ok (.iconst 0, 1) := by decide +kernel
theorem dX7_firstWrongPlace_10 : decode cX7_firstWrongPlace 10 = .ok (.istore_n 1, 1) := by decide +kernel
theorem dX7_firstWrongPlace_11 : decode cX7_firstWrongPlace 11 = .ok (.iload_n 1, 1) := by decide +kernel
theorem dX7_firstWrongPlace_12 : decode cX7_firstWrongPlace 12 = .ok (.aload_n 0, 1) := by decide +kernel
theorem dX7_firstWrongPlace_13 : decode cX7_firstWrongPlace 13 = .ok (.getfield 15, 3) := by decide +kernel
theorem dX7_firstWrongPlace_16 : decode cX7_firstWrongPlace 16 = .ok (.if_icmp .ge 85, 3) := by decide +kernel
theorem dX7_firstWrongPlace_19 : decode cX7_firstWrongPlace 19 = .ok (.aload_n 0, 1) := by decide +kernel
theorem dX7_firstWrongPlace_20 : decode cX7_firstWrongPlace 20 = .ok (.getfield 9, 3) := by decide +kernel
theorem dX7_firstWrongPlace_23 : decode cX7_firstWrongPlace 23 = .ok (.iload_n 1, 1) := by decide +kernel
theorem dX7_firstWrongPlace_24 : decode cX7_firstWrongPlace 24 = .ok (.iaload, 1) := by decide +kernel
theorem dX7_firstWrongPlace_25 : decode cX7_firstWrongPlace 25 = .ok (.invokestatic 23, 3) := by decide +kernel
theorem dX7_firstWrongPlace_28 : decode cX7_firstWrongPlace 28 = .ok (.istore_n 2, 1) := by decide +kernel
theorem dX7_firstWrongPlace_29 : decode cX7_firstWrongPlace 29 = .ok (.iload_n 2, 1) := by decide +kernel
theorem dX7_firstWrongPlace_30 : decode cX7_firstWrongPlace 30 = .ok (.ifCond .ne 5, 3) := by decide +kernel
theorem dX7_firstWrongPlace_33 : decode cX7_firstWrongPlace 33 = .ok (.iload_n 1, 1) := by decide +kernel
theorem dX7_firstWrongPlace_34 : decode cX7_firstWrongPlace 34 = .ok (.ireturn, 1) := by decide +kernel
theorem dX7_firstWrongPlace_35 : decode cX7_firstWrongPlace 35 = .ok (.aload_n 0, 1) := by decide +kernel
theorem dX7_firstWrongPlace_36 : decode cX7_firstWrongPlace 36 = .ok (.iload_n 1, 1) := by decide +kernel
theorem dX7_firstWrongPlace_37 : decode cX7_firstWrongPlace 37 = .ok (.iconst 1, 1) := by decide +kernel
theorem dX7_firstWrongPlace_38 : decode cX7_firstWrongPlace 38 = .ok (.iadd, 1) := by decide +kernel
theorem dX7_firstWrongPlace_39 : decode cX7_firstWrongPlace 39 = .ok (.iload_n 2, 1) := by decide +kernel
theorem dX7_firstWrongPlace_40 : decode cX7_firstWrongPlace 40 = .ok (.invokevirtual 27, 3) := by decide +kernel
theorem dX7_firstWrongPlace_43 : decode cX7_firstWrongPlace 43 = .ok (.istore_n 3, 1) := by decide +kernel
theorem dX7_firstWrongPlace_44 : decode cX7_firstWrongPlace 44 = .ok (.iload_n 3, 1) := by decide +kernel
theorem dX7_firstWrongPlace_45 : decode cX7_firstWrongPlace 45 = .ok (.iload_n 1, 1) := by decide +kernel
theorem dX7_firstWrongPlace_46 : decode cX7_firstWrongPlace 46 = .ok (.isub, 1) := by decide +kernel
theorem dX7_firstWrongPlace_47 : decode cX7_firstWrongPlace 47 = .ok (.iconst 1, 1) := by decide +kernel
theorem dX7_firstWrongPlace_48 : decode cX7_firstWrongPlace 48 = .ok (.isub, 1) := by decide +kernel
theorem dX7_firstWrongPlace_49 : decode cX7_firstWrongPlace 49 = .ok (.aload_n 0, 1) := by decide +kernel
theorem dX7_firstWrongPlace_50 : decode cX7_firstWrongPlace 50 = .ok (.getfield 9, 3) := by decide +kernel
theorem dX7_firstWrongPlace_53 : decode cX7_firstWrongPlace 53 = .ok (.iload_n 1, 1) := by decide +kernel
theorem dX7_firstWrongPlace_54 : decode cX7_firstWrongPlace 54 = .ok (.iaload, 1) := by decide +kernel
theorem dX7_firstWrongPlace_55 : decode cX7_firstWrongPlace 55 = .ok (.invokestatic 31, 3) := by decide +kernel
theorem dX7_firstWrongPlace_58 : decode cX7_firstWrongPlace 58 = .ok (.if_icmp .lt 7, 3) := by decide +kernel
theorem dX7_firstWrongPlace_61 : decode cX7_firstWrongPlace 61 = .ok (.iconst 1, 1) := by decide +kernel
theorem dX7_firstWrongPlace_62 : decode cX7_firstWrongPlace 62 = .ok (.goto 4, 3) := by decide +kernel
theorem dX7_firstWrongPlace_65 : decode cX7_firstWrongPlace 65 = .ok (.iconst 0, 1) := by decide +kernel
theorem dX7_firstWrongPlace_66 : decode cX7_firstWrongPlace 66 = .ok (.istore 4, 2) := by decide +kernel
theorem dX7_firstWrongPlace_68 : decode cX7_firstWrongPlace 68 = .ok (.iload 4, 2) := by decide +kernel
theorem dX7_firstWrongPlace_70 : decode cX7_firstWrongPlace 70 = .ok (.ifCond .eq 22, 3) := by decide +kernel
theorem dX7_firstWrongPlace_73 : decode cX7_firstWrongPlace 73 = .ok (.iload_n 3, 1) := by decide +kernel
theorem dX7_firstWrongPlace_74 : decode cX7_firstWrongPlace 74 = .ok (.aload_n 0, 1) := by decide +kernel
theorem dX7_firstWrongPlace_75 : decode cX7_firstWrongPlace 75 = .ok (.getfield 15, 3) := by decide +kernel
theorem dX7_firstWrongPlace_78 : decode cX7_firstWrongPlace 78 = .ok (.if_icmp .ge 14, 3) := by decide +kernel
theorem dX7_firstWrongPlace_81 : decode cX7_firstWrongPlace 81 = .ok (.aload_n 0, 1) := by decide +kernel
theorem dX7_firstWrongPlace_82 : decode cX7_firstWrongPlace 82 = .ok (.getfield 9, 3) := by decide +kernel
theorem dX7_firstWrongPlace_85 : decode cX7_firstWrongPlace 85 = .ok (.iload_n 3, 1) := by decide +kernel
theorem dX7_firstWrongPlace_86 : decode cX7_firstWrongPlace 86 = .ok (.iaload, 1) := by decide +kernel
theorem dX7_firstWrongPlace_87 : decode cX7_firstWrongPlace 87 = .ok (.bipush 59, 2) := by decide +kernel
theorem dX7_firstWrongPlace_89 : decode cX7_firstWrongPlace 89 = .ok (.if_icmp .eq 5, 3) := by decide +kernel
theorem dX7_firstWrongPlace_92 : decode cX7_firstWrongPlace 92 = .ok (.iload_n 3, 1) := by decide +kernel
theorem dX7_firstWrongPlace_93 : decode cX7_firstWrongPlace 93 = .ok (.ireturn, 1) := by decide +kernel
theorem dX7_firstWrongPlace_94 : decode cX7_firstWrongPlace 94 = .ok (.iload_n 3, 1) := by decide +kernel
theorem dX7_firstWrongPlace_95 : decode cX7_firstWrongPlace 95 = .ok (.iconst 1, 1) := by decide +kernel
theorem dX7_firstWrongPlace_96 : decode cX7_firstWrongPlace 96 = .ok (.iadd, 1) := by decide +kernel
theorem dX7_firstWrongPlace_97 : decode cX7_firstWrongPlace 97 = .ok (.istore_n 1, 1) := by decide +kernel
theorem dX7_firstWrongPlace_98 : decode cX7_firstWrongPlace 98 = .ok (.goto (-87), 3) := by decide +kernel
theorem dX7_firstWrongPlace_101 : decode cX7_firstWrongPlace 101 = .ok (.iconst (-1), 1) := by decide +kernel
theorem dX7_firstWrongPlace_102 : decode cX7_firstWrongPlace 102 = .ok (.ireturn, 1) := by decide +kernel
theorem dX7_endOfDigits_0 : decode cX7_endOfDigits 0 = .ok (.iload_n 1, 1) := by decide +kernel
theorem dX7_endOfDigits_1 : decode cX7_endOfDigits 1 = .ok (.istore_n 3, 1) := by decide +kernel
theorem dX7_endOfDigits_2 : decode cX7_endOfDigits 2 = .ok (.iload_n 3, 1) := by decide +kernel
theorem dX7_endOfDigits_3 : decode cX7_endOfDigits 3 = .ok (.aload_n 0, 1) := by decide +kernel
theorem dX7_endOfDigits_4 : decode cX7_endOfDigits 4 = .ok (.getfield 15, 3) := by decide +kernel
theorem dX7_endOfDigits_7 : decode cX7_endOfDigits 7 = .ok (.if_icmp .ge 38, 3) := by decide +kernel
theorem dX7_endOfDigits_10 : decode cX7_endOfDigits 10 = .ok (.iload_n 3, 1) := by decide +kernel
theorem dX7_endOfDigits_11 : decode cX7_endOfDigits 11 = .ok (.iload_n 1, 1) := by decide +kernel
theorem dX7_endOfDigits_12 : decode cX7_endOfDigits 12 = .ok (.isub, 1) := by decide +kernel
theorem dX7_endOfDigits_13 : decode cX7_endOfDigits 13 = .ok (.iload_n 2, 1) := by decide +kernel
theorem dX7_endOfDigits_14 : decode cX7_endOfDigits 14 = .ok (.if_icmp .ge 31, 3) := by decide +kernel
theorem dX7_endOfDigits_17 : decode cX7_endOfDigits 17 = .ok (.aload_n 0, 1) := by decide +kernel
theorem dX7_endOfDigits_18 : decode cX7_endOfDigits 18 = .ok (.getfield 9, 3) := by decide +kernel
theorem dX7_endOfDigits_21 : decode cX7_endOfDigits 21 = .ok (.iload_n 3, 1) := by decide +kernel
theorem dX7_endOfDigits_22 : decode cX7_endOfDigits 22 = .ok (.iaload, 1) := by decide +kernel
theorem dX7_endOfDigits_23 : decode cX7_endOfDigits 23 = .ok (.bipush 48, 2) := by decide +kernel
theorem dX7_endOfDigits_25 : decode cX7_endOfDigits 25 = .ok (.if_icmp .lt 20, 3) := by decide +kernel
theorem dX7_endOfDigits_28 : decode cX7_endOfDigits 28 = .ok (.aload_n 0, 1) := by decide +kernel
theorem dX7_endOfDigits_29 : decode cX7_endOfDigits 29 = .ok (.getfield 9, 3) := by decide +kernel
theorem dX7_endOfDigits_32 : decode cX7_endOfDigits 32 = .ok (.iload_n 3, 1) := by decide +kernel
theorem dX7_endOfDigits_33 : decode cX7_endOfDigits 33 = .ok (.iaload, 1) := by decide +kernel
theorem dX7_endOfDigits_34 : decode cX7_endOfDigits 34 = .ok (.bipush 57, 2) := by decide +kernel
theorem dX7_endOfDigits_36 : decode cX7_endOfDigits 36 = .ok (.if_icmp .gt 9, 3) := by decide +kernel
theorem dX7_endOfDigits_39 : decode cX7_endOfDigits 39 = .ok (.iinc 3 1, 3) := by decide +kernel
theorem dX7_endOfDigits_42 : decode cX7_endOfDigits 42 = .ok (.goto (-40), 3) := by decide +kernel
theorem dX7_endOfDigits_45 : decode cX7_endOfDigits 45 = .ok (.iload_n 3, 1) := by decide +kernel
theorem dX7_endOfDigits_46 : decode cX7_endOfDigits 46 = .ok (.ireturn, 1) := by decide +kernel
theorem dX7_leastDigits_0 : decode cX7_leastDigits 0 = .ok (.iload_n 0, 1) := by decide +kernel
theorem dX7_leastDigits_1 : decode cX7_leastDigits 1 = .ok (.lookupswitch 52 #[(100, 50), (104, 43), (108, 48), (112, 46)], 43) := by decide +kernel
theorem dX7_leastDigits_44 : decode cX7_leastDigits 44 = .ok (.bipush 9, 2) := by decide +kernel
theorem dX7_leastDigits_46 : decode cX7_leastDigits 46 = .ok (.ireturn, 1) := by decide +kernel
theorem dX7_leastDigits_47 : decode cX7_leastDigits 47 = .ok (.iconst 2, 1) := by decide +kernel
theorem dX7_leastDigits_48 : decode cX7_leastDigits 48 = .ok (.ireturn, 1) := by decide +kernel
theorem dX7_leastDigits_49 : decode cX7_leastDigits 49 = .ok (.iconst 1, 1) := by decide +kernel
theorem dX7_leastDigits_50 : decode cX7_leastDigits 50 = .ok (.ireturn, 1) := by decide +kernel
theorem dX7_leastDigits_51 : decode cX7_leastDigits 51 = .ok (.iconst 3, 1) := by decide +kernel
theorem dX7_leastDigits_52 : decode cX7_leastDigits 52 = .ok (.ireturn, 1) := by decide +kernel
theorem dX7_leastDigits_53 : decode cX7_leastDigits 53 = .ok (.iconst 0, 1) := by decide +kernel
theorem dX7_leastDigits_54 : decode cX7_leastDigits 54 = .ok (.ireturn, 1) := by decide +kernel
theorem dX7_mostDigits_0 : decode cX7_mostDigits 0 = .ok (.iload_n 0, 1) := by decide +kernel
theorem dX7_mostDigits_1 : decode cX7_mostDigits 1 = .ok (.lookupswitch 52 #[(100, 50), (104, 43), (108, 48), (112, 46)], 43) := by decide +kernel
theorem dX7_mostDigits_44 : decode cX7_mostDigits 44 = .ok (.bipush 11, 2) := by decide +kernel
theorem dX7_mostDigits_46 : decode cX7_mostDigits 46 = .ok (.ireturn, 1) := by decide +kernel
theorem dX7_mostDigits_47 : decode cX7_mostDigits 47 = .ok (.iconst 2, 1) := by decide +kernel
theorem dX7_mostDigits_48 : decode cX7_mostDigits 48 = .ok (.ireturn, 1) := by decide +kernel
theorem dX7_mostDigits_49 : decode cX7_mostDigits 49 = .ok (.iconst 1, 1) := by decide +kernel
theorem dX7_mostDigits_50 : decode cX7_mostDigits 50 = .ok (.ireturn, 1) := by decide +kernel
theorem dX7_mostDigits_51 : decode cX7_mostDigits 51 = .ok (.iconst 4, 1) := by decide +kernel
theorem dX7_mostDigits_52 : decode cX7_mostDigits 52 = .ok (.ireturn, 1) := by decide +kernel
theorem dX7_mostDigits_53 : decode cX7_mostDigits 53 = .ok (.iconst 0, 1) := by decide +kernel
theorem dX7_mostDigits_54 : decode cX7_mostDigits 54 = .ok (.ireturn, 1) := by decide +kernel
theorem dX7_endOfStatement_0 : decode cX7_endOfStatement 0 = .ok (.iload_n 1, 1) := by decide +kernel
theorem dX7_endOfStatement_1 : decode cX7_endOfStatement 1 = .ok (.istore_n 2, 1) := by decide +kernel
theorem dX7_endOfStatement_2 : decode cX7_endOfStatement 2 = .ok (.iload_n 2, 1) := by decide +kernel
theorem dX7_endOfStatement_3 : decode cX7_endOfStatement 3 = .ok (.aload_n 0, 1) := by decide +kernel
theorem dX7_endOfStatement_4 : decode cX7_endOfStatement 4 = .ok (.getfield 15, 3) := by decide +kernel
theorem dX7_endOfStatement_7 : decode cX7_endOfStatement 7 = .ok (.if_icmp .ge 20, 3) := by decide +kernel
theorem dX7_endOfStatement_10 : decode cX7_endOfStatement 10 = .ok (.aload_n 0, 1) := by decide +kernel
theorem dX7_endOfStatement_11 : decode cX7_endOfStatement 11 = .ok (.getfield 9, 3) := by decide +kernel
theorem dX7_endOfStatement_14 : decode cX7_endOfStatement 14 = .ok (.iload_n 2, 1) := by decide +kernel
theorem dX7_endOfStatement_15 : decode cX7_endOfStatement 15 = .ok (.iaload, 1) := by decide +kernel
theorem dX7_endOfStatement_16 : decode cX7_endOfStatement 16 = .ok (.bipush 59, 2) := by decide +kernel
theorem dX7_endOfStatement_18 : decode cX7_endOfStatement 18 = .ok (.if_icmp .eq 9, 3) := by decide +kernel
theorem dX7_endOfStatement_21 : decode cX7_endOfStatement 21 = .ok (.iinc 2 1, 3) := by decide +kernel
theorem dX7_endOfStatement_24 : decode cX7_endOfStatement 24 = .ok (.goto (-22), 3) := by decide +kernel
theorem dX7_endOfStatement_27 : decode cX7_endOfStatement 27 = .ok (.iload_n 2, 1) := by decide +kernel
theorem dX7_endOfStatement_28 : decode cX7_endOfStatement 28 = .ok (.ireturn, 1) := by decide +kernel
theorem dX7_number_0 : decode cX7_number 0 = .ok (.iconst 0, 1) := by decide +kernel
theorem dX7_number_1 : decode cX7_number 1 = .ok (.istore_n 3, 1) := by decide +kernel
theorem dX7_number_2 : decode cX7_number 2 = .ok (.iload_n 1, 1) := by decide +kernel
theorem dX7_number_3 : decode cX7_number 3 = .ok (.istore 4, 2) := by decide +kernel
theorem dX7_number_5 : decode cX7_number 5 = .ok (.iload 4, 2) := by decide +kernel
theorem dX7_number_7 : decode cX7_number 7 = .ok (.iload_n 2, 1) := by decide +kernel
theorem dX7_number_8 : decode cX7_number 8 = .ok (.if_icmp .ge 34, 3) := by decide +kernel
theorem dX7_number_11 : decode cX7_number 11 = .ok (.iload 4, 2) := by decide +kernel
theorem dX7_number_13 : decode cX7_number 13 = .ok (.aload_n 0, 1) := by decide +kernel
theorem dX7_number_14 : decode cX7_number 14 = .ok (.getfield 15, 3) := by decide +kernel
theorem dX7_number_17 : decode cX7_number 17 = .ok (.if_icmp .ge 25, 3) := by decide +kernel
theorem dX7_number_20 : decode cX7_number 20 = .ok (.iload_n 3, 1) := by decide +kernel
theorem dX7_number_21 : decode cX7_number 21 = .ok (.bipush 10, 2) := by decide +kernel
theorem dX7_number_23 : decode cX7_number 23 = .ok (.imul, 1) := by decide +kernel
theorem dX7_number_24 : decode cX7_number 24 = .ok (.aload_n 0, 1) := by decide +kernel
theorem dX7_number_25 : decode cX7_number 25 = .ok (.getfield 9, 3) := by decide +kernel
theorem dX7_number_28 : decode cX7_number 28 = .ok (.iload 4, 2) := by decide +kernel
theorem dX7_number_30 : decode cX7_number 30 = .ok (.iaload, 1) := by decide +kernel
theorem dX7_number_31 : decode cX7_number 31 = .ok (.iadd, 1) := by decide +kernel
theorem dX7_number_32 : decode cX7_number 32 = .ok (.bipush 48, 2) := by decide +kernel
theorem dX7_number_34 : decode cX7_number 34 = .ok (.isub, 1) := by decide +kernel
theorem dX7_number_35 : decode cX7_number 35 = .ok (.istore_n 3, 1) := by decide +kernel
theorem dX7_number_36 : decode cX7_number 36 = .ok (.iinc 4 1, 3) := by decide +kernel
theorem dX7_number_39 : decode cX7_number 39 = .ok (.goto (-34), 3) := by decide +kernel
theorem dX7_number_42 : decode cX7_number 42 = .ok (.iload_n 3, 1) := by decide +kernel
theorem dX7_number_43 : decode cX7_number 43 = .ok (.ireturn, 1) := by decide +kernel
theorem dX7_digit_0 : decode cX7_digit 0 = .ok (.aload_n 0, 1) := by decide +kernel
theorem dX7_digit_1 : decode cX7_digit 1 = .ok (.iload_n 1, 1) := by decide +kernel
theorem dX7_digit_2 : decode cX7_digit 2 = .ok (.iload_n 1, 1) := by decide +kernel
theorem dX7_digit_3 : decode cX7_digit 3 = .ok (.iconst 1, 1) := by decide +kernel
theorem dX7_digit_4 : decode cX7_digit 4 = .ok (.iadd, 1) := by decide +kernel
theorem dX7_digit_5 : decode cX7_digit 5 = .ok (.invokevirtual 34, 3) := by decide +kernel
theorem dX7_digit_8 : decode cX7_digit 8 = .ok (.ireturn, 1) := by decide +kernel
theorem dX7_tellTo_0 : decode cX7_tellTo 0 = .ok (.aload_n 0, 1) := by decide +kernel
theorem dX7_tellTo_1 : decode cX7_tellTo 1 = .ok (.invokevirtual 37, 3) := by decide +kernel
theorem dX7_tellTo_4 : decode cX7_tellTo 4 = .ok (.istore_n 2, 1) := by decide +kernel
theorem dX7_tellTo_5 : decode cX7_tellTo 5 = .ok (.iload_n 2, 1) := by decide +kernel
theorem dX7_tellTo_6 : decode cX7_tellTo 6 = .ok (.ifCond .lt 9, 3) := by decide +kernel
theorem dX7_tellTo_9 : decode cX7_tellTo 9 = .ok (.sipush (-1000), 3) := by decide +kernel
theorem dX7_tellTo_12 : decode cX7_tellTo 12 = .ok (.iload_n 2, 1) := by decide +kernel
theorem dX7_tellTo_13 : decode cX7_tellTo 13 = .ok (.isub, 1) := by decide +kernel
theorem dX7_tellTo_14 : decode cX7_tellTo 14 = .ok (.ireturn, 1) := by decide +kernel
theorem dX7_tellTo_15 : decode cX7_tellTo 15 = .ok (.iconst 0, 1) := by decide +kernel
theorem dX7_tellTo_16 : decode cX7_tellTo 16 = .ok (.istore_n 3, 1) := by decide +kernel
theorem dX7_tellTo_17 : decode cX7_tellTo 17 = .ok (.iconst 0, 1) := by decide +kernel
theorem dX7_tellTo_18 : decode cX7_tellTo 18 = .ok (.istore 4, 2) := by decide +kernel
theorem dX7_tellTo_20 : decode cX7_tellTo 20 = .ok (.iload 4, 2) := by decide +kernel
theorem dX7_tellTo_22 : decode cX7_tellTo 22 = .ok (.aload_n 0, 1) := by decide +kernel
theorem dX7_tellTo_23 : decode cX7_tellTo 23 = .ok (.getfield 15, 3) := by decide +kernel
theorem dX7_tellTo_26 : decode cX7_tellTo 26 = .ok (.if_icmp .ge 127, 3) := by decide +kernel
theorem dX7_tellTo_29 : decode cX7_tellTo 29 = .ok (.aload_n 0, 1) := by decide +kernel
theorem dX7_tellTo_30 : decode cX7_tellTo 30 = .ok (.iload 4, 2) := by decide +kernel
theorem dX7_tellTo_32 : decode cX7_tellTo 32 = .ok (.invokevirtual 41, 3) := by decide +kernel
theorem dX7_tellTo_35 : decode cX7_tellTo 35 = .ok (.istore 5, 2) := by decide +kernel
theorem dX7_tellTo_37 : decode cX7_tellTo 37 = .ok (.aload_n 0, 1) := by decide +kernel
theorem dX7_tellTo_38 : decode cX7_tellTo 38 = .ok (.getfield 9, 3) := by decide +kernel
theorem dX7_tellTo_41 : decode cX7_tellTo 41 = .ok (.iload 4, 2) := by decide +kernel
theorem dX7_tellTo_43 : decode cX7_tellTo 43 = .ok (.iaload, 1) := by decide +kernel
theorem dX7_tellTo_44 : decode cX7_tellTo 44 = .ok (.lookupswitch 74 #[(104, 36), (108, 62), (112, 50)], 36) := by decide +kernel
theorem dX7_tellTo_80 : decode cX7_tellTo 80 = .ok (.aload_n 0, 1) := by decide +kernel
theorem dX7_tellTo_81 : decode cX7_tellTo 81 = .ok (.aload_n 1, 1) := by decide +kernel
theorem dX7_tellTo_82 : decode cX7_tellTo 82 = .ok (.iload 4, 2) := by decide +kernel
theorem dX7_tellTo_84 : decode cX7_tellTo 84 = .ok (.iload 5, 2) := by decide +kernel
theorem dX7_tellTo_86 : decode cX7_tellTo 86 = .ok (.invokevirtual 44, 3) := by decide +kernel
theorem dX7_tellTo_89 : decode cX7_tellTo 89 = .ok (.istore 6, 2) := by decide +kernel
theorem dX7_tellTo_91 : decode cX7_tellTo 91 = .ok (.goto 38, 3) := by decide +kernel
theorem dX7_tellTo_94 : decode cX7_tellTo 94 = .ok (.aload_n 0, 1) := by decide +kernel
theorem dX7_tellTo_95 : decode cX7_tellTo 95 = .ok (.aload_n 1, 1) := by decide +kernel
theorem dX7_tellTo_96 : decode cX7_tellTo 96 = .ok (.iload 4, 2) := by decide +kernel
theorem dX7_tellTo_98 : decode cX7_tellTo 98 = .ok (.invokevirtual 48, 3) := by decide +kernel
theorem dX7_tellTo_101 : decode cX7_tellTo 101 = .ok (.istore 6, 2) := by decide +kernel
theorem dX7_tellTo_103 : decode cX7_tellTo 103 = .ok (.goto 26, 3) := by decide +kernel
theorem dX7_tellTo_106 : decode cX7_tellTo 106 = .ok (.aload_n 0, 1) := by decide +kernel
theorem dX7_tellTo_107 : decode cX7_tellTo 107 = .ok (.aload_n 1, 1) := by decide +kernel
theorem dX7_tellTo_108 : decode cX7_tellTo 108 = .ok (.iload 4, 2) := by decide +kernel
theorem dX7_tellTo_110 : decode cX7_tellTo 110 = .ok (.invokevirtual 52, 3) := by decide +kernel
theorem dX7_tellTo_113 : decode cX7_tellTo 113 = .ok (.istore 6, 2) := by decide +kernel
theorem dX7_tellTo_115 : decode cX7_tellTo 115 = .ok (.goto 14, 3) := by decide +kernel
theorem dX7_tellTo_118 : decode cX7_tellTo 118 = .ok (.aload_n 0, 1) := by decide +kernel
theorem dX7_tellTo_119 : decode cX7_tellTo 119 = .ok (.aload_n 1, 1) := by decide +kernel
theorem dX7_tellTo_120 : decode cX7_tellTo 120 = .ok (.iload 4, 2) := by decide +kernel
theorem dX7_tellTo_122 : decode cX7_tellTo 122 = .ok (.iload 5, 2) := by decide +kernel
theorem dX7_tellTo_124 : decode cX7_tellTo 124 = .ok (.invokevirtual 55, 3) := by decide +kernel
theorem dX7_tellTo_127 : decode cX7_tellTo 127 = .ok (.istore 6, 2) := by decide +kernel
theorem dX7_tellTo_129 : decode cX7_tellTo 129 = .ok (.iload 6, 2) := by decide +kernel
theorem dX7_tellTo_131 : decode cX7_tellTo 131 = .ok (.ifCond .ne 10, 3) := by decide +kernel
theorem dX7_tellTo_134 : decode cX7_tellTo 134 = .ok (.sipush (-2000), 3) := by decide +kernel
theorem dX7_tellTo_137 : decode cX7_tellTo 137 = .ok (.iload 4, 2) := by decide +kernel
theorem dX7_tellTo_139 : decode cX7_tellTo 139 = .ok (.isub, 1) := by decide +kernel
theorem dX7_tellTo_140 : decode cX7_tellTo 140 = .ok (.ireturn, 1) := by decide +kernel
theorem dX7_tellTo_141 : decode cX7_tellTo 141 = .ok (.iinc 3 1, 3) := by decide +kernel
theorem dX7_tellTo_144 : decode cX7_tellTo 144 = .ok (.iload 5, 2) := by decide +kernel
theorem dX7_tellTo_146 : decode cX7_tellTo 146 = .ok (.iconst 1, 1) := by decide +kernel
theorem dX7_tellTo_147 : decode cX7_tellTo 147 = .ok (.iadd, 1) := by decide +kernel
theorem dX7_tellTo_148 : decode cX7_tellTo 148 = .ok (.istore 4, 2) := by decide +kernel
theorem dX7_tellTo_150 : decode cX7_tellTo 150 = .ok (.goto (-130), 3) := by decide +kernel
theorem dX7_tellTo_153 : decode cX7_tellTo 153 = .ok (.iload_n 3, 1) := by decide +kernel
theorem dX7_tellTo_154 : decode cX7_tellTo 154 = .ok (.ireturn, 1) := by decide +kernel
theorem dX7_tellHouse_0 : decode cX7_tellHouse 0 = .ok (.aload_n 0, 1) := by decide +kernel
theorem dX7_tellHouse_1 : decode cX7_tellHouse 1 = .ok (.iload_n 2, 1) := by decide +kernel
theorem dX7_tellHouse_2 : decode cX7_tellHouse 2 = .ok (.iconst 2, 1) := by decide +kernel
theorem dX7_tellHouse_3 : decode cX7_tellHouse 3 = .ok (.iadd, 1) := by decide +kernel
theorem dX7_tellHouse_4 : decode cX7_tellHouse 4 = .ok (.invokevirtual 58, 3) := by decide +kernel
theorem dX7_tellHouse_7 : decode cX7_tellHouse 7 = .ok (.istore 4, 2) := by decide +kernel
theorem dX7_tellHouse_9 : decode cX7_tellHouse 9 = .ok (.aload_n 0, 1) := by decide +kernel
theorem dX7_tellHouse_10 : decode cX7_tellHouse 10 = .ok (.iload_n 2, 1) := by decide +kernel
theorem dX7_tellHouse_11 : decode cX7_tellHouse 11 = .ok (.iconst 3, 1) := by decide +kernel
theorem dX7_tellHouse_12 : decode cX7_tellHouse 12 = .ok (.iadd, 1) := by decide +kernel
theorem dX7_tellHouse_13 : decode cX7_tellHouse 13 = .ok (.iload_n 2, 1) := by decide +kernel
theorem dX7_tellHouse_14 : decode cX7_tellHouse 14 = .ok (.iconst 5, 1) := by decide +kernel
theorem dX7_tellHouse_15 : decode cX7_tellHouse 15 = .ok (.iadd, 1) := by decide +kernel
theorem dX7_tellHouse_16 : decode cX7_tellHouse 16 = .ok (.invokevirtual 34, 3) := by decide +kernel
theorem dX7_tellHouse_19 : decode cX7_tellHouse 19 = .ok (.istore 5, 2) := by decide +kernel
theorem dX7_tellHouse_21 : decode cX7_tellHouse 21 = .ok (.aload_n 0, 1) := by decide +kernel
theorem dX7_tellHouse_22 : decode cX7_tellHouse 22 = .ok (.iload_n 2, 1) := by decide +kernel
theorem dX7_tellHouse_23 : decode cX7_tellHouse 23 = .ok (.iconst 5, 1) := by decide +kernel
theorem dX7_tellHouse_24 : decode cX7_tellHouse 24 = .ok (.iadd, 1) := by decide +kernel
theorem dX7_tellHouse_25 : decode cX7_tellHouse 25 = .ok (.invokevirtual 58, 3) := by decide +kernel
theorem dX7_tellHouse_28 : decode cX7_tellHouse 28 = .ok (.istore 6, 2) := by decide +kernel
theorem dX7_tellHouse_30 : decode cX7_tellHouse 30 = .ok (.aload_n 0, 1) := by decide +kernel
theorem dX7_tellHouse_31 : decode cX7_tellHouse 31 = .ok (.iload_n 2, 1) := by decide +kernel
theorem dX7_tellHouse_32 : decode cX7_tellHouse 32 = .ok (.bipush 6, 2) := by decide +kernel
theorem dX7_tellHouse_34 : decode cX7_tellHouse 34 = .ok (.iadd, 1) := by decide +kernel
theorem dX7_tellHouse_35 : decode cX7_tellHouse 35 = .ok (.invokevirtual 58, 3) := by decide +kernel
theorem dX7_tellHouse_38 : decode cX7_tellHouse 38 = .ok (.istore 7, 2) := by decide +kernel
theorem dX7_tellHouse_40 : decode cX7_tellHouse 40 = .ok (.aload_n 0, 1) := by decide +kernel
theorem dX7_tellHouse_41 : decode cX7_tellHouse 41 = .ok (.iload_n 2, 1) := by decide +kernel
theorem dX7_tellHouse_42 : decode cX7_tellHouse 42 = .ok (.bipush 7, 2) := by decide +kernel
theorem dX7_tellHouse_44 : decode cX7_tellHouse 44 = .ok (.iadd, 1) := by decide +kernel
theorem dX7_tellHouse_45 : decode cX7_tellHouse 45 = .ok (.invokevirtual 58, 3) := by decide +kernel
theorem dX7_tellHouse_48 : decode cX7_tellHouse 48 = .ok (.istore 8, 2) := by decide +kernel
theorem dX7_tellHouse_50 : decode cX7_tellHouse 50 = .ok (.aload_n 0, 1) := by decide +kernel
theorem dX7_tellHouse_51 : decode cX7_tellHouse 51 = .ok (.iload_n 2, 1) := by decide +kernel
theorem dX7_tellHouse_52 : decode cX7_tellHouse 52 = .ok (.bipush 8, 2) := by decide +kernel
theorem dX7_tellHouse_54 : decode cX7_tellHouse 54 = .ok (.iadd, 1) := by decide +kernel
theorem dX7_tellHouse_55 : decode cX7_tellHouse 55 = .ok (.invokevirtual 58, 3) := by decide +kernel
theorem dX7_tellHouse_58 : decode cX7_tellHouse 58 = .ok (.istore 9, 2) := by decide +kernel
theorem dX7_tellHouse_60 : decode cX7_tellHouse 60 = .ok (.iload 6, 2) := by decide +kernel
theorem dX7_tellHouse_62 : decode cX7_tellHouse 62 = .ok (.invokestatic 61, 3) := by decide +kernel
theorem dX7_tellHouse_65 : decode cX7_tellHouse 65 = .ok (.ifCond .eq 11, 3) := by decide +kernel
theorem dX7_tellHouse_68 : decode cX7_tellHouse 68 = .ok (.iload 8, 2) := by decide +kernel
theorem dX7_tellHouse_70 : decode cX7_tellHouse 70 = .ok (.invokestatic 61, 3) := by decide +kernel
theorem dX7_tellHouse_73 : decode cX7_tellHouse 73 = .ok (.ifCond .ne 5, 3) := by decide +kernel
theorem dX7_tellHouse_76 : decode cX7_tellHouse 76 = .ok (.iconst 0, 1) := by decide +kernel
theorem dX7_tellHouse_77 : decode cX7_tellHouse 77 = .ok (.ireturn, 1) := by decide +kernel
theorem dX7_tellHouse_78 : decode cX7_tellHouse 78 = .ok (.aload_n 0, 1) := by decide +kernel
theorem dX7_tellHouse_79 : decode cX7_tellHouse 79 = .ok (.iload_n 2, 1) := by decide +kernel
theorem dX7_tellHouse_80 : decode cX7_tellHouse 80 = .ok (.iconst 1, 1) := by decide +kernel
theorem dX7_tellHouse_81 : decode cX7_tellHouse 81 = .ok (.iadd, 1) := by decide +kernel
theorem dX7_tellHouse_82 : decode cX7_tellHouse 82 = .ok (.invokevirtual 58, 3) := by decide +kernel
theorem dX7_tellHouse_85 : decode cX7_tellHouse 85 = .ok (.tableswitch 183 0 5 #[39, 63, 87, 111, 135, 159], 39) := by decide +kernel
theorem dX7_tellHouse_124 : decode cX7_tellHouse 124 = .ok (.new 65, 3) := by decide +kernel
theorem dX7_tellHouse_127 : decode cX7_tellHouse 127 = .ok (.dup, 1) := by decide +kernel
theorem dX7_tellHouse_128 : decode cX7_tellHouse 128 = .ok (.iload 4, 2) := by decide +kernel
theorem dX7_tellHouse_130 : decode cX7_tellHouse 130 = .ok (.iload 5, 2) := by decide +kernel
theorem dX7_tellHouse_132 : decode cX7_tellHouse 132 = .ok (.iload 6, 2) := by decide +kernel
theorem dX7_tellHouse_134 : decode cX7_tellHouse 134 = .ok (.iload 7, 2) := by decide +kernel
theorem dX7_tellHouse_136 : decode cX7_tellHouse 136 = .ok (.iload 8, 2) := by decide +kernel
theorem dX7_tellHouse_138 : decode cX7_tellHouse 138 = .ok (.iload 9, 2) := by decide +kernel
theorem dX7_tellHouse_140 : decode cX7_tellHouse 140 = .ok (.invokespecial 67, 3) := by decide +kernel
theorem dX7_tellHouse_143 : decode cX7_tellHouse 143 = .ok (.astore 10, 2) := by decide +kernel
theorem dX7_tellHouse_145 : decode cX7_tellHouse 145 = .ok (.goto 125, 3) := by decide +kernel
theorem dX7_tellHouse_148 : decode cX7_tellHouse 148 = .ok (.new 70, 3) := by decide +kernel
theorem dX7_tellHouse_151 : decode cX7_tellHouse 151 = .ok (.dup, 1) := by decide +kernel
theorem dX7_tellHouse_152 : decode cX7_tellHouse 152 = .ok (.iload 4, 2) := by decide +kernel
theorem dX7_tellHouse_154 : decode cX7_tellHouse 154 = .ok (.iload 5, 2) := by decide +kernel
theorem dX7_tellHouse_156 : decode cX7_tellHouse 156 = .ok (.iload 6, 2) := by decide +kernel
theorem dX7_tellHouse_158 : decode cX7_tellHouse 158 = .ok (.iload 7, 2) := by decide +kernel
theorem dX7_tellHouse_160 : decode cX7_tellHouse 160 = .ok (.iload 8, 2) := by decide +kernel
theorem dX7_tellHouse_162 : decode cX7_tellHouse 162 = .ok (.iload 9, 2) := by decide +kernel
theorem dX7_tellHouse_164 : decode cX7_tellHouse 164 = .ok (.invokespecial 72, 3) := by decide +kernel
theorem dX7_tellHouse_167 : decode cX7_tellHouse 167 = .ok (.astore 10, 2) := by decide +kernel
theorem dX7_tellHouse_169 : decode cX7_tellHouse 169 = .ok (.goto 101, 3) := by decide +kernel
theorem dX7_tellHouse_172 : decode cX7_tellHouse 172 = .ok (.new 73, 3) := by decide +kernel
theorem dX7_tellHouse_175 : decode cX7_tellHouse 175 = .ok (.dup, 1) := by decide +kernel
theorem dX7_tellHouse_176 : decode cX7_tellHouse 176 = .ok (.iload 4, 2) := by decide +kernel
theorem dX7_tellHouse_178 : decode cX7_tellHouse 178 = .ok (.iload 5, 2) := by decide +kernel
theorem dX7_tellHouse_180 : decode cX7_tellHouse 180 = .ok (.iload 6, 2) := by decide +kernel
theorem dX7_tellHouse_182 : decode cX7_tellHouse 182 = .ok (.iload 7, 2) := by decide +kernel
theorem dX7_tellHouse_184 : decode cX7_tellHouse 184 = .ok (.iload 8, 2) := by decide +kernel
theorem dX7_tellHouse_186 : decode cX7_tellHouse 186 = .ok (.iload 9, 2) := by decide +kernel
theorem dX7_tellHouse_188 : decode cX7_tellHouse 188 = .ok (.invokespecial 75, 3) := by decide +kernel
theorem dX7_tellHouse_191 : decode cX7_tellHouse 191 = .ok (.astore 10, 2) := by decide +kernel
theorem dX7_tellHouse_193 : decode cX7_tellHouse 193 = .ok (.goto 77, 3) := by decide +kernel
theorem dX7_tellHouse_196 : decode cX7_tellHouse 196 = .ok (.new 76, 3) := by decide +kernel
theorem dX7_tellHouse_199 : decode cX7_tellHouse 199 = .ok (.dup, 1) := by decide +kernel
theorem dX7_tellHouse_200 : decode cX7_tellHouse 200 = .ok (.iload 4, 2) := by decide +kernel
theorem dX7_tellHouse_202 : decode cX7_tellHouse 202 = .ok (.iload 5, 2) := by decide +kernel
theorem dX7_tellHouse_204 : decode cX7_tellHouse 204 = .ok (.iload 6, 2) := by decide +kernel
theorem dX7_tellHouse_206 : decode cX7_tellHouse 206 = .ok (.iload 7, 2) := by decide +kernel
theorem dX7_tellHouse_208 : decode cX7_tellHouse 208 = .ok (.iload 8, 2) := by decide +kernel
theorem dX7_tellHouse_210 : decode cX7_tellHouse 210 = .ok (.iload 9, 2) := by decide +kernel
theorem dX7_tellHouse_212 : decode cX7_tellHouse 212 = .ok (.invokespecial 78, 3) := by decide +kernel
theorem dX7_tellHouse_215 : decode cX7_tellHouse 215 = .ok (.astore 10, 2) := by decide +kernel
theorem dX7_tellHouse_217 : decode cX7_tellHouse 217 = .ok (.goto 53, 3) := by decide +kernel
theorem dX7_tellHouse_220 : decode cX7_tellHouse 220 = .ok (.new 79, 3) := by decide +kernel
theorem dX7_tellHouse_223 : decode cX7_tellHouse 223 = .ok (.dup, 1) := by decide +kernel
theorem dX7_tellHouse_224 : decode cX7_tellHouse 224 = .ok (.iload 4, 2) := by decide +kernel
theorem dX7_tellHouse_226 : decode cX7_tellHouse 226 = .ok (.iload 5, 2) := by decide +kernel
theorem dX7_tellHouse_228 : decode cX7_tellHouse 228 = .ok (.iload 6, 2) := by decide +kernel
theorem dX7_tellHouse_230 : decode cX7_tellHouse 230 = .ok (.iload 7, 2) := by decide +kernel
theorem dX7_tellHouse_232 : decode cX7_tellHouse 232 = .ok (.iload 8, 2) := by decide +kernel
theorem dX7_tellHouse_234 : decode cX7_tellHouse 234 = .ok (.iload 9, 2) := by decide +kernel
theorem dX7_tellHouse_236 : decode cX7_tellHouse 236 = .ok (.invokespecial 81, 3) := by decide +kernel
theorem dX7_tellHouse_239 : decode cX7_tellHouse 239 = .ok (.astore 10, 2) := by decide +kernel
theorem dX7_tellHouse_241 : decode cX7_tellHouse 241 = .ok (.goto 29, 3) := by decide +kernel
theorem dX7_tellHouse_244 : decode cX7_tellHouse 244 = .ok (.new 82, 3) := by decide +kernel
theorem dX7_tellHouse_247 : decode cX7_tellHouse 247 = .ok (.dup, 1) := by decide +kernel
theorem dX7_tellHouse_248 : decode cX7_tellHouse 248 = .ok (.iload 4, 2) := by decide +kernel
theorem dX7_tellHouse_250 : decode cX7_tellHouse 250 = .ok (.iload 5, 2) := by decide +kernel
theorem dX7_tellHouse_252 : decode cX7_tellHouse 252 = .ok (.iload 6, 2) := by decide +kernel
theorem dX7_tellHouse_254 : decode cX7_tellHouse 254 = .ok (.iload 7, 2) := by decide +kernel
theorem dX7_tellHouse_256 : decode cX7_tellHouse 256 = .ok (.iload 8, 2) := by decide +kernel
theorem dX7_tellHouse_258 : decode cX7_tellHouse 258 = .ok (.iload 9, 2) := by decide +kernel
theorem dX7_tellHouse_260 : decode cX7_tellHouse 260 = .ok (.invokespecial 84, 3) := by decide +kernel
theorem dX7_tellHouse_263 : decode cX7_tellHouse 263 = .ok (.astore 10, 2) := by decide +kernel
theorem dX7_tellHouse_265 : decode cX7_tellHouse 265 = .ok (.goto 5, 3) := by decide +kernel
theorem dX7_tellHouse_268 : decode cX7_tellHouse 268 = .ok (.iconst 0, 1) := by decide +kernel
theorem dX7_tellHouse_269 : decode cX7_tellHouse 269 = .ok (.ireturn, 1) := by decide +kernel
theorem dX7_tellHouse_270 : decode cX7_tellHouse 270 = .ok (.aload_n 1, 1) := by decide +kernel
theorem dX7_tellHouse_271 : decode cX7_tellHouse 271 = .ok (.aload 10, 2) := by decide +kernel
theorem dX7_tellHouse_273 : decode cX7_tellHouse 273 = .ok (.aload_n 0, 1) := by decide +kernel
theorem dX7_tellHouse_274 : decode cX7_tellHouse 274 = .ok (.iload_n 2, 1) := by decide +kernel
theorem dX7_tellHouse_275 : decode cX7_tellHouse 275 = .ok (.bipush 9, 2) := by decide +kernel
theorem dX7_tellHouse_277 : decode cX7_tellHouse 277 = .ok (.iadd, 1) := by decide +kernel
theorem dX7_tellHouse_278 : decode cX7_tellHouse 278 = .ok (.iload_n 3, 1) := by decide +kernel
theorem dX7_tellHouse_279 : decode cX7_tellHouse 279 = .ok (.invokevirtual 34, 3) := by decide +kernel
theorem dX7_tellHouse_282 : decode cX7_tellHouse 282 = .ok (.invokevirtual 85, 3) := by decide +kernel
theorem dX7_tellHouse_285 : decode cX7_tellHouse 285 = .ok (.ireturn, 1) := by decide +kernel
theorem dX7_tellPrice_0 : decode cX7_tellPrice 0 = .ok (.aload_n 0, 1) := by decide +kernel
theorem dX7_tellPrice_1 : decode cX7_tellPrice 1 = .ok (.iload_n 2, 1) := by decide +kernel
theorem dX7_tellPrice_2 : decode cX7_tellPrice 2 = .ok (.iconst 1, 1) := by decide +kernel
theorem dX7_tellPrice_3 : decode cX7_tellPrice 3 = .ok (.iadd, 1) := by decide +kernel
theorem dX7_tellPrice_4 : decode cX7_tellPrice 4 = .ok (.invokevirtual 58, 3) := by decide +kernel
theorem dX7_tellPrice_7 : decode cX7_tellPrice 7 = .ok (.istore_n 3, 1) := by decide +kernel
theorem dX7_tellPrice_8 : decode cX7_tellPrice 8 = .ok (.aload_n 0, 1) := by decide +kernel
theorem dX7_tellPrice_9 : decode cX7_tellPrice 9 = .ok (.iload_n 2, 1) := by decide +kernel
theorem dX7_tellPrice_10 : decode cX7_tellPrice 10 = .ok (.iconst 2, 1) := by decide +kernel
theorem dX7_tellPrice_11 : decode cX7_tellPrice 11 = .ok (.iadd, 1) := by decide +kernel
theorem dX7_tellPrice_12 : decode cX7_tellPrice 12 = .ok (.invokevirtual 58, 3) := by decide +kernel
theorem dX7_tellPrice_15 : decode cX7_tellPrice 15 = .ok (.istore 4, 2) := by decide +kernel
theorem dX7_tellPrice_17 : decode cX7_tellPrice 17 = .ok (.iload_n 3, 1) := by decide +kernel
theorem dX7_tellPrice_18 : decode cX7_tellPrice 18 = .ok (.invokestatic 61, 3) := by decide +kernel
theorem dX7_tellPrice_21 : decode cX7_tellPrice 21 = .ok (.ifCond .eq 16, 3) := by decide +kernel
theorem dX7_tellPrice_24 : decode cX7_tellPrice 24 = .ok (.iload 4, 2) := by decide +kernel
theorem dX7_tellPrice_26 : decode cX7_tellPrice 26 = .ok (.iconst 1, 1) := by decide +kernel
theorem dX7_tellPrice_27 : decode cX7_tellPrice 27 = .ok (.if_icmp .lt 10, 3) := by decide +kernel
theorem dX7_tellPrice_30 : decode cX7_tellPrice 30 = .ok (.iload 4, 2) := by decide +kernel
theorem dX7_tellPrice_32 : decode cX7_tellPrice 32 = .ok (.bipush 9, 2) := by decide +kernel
theorem dX7_tellPrice_34 : decode cX7_tellPrice 34 = .ok (.if_icmp .le 5, 3) := by decide +kernel
theorem dX7_tellPrice_37 : decode cX7_tellPrice 37 = .ok (.iconst 0, 1) := by decide +kernel
theorem dX7_tellPrice_38 : decode cX7_tellPrice 38 = .ok (.ireturn, 1) := by decide +kernel
theorem dX7_tellPrice_39 : decode cX7_tellPrice 39 = .ok (.aload_n 1, 1) := by decide +kernel
theorem dX7_tellPrice_40 : decode cX7_tellPrice 40 = .ok (.getfield 91, 3) := by decide +kernel
theorem dX7_tellPrice_43 : decode cX7_tellPrice 43 = .ok (.iload_n 3, 1) := by decide +kernel
theorem dX7_tellPrice_44 : decode cX7_tellPrice 44 = .ok (.iload 4, 2) := by decide +kernel
theorem dX7_tellPrice_46 : decode cX7_tellPrice 46 = .ok (.iastore, 1) := by decide +kernel
theorem dX7_tellPrice_47 : decode cX7_tellPrice 47 = .ok (.iconst 1, 1) := by decide +kernel
theorem dX7_tellPrice_48 : decode cX7_tellPrice 48 = .ok (.ireturn, 1) := by decide +kernel
theorem dX7_tellLaw_0 : decode cX7_tellLaw 0 = .ok (.aload_n 0, 1) := by decide +kernel
theorem dX7_tellLaw_1 : decode cX7_tellLaw 1 = .ok (.iload_n 2, 1) := by decide +kernel
theorem dX7_tellLaw_2 : decode cX7_tellLaw 2 = .ok (.iconst 1, 1) := by decide +kernel
theorem dX7_tellLaw_3 : decode cX7_tellLaw 3 = .ok (.iadd, 1) := by decide +kernel
theorem dX7_tellLaw_4 : decode cX7_tellLaw 4 = .ok (.invokevirtual 58, 3) := by decide +kernel
theorem dX7_tellLaw_7 : decode cX7_tellLaw 7 = .ok (.istore_n 3, 1) := by decide +kernel
theorem dX7_tellLaw_8 : decode cX7_tellLaw 8 = .ok (.iload_n 3, 1) := by decide +kernel
theorem dX7_tellLaw_9 : decode cX7_tellLaw 9 = .ok (.invokestatic 94, 3) := by decide +kernel
theorem dX7_tellLaw_12 : decode cX7_tellLaw 12 = .ok (.ifCond .ne 5, 3) := by decide +kernel
theorem dX7_tellLaw_15 : decode cX7_tellLaw 15 = .ok (.iconst 0, 1) := by decide +kernel
theorem dX7_tellLaw_16 : decode cX7_tellLaw 16 = .ok (.ireturn, 1) := by decide +kernel
theorem dX7_tellLaw_17 : decode cX7_tellLaw 17 = .ok (.aload_n 1, 1) := by decide +kernel
theorem dX7_tellLaw_18 : decode cX7_tellLaw 18 = .ok (.iload_n 3, 1) := by decide +kernel
theorem dX7_tellLaw_19 : decode cX7_tellLaw 19 = .ok (.putfield 97, 3) := by decide +kernel
theorem dX7_tellLaw_22 : decode cX7_tellLaw 22 = .ok (.iconst 1, 1) := by decide +kernel
theorem dX7_tellLaw_23 : decode cX7_tellLaw 23 = .ok (.ireturn, 1) := by decide +kernel
theorem dX7_tellDebt_0 : decode cX7_tellDebt 0 = .ok (.aload_n 0, 1) := by decide +kernel
theorem dX7_tellDebt_1 : decode cX7_tellDebt 1 = .ok (.iload_n 2, 1) := by decide +kernel
theorem dX7_tellDebt_2 : decode cX7_tellDebt 2 = .ok (.iconst 1, 1) := by decide +kernel
theorem dX7_tellDebt_3 : decode cX7_tellDebt 3 = .ok (.iadd, 1) := by decide +kernel
theorem dX7_tellDebt_4 : decode cX7_tellDebt 4 = .ok (.invokevirtual 58, 3) := by decide +kernel
theorem dX7_tellDebt_7 : decode cX7_tellDebt 7 = .ok (.istore 4, 2) := by decide +kernel
theorem dX7_tellDebt_9 : decode cX7_tellDebt 9 = .ok (.aload_n 0, 1) := by decide +kernel
theorem dX7_tellDebt_10 : decode cX7_tellDebt 10 = .ok (.iload_n 2, 1) := by decide +kernel
theorem dX7_tellDebt_11 : decode cX7_tellDebt 11 = .ok (.iconst 2, 1) := by decide +kernel
theorem dX7_tellDebt_12 : decode cX7_tellDebt 12 = .ok (.iadd, 1) := by decide +kernel
theorem dX7_tellDebt_13 : decode cX7_tellDebt 13 = .ok (.invokevirtual 58, 3) := by decide +kernel
theorem dX7_tellDebt_16 : decode cX7_tellDebt 16 = .ok (.istore 5, 2) := by decide +kernel
theorem dX7_tellDebt_18 : decode cX7_tellDebt 18 = .ok (.aload_n 1, 1) := by decide +kernel
theorem dX7_tellDebt_19 : decode cX7_tellDebt 19 = .ok (.iload 4, 2) := by decide +kernel
theorem dX7_tellDebt_21 : decode cX7_tellDebt 21 = .ok (.iload 5, 2) := by decide +kernel
theorem dX7_tellDebt_23 : decode cX7_tellDebt 23 = .ok (.invokevirtual 100, 3) := by decide +kernel
theorem dX7_tellDebt_26 : decode cX7_tellDebt 26 = .ok (.ifCond .ne 5, 3) := by decide +kernel
theorem dX7_tellDebt_29 : decode cX7_tellDebt 29 = .ok (.iconst 0, 1) := by decide +kernel
theorem dX7_tellDebt_30 : decode cX7_tellDebt 30 = .ok (.ireturn, 1) := by decide +kernel
theorem dX7_tellDebt_31 : decode cX7_tellDebt 31 = .ok (.aload_n 1, 1) := by decide +kernel
theorem dX7_tellDebt_32 : decode cX7_tellDebt 32 = .ok (.getfield 104, 3) := by decide +kernel
theorem dX7_tellDebt_35 : decode cX7_tellDebt 35 = .ok (.iload 4, 2) := by decide +kernel
theorem dX7_tellDebt_37 : decode cX7_tellDebt 37 = .ok (.iload 5, 2) := by decide +kernel
theorem dX7_tellDebt_39 : decode cX7_tellDebt 39 = .ok (.aload_n 0, 1) := by decide +kernel
theorem dX7_tellDebt_40 : decode cX7_tellDebt 40 = .ok (.iload_n 2, 1) := by decide +kernel
theorem dX7_tellDebt_41 : decode cX7_tellDebt 41 = .ok (.iconst 3, 1) := by decide +kernel
theorem dX7_tellDebt_42 : decode cX7_tellDebt 42 = .ok (.iadd, 1) := by decide +kernel
theorem dX7_tellDebt_43 : decode cX7_tellDebt 43 = .ok (.iload_n 3, 1) := by decide +kernel
theorem dX7_tellDebt_44 : decode cX7_tellDebt 44 = .ok (.invokevirtual 34, 3) := by decide +kernel
theorem dX7_tellDebt_47 : decode cX7_tellDebt 47 = .ok (.invokevirtual 108, 3) := by decide +kernel
theorem dX7_tellDebt_50 : decode cX7_tellDebt 50 = .ok (.iconst 1, 1) := by decide +kernel
theorem dX7_tellDebt_51 : decode cX7_tellDebt 51 = .ok (.ireturn, 1) := by decide +kernel
theorem dX8_init_0 : decode cX8_init 0 = .ok (.aload_n 0, 1) := by decide +kernel
theorem dX8_init_1 : decode cX8_init 1 = .ok (.iload_n 1, 1) := by decide +kernel
theorem dX8_init_2 : decode cX8_init 2 = .ok (.iload_n 2, 1) := by decide +kernel
theorem dX8_init_3 : decode cX8_init 3 = .ok (.iload_n 3, 1) := by decide +kernel
theorem dX8_init_4 : decode cX8_init 4 = .ok (.iload 4, 2) := by decide +kernel
theorem dX8_init_6 : decode cX8_init 6 = .ok (.iload 5, 2) := by decide +kernel
theorem dX8_init_8 : decode cX8_init 8 = .ok (.iload 6, 2) := by decide +kernel
theorem dX8_init_10 : decode cX8_init 10 = .ok (.invokespecial 1, 3) := by decide +kernel
theorem dX8_init_13 : decode cX8_init 13 = .ok (.return_, 1) := by decide +kernel
theorem dX8_kind_0 : decode cX8_kind 0 = .ok (.iconst 4, 1) := by decide +kernel
theorem dX8_kind_1 : decode cX8_kind 1 = .ok (.ireturn, 1) := by decide +kernel
theorem dX8_sellsAt_0 : decode cX8_sellsAt 0 = .ok (.aload_n 0, 1) := by decide +kernel
theorem dX8_sellsAt_1 : decode cX8_sellsAt 1 = .ok (.getfield 7, 3) := by decide +kernel
theorem dX8_sellsAt_4 : decode cX8_sellsAt 4 = .ok (.aload_n 0, 1) := by decide +kernel
theorem dX8_sellsAt_5 : decode cX8_sellsAt 5 = .ok (.getfield 13, 3) := by decide +kernel
theorem dX8_sellsAt_8 : decode cX8_sellsAt 8 = .ok (.iadd, 1) := by decide +kernel
theorem dX8_sellsAt_9 : decode cX8_sellsAt 9 = .ok (.ireturn, 1) := by decide +kernel
theorem dX9_init_0 : decode cX9_init 0 = .ok (.aload_n 0, 1) := by decide +kernel
theorem dX9_init_1 : decode cX9_init 1 = .ok (.invokespecial 3, 3) := by decide +kernel
theorem dX9_init_4 : decode cX9_init 4 = .ok (.aload_n 0, 1) := by decide +kernel
theorem dX9_init_5 : decode cX9_init 5 = .ok (.bipush 6, 2) := by decide +kernel
theorem dX9_init_7 : decode cX9_init 7 = .ok (.newarray .int, 2) := by decide +kernel
theorem dX9_init_9 : decode cX9_init 9 = .ok (.putfield 9, 3) := by decide +kernel
theorem dX9_init_12 : decode cX9_init 12 = .ok (.return_, 1) := by decide +kernel
theorem dX9_clear_0 : decode cX9_clear 0 = .ok (.aload_n 0, 1) := by decide +kernel
theorem dX9_clear_1 : decode cX9_clear 1 = .ok (.iconst 0, 1) := by decide +kernel
theorem dX9_clear_2 : decode cX9_clear 2 = .ok (.putfield 15, 3) := by decide +kernel
theorem dX9_clear_5 : decode cX9_clear 5 = .ok (.aload_n 0, 1) := by decide +kernel
theorem dX9_clear_6 : decode cX9_clear 6 = .ok (.invokevirtual 19, 3) := by decide +kernel
theorem dX9_clear_9 : decode cX9_clear 9 = .ok (.iconst 0, 1) := by decide +kernel
theorem dX9_clear_10 : decode cX9_clear 10 = .ok (.istore_n 1, 1) := by decide +kernel
theorem dX9_clear_11 : decode cX9_clear 11 = .ok (.iload_n 1, 1) := by decide +kernel
theorem dX9_clear_12 : decode cX9_clear 12 = .ok (.aload_n 0, 1) := by decide +kernel
theorem dX9_clear_13 : decode cX9_clear 13 = .ok (.getfield 9, 3) := by decide +kernel
theorem dX9_clear_16 : decode cX9_clear 16 = .ok (.arraylength, 1) := by decide +kernel
theorem dX9_clear_17 : decode cX9_clear 17 = .ok (.if_icmp .ge 16, 3) := by decide +kernel
theorem dX9_clear_20 : decode cX9_clear 20 = .ok (.aload_n 0, 1) := by decide +kernel
theorem dX9_clear_21 : decode cX9_clear 21 = .ok (.getfield 9, 3) := by decide +kernel
theorem dX9_clear_24 : decode cX9_clear 24 = .ok (.iload_n 1, 1) := by decide +kernel
theorem dX9_clear_25 : decode cX9_clear 25 = .ok (.iconst 0, 1) := by decide +kernel
theorem dX9_clear_26 : decode cX9_clear 26 = .ok (.iastore, 1) := by decide +kernel
theorem dX9_clear_27 : decode cX9_clear 27 = .ok (.iinc 1 1, 3) := by decide +kernel
theorem dX9_clear_30 : decode cX9_clear 30 = .ok (.goto (-19), 3) := by decide +kernel
theorem dX9_clear_33 : decode cX9_clear 33 = .ok (.return_, 1) := by decide +kernel
theorem dX9_beginWeek_0 : decode cX9_beginWeek 0 = .ok (.aload_n 0, 1) := by decide +kernel
theorem dX9_beginWeek_1 : decode cX9_beginWeek 1 = .ok (.iconst 0, 1) := by decide +kernel
theorem dX9_beginWeek_2 : decode cX9_beginWeek 2 = .ok (.putfield 22, 3) := by decide +kernel
theorem dX9_beginWeek_5 : decode cX9_beginWeek 5 = .ok (.aload_n 0, 1) := by decide +kernel
theorem dX9_beginWeek_6 : decode cX9_beginWeek 6 = .ok (.iconst 0, 1) := by decide +kernel
theorem dX9_beginWeek_7 : decode cX9_beginWeek 7 = .ok (.putfield 25, 3) := by decide +kernel
theorem dX9_beginWeek_10 : decode cX9_beginWeek 10 = .ok (.return_, 1) := by decide +kernel
theorem dX9_addUse_0 : decode cX9_addUse 0 = .ok (.aload_n 0, 1) := by decide +kernel
theorem dX9_addUse_1 : decode cX9_addUse 1 = .ok (.dup, 1) := by decide +kernel
theorem dX9_addUse_2 : decode cX9_addUse 2 = .ok (.getfield 15, 3) := by decide +kernel
theorem dX9_addUse_5 : decode cX9_addUse 5 = .ok (.iload_n 2, 1) := by decide +kernel
theorem dX9_addUse_6 : decode cX9_addUse 6 = .ok (.iadd, 1) := by decide +kernel
theorem dX9_addUse_7 : decode cX9_addUse 7 = .ok (.putfield 15, 3) := by decide +kernel
theorem dX9_addUse_10 : decode cX9_addUse 10 = .ok (.aload_n 0, 1) := by decide +kernel
theorem dX9_addUse_11 : decode cX9_addUse 11 = .ok (.getfield 9, 3) := by decide +kernel
theorem dX9_addUse_14 : decode cX9_addUse 14 = .ok (.iload_n 1, 1) := by decide +kernel
theorem dX9_addUse_15 : decode cX9_addUse 15 = .ok (.dup2, 1) := by decide +kernel
theorem dX9_addUse_16 : decode cX9_addUse 16 = .ok (.iaload, 1) := by decide +kernel
theorem dX9_addUse_17 : decode cX9_addUse 17 = .ok (.iload_n 2, 1) := by decide +kernel
theorem dX9_addUse_18 : decode cX9_addUse 18 = .ok (.iadd, 1) := by decide +kernel
theorem dX9_addUse_19 : decode cX9_addUse 19 = .ok (.iastore, 1) := by decide +kernel
theorem dX9_addUse_20 : decode cX9_addUse 20 = .ok (.aload_n 0, 1) := by decide +kernel
theorem dX9_addUse_21 : decode cX9_addUse 21 = .ok (.dup, 1) := by decide +kernel
theorem dX9_addUse_22 : decode cX9_addUse 22 = .ok (.getfield 25, 3) := by decide +kernel
theorem dX9_addUse_25 : decode cX9_addUse 25 = .ok (.iload_n 3, 1) := by decide +kernel
theorem dX9_addUse_26 : decode cX9_addUse 26 = .ok (.iload_n 2, 1) := by decide +kernel
theorem dX9_addUse_27 : decode cX9_addUse 27 = .ok (.isub, 1) := by decide +kernel
theorem dX9_addUse_28 : decode cX9_addUse 28 = .ok (.iadd, 1) := by decide +kernel
theorem dX9_addUse_29 : decode cX9_addUse 29 = .ok (.putfield 25, 3) := by decide +kernel
theorem dX9_addUse_32 : decode cX9_addUse 32 = .ok (.return_, 1) := by decide +kernel
theorem dX10_stuckOf_0 : decode cX10_stuckOf 0 = .ok (.iconst 0, 1) := by decide +kernel
theorem dX10_stuckOf_1 : decode cX10_stuckOf 1 = .ok (.istore_n 2, 1) := by decide +kernel
theorem dX10_stuckOf_2 : decode cX10_stuckOf 2 = .ok (.iconst 0, 1) := by decide +kernel
theorem dX10_stuckOf_3 : decode cX10_stuckOf 3 = .ok (.istore_n 3, 1) := by decide +kernel
theorem dX10_stuckOf_4 : decode cX10_stuckOf 4 = .ok (.iload_n 3, 1) := by decide +kernel
theorem dX10_stuckOf_5 : decode cX10_stuckOf 5 = .ok (.aload_n 0, 1) := by decide +kernel
theorem dX10_stuckOf_6 : decode cX10_stuckOf 6 = .ok (.getfield 9, 3) := by decide +kernel
theorem dX10_stuckOf_9 : decode cX10_stuckOf 9 = .ok (.if_icmp .ge 40, 3) := by decide +kernel
theorem dX10_stuckOf_12 : decode cX10_stuckOf 12 = .ok (.aload_n 0, 1) := by decide +kernel
theorem dX10_stuckOf_13 : decode cX10_stuckOf 13 = .ok (.getfield 15, 3) := by decide +kernel
theorem dX10_stuckOf_16 : decode cX10_stuckOf 16 = .ok (.iload_n 3, 1) := by decide +kernel
theorem dX10_stuckOf_17 : decode cX10_stuckOf 17 = .ok (.aaload, 1) := by decide +kernel
theorem dX10_stuckOf_18 : decode cX10_stuckOf 18 = .ok (.iload_n 1, 1) := by decide +kernel
theorem dX10_stuckOf_19 : decode cX10_stuckOf 19 = .ok (.invokevirtual 19, 3) := by decide +kernel
theorem dX10_stuckOf_22 : decode cX10_stuckOf 22 = .ok (.ifCond .ne 21, 3) := by decide +kernel
theorem dX10_stuckOf_25 : decode cX10_stuckOf 25 = .ok (.aload_n 0, 1) := by decide +kernel
theorem dX10_stuckOf_26 : decode cX10_stuckOf 26 = .ok (.iload_n 3, 1) := by decide +kernel
theorem dX10_stuckOf_27 : decode cX10_stuckOf 27 = .ok (.iload_n 1, 1) := by decide +kernel
theorem dX10_stuckOf_28 : decode cX10_stuckOf 28 = .ok (.invokestatic 25, 3) := by decide +kernel
theorem dX10_stuckOf_31 : decode cX10_stuckOf 31 = .ok (.ifCond .ne 12, 3) := by decide +kernel
theorem dX10_stuckOf_34 : decode cX10_stuckOf 34 = .ok (.iload_n 2, 1) := by decide +kernel
theorem dX10_stuckOf_35 : decode cX10_stuckOf 35 = .ok (.aload_n 0, 1) := by decide +kernel
theorem dX10_stuckOf_36 : decode cX10_stuckOf 36 = .ok (.iload_n 3, 1) := by decide +kernel
theorem dX10_stuckOf_37 : decode cX10_stuckOf 37 = .ok (.iload_n 1, 1) := by decide +kernel
theorem dX10_stuckOf_38 : decode cX10_stuckOf 38 = .ok (.invokevirtual 31, 3) := by decide +kernel
theorem dX10_stuckOf_41 : decode cX10_stuckOf 41 = .ok (.iadd, 1) := by decide +kernel
theorem dX10_stuckOf_42 : decode cX10_stuckOf 42 = .ok (.istore_n 2, 1) := by decide +kernel
theorem dX10_stuckOf_43 : decode cX10_stuckOf 43 = .ok (.iinc 3 1, 3) := by decide +kernel
theorem dX10_stuckOf_46 : decode cX10_stuckOf 46 = .ok (.goto (-42), 3) := by decide +kernel
theorem dX10_stuckOf_49 : decode cX10_stuckOf 49 = .ok (.iload_n 2, 1) := by decide +kernel
theorem dX10_stuckOf_50 : decode cX10_stuckOf 50 = .ok (.ireturn, 1) := by decide +kernel
theorem dX10_hasBuyer_0 : decode cX10_hasBuyer 0 = .ok (.iconst 0, 1) := by decide +kernel
theorem dX10_hasBuyer_1 : decode cX10_hasBuyer 1 = .ok (.istore_n 3, 1) := by decide +kernel
theorem dX10_hasBuyer_2 : decode cX10_hasBuyer 2 = .ok (.iload_n 3, 1) := by decide +kernel
theorem dX10_hasBuyer_3 : decode cX10_hasBuyer 3 = .ok (.aload_n 0, 1) := by decide +kernel
theorem dX10_hasBuyer_4 : decode cX10_hasBuyer 4 = .ok (.getfield 9, 3) := by decide +kernel
theorem dX10_hasBuyer_7 : decode cX10_hasBuyer 7 = .ok (.if_icmp .ge 33, 3) := by decide +kernel
theorem dX10_hasBuyer_10 : decode cX10_hasBuyer 10 = .ok (.aload_n 0, 1) := by decide +kernel
theorem dX10_hasBuyer_11 : decode cX10_hasBuyer 11 = .ok (.getfield 15, 3) := by decide +kernel
theorem dX10_hasBuyer_14 : decode cX10_hasBuyer 14 = .ok (.iload_n 3, 1) := by decide +kernel
theorem dX10_hasBuyer_15 : decode cX10_hasBuyer 15 = .ok (.aaload, 1) := by decide +kernel
theorem dX10_hasBuyer_16 : decode cX10_hasBuyer 16 = .ok (.iload_n 2, 1) := by decide +kernel
theorem dX10_hasBuyer_17 : decode cX10_hasBuyer 17 = .ok (.invokevirtual 19, 3) := by decide +kernel
theorem dX10_hasBuyer_20 : decode cX10_hasBuyer 20 = .ok (.ifCond .eq 14, 3) := by decide +kernel
theorem dX10_hasBuyer_23 : decode cX10_hasBuyer 23 = .ok (.aload_n 0, 1) := by decide +kernel
theorem dX10_hasBuyer_24 : decode cX10_hasBuyer 24 = .ok (.iload_n 1, 1) := by decide +kernel
theorem dX10_hasBuyer_25 : decode cX10_hasBuyer 25 = .ok (.iload_n 3, 1) := by decide +kernel
theorem dX10_hasBuyer_26 : decode cX10_hasBuyer 26 = .ok (.invokevirtual 35, 3) := by decide +kernel
theorem dX10_hasBuyer_29 : decode cX10_hasBuyer 29 = .ok (.ifCond .eq 5, 3) := by decide +kernel
theorem dX10_hasBuyer_32 : decode cX10_hasBuyer 32 = .ok (.iconst 1, 1) := by decide +kernel
theorem dX10_hasBuyer_33 : decode cX10_hasBuyer 33 = .ok (.ireturn, 1) := by decide +kernel
theorem dX10_hasBuyer_34 : decode cX10_hasBuyer 34 = .ok (.iinc 3 1, 3) := by decide +kernel
theorem dX10_hasBuyer_37 : decode cX10_hasBuyer 37 = .ok (.goto (-35), 3) := by decide +kernel
theorem dX10_hasBuyer_40 : decode cX10_hasBuyer 40 = .ok (.iconst 0, 1) := by decide +kernel
theorem dX10_hasBuyer_41 : decode cX10_hasBuyer 41 = .ok (.ireturn, 1) := by decide +kernel
theorem dX10_mostOf_0 : decode cX10_mostOf 0 = .ok (.aload_n 0, 1) := by decide +kernel
theorem dX10_mostOf_1 : decode cX10_mostOf 1 = .ok (.iload_n 1, 1) := by decide +kernel
theorem dX10_mostOf_2 : decode cX10_mostOf 2 = .ok (.iconst 0, 1) := by decide +kernel
theorem dX10_mostOf_3 : decode cX10_mostOf 3 = .ok (.invokestatic 39, 3) := by decide +kernel
theorem dX10_mostOf_6 : decode cX10_mostOf 6 = .ok (.istore_n 2, 1) := by decide +kernel
theorem dX10_mostOf_7 : decode cX10_mostOf 7 = .ok (.iconst 1, 1) := by decide +kernel
theorem dX10_mostOf_8 : decode cX10_mostOf 8 = .ok (.istore_n 3, 1) := by decide +kernel
theorem dX10_mostOf_9 : decode cX10_mostOf 9 = .ok (.iload_n 3, 1) := by decide +kernel
theorem dX10_mostOf_10 : decode cX10_mostOf 10 = .ok (.iconst 1, 1) := by decide +kernel
theorem dX10_mostOf_11 : decode cX10_mostOf 11 = .ok (.aload_n 0, 1) := by decide +kernel
theorem dX10_mostOf_12 : decode cX10_mostOf 12 = .ok (.getfield 9, 3) := by decide +kernel
theorem dX10_mostOf_15 : decode cX10_mostOf 15 = .ok (.ishl, 1) := by decide +kernel
theorem dX10_mostOf_16 : decode cX10_mostOf 16 = .ok (.if_icmp .ge 20, 3) := by decide +kernel
theorem dX10_mostOf_19 : decode cX10_mostOf 19 = .ok (.iload_n 2, 1) := by decide +kernel
theorem dX10_mostOf_20 : decode cX10_mostOf 20 = .ok (.aload_n 0, 1) := by decide +kernel
theorem dX10_mostOf_21 : decode cX10_mostOf 21 = .ok (.iload_n 1, 1) := by decide +kernel
theorem dX10_mostOf_22 : decode cX10_mostOf 22 = .ok (.iload_n 3, 1) := by decide +kernel
theorem dX10_mostOf_23 : decode cX10_mostOf 23 = .ok (.invokestatic 39, 3) := by decide +kernel
theorem dX10_mostOf_26 : decode cX10_mostOf 26 = .ok (.invokestatic 43, 3) := by decide +kernel
theorem dX10_mostOf_29 : decode cX10_mostOf 29 = .ok (.istore_n 2, 1) := by decide +kernel
theorem dX10_mostOf_30 : decode cX10_mostOf 30 = .ok (.iinc 3 1, 3) := by decide +kernel
theorem dX10_mostOf_33 : decode cX10_mostOf 33 = .ok (.goto (-24), 3) := by decide +kernel
theorem dX10_mostOf_36 : decode cX10_mostOf 36 = .ok (.iload_n 2, 1) := by decide +kernel
theorem dX10_mostOf_37 : decode cX10_mostOf 37 = .ok (.ireturn, 1) := by decide +kernel
theorem dX10_cutBeside_0 : decode cX10_cutBeside 0 = .ok (.iconst 0, 1) := by decide +kernel
theorem dX10_cutBeside_1 : decode cX10_cutBeside 1 = .ok (.istore_n 3, 1) := by decide +kernel
theorem dX10_cutBeside_2 : decode cX10_cutBeside 2 = .ok (.iconst 0, 1) := by decide +kernel
theorem dX10_cutBeside_3 : decode cX10_cutBeside 3 = .ok (.istore 4, 2) := by decide +kernel
theorem dX10_cutBeside_5 : decode cX10_cutBeside 5 = .ok (.iload 4, 2) := by decide +kernel
theorem dX10_cutBeside_7 : decode cX10_cutBeside 7 = .ok (.aload_n 0, 1) := by decide +kernel
theorem dX10_cutBeside_8 : decode cX10_cutBeside 8 = .ok (.getfield 9, 3) := by decide +kernel
theorem dX10_cutBeside_11 : decode cX10_cutBeside 11 = .ok (.if_icmp .ge 73, 3) := by decide +kernel
theorem dX10_cutBeside_14 : decode cX10_cutBeside 14 = .ok (.aload_n 0, 1) := by decide +kernel
theorem dX10_cutBeside_15 : decode cX10_cutBeside 15 = .ok (.getfield 15, 3) := by decide +kernel
theorem dX10_cutBeside_18 : decode cX10_cutBeside 18 = .ok (.iload 4, 2) := by decide +kernel
theorem dX10_cutBeside_20 : decode cX10_cutBeside 20 = .ok (.aaload, 1) := by decide +kernel
theorem dX10_cutBeside_21 : decode cX10_cutBeside 21 = .ok (.iload_n 1, 1) := by decide +kernel
theorem dX10_cutBeside_22 : decode cX10_cutBeside 22 = .ok (.invokevirtual 19, 3) := by decide +kernel
theorem dX10_cutBeside_25 : decode cX10_cutBeside 25 = .ok (.ifCond .eq 34, 3) := by decide +kernel
theorem dX10_cutBeside_28 : decode cX10_cutBeside 28 = .ok (.iload_n 3, 1) := by decide +kernel
theorem dX10_cutBeside_29 : decode cX10_cutBeside 29 = .ok (.aload_n 0, 1) := by decide +kernel
theorem dX10_cutBeside_30 : decode cX10_cutBeside 30 = .ok (.iload 4, 2) := by decide +kernel
theorem dX10_cutBeside_32 : decode cX10_cutBeside 32 = .ok (.iload_n 1, 1) := by decide +kernel
theorem dX10_cutBeside_33 : decode cX10_cutBeside 33 = .ok (.iload_n 2, 1) := by decide +kernel
theorem dX10_cutBeside_34 : decode cX10_cutBeside 34 = .ok (.invokestatic 48, 3) := by decide +kernel
theorem dX10_cutBeside_37 : decode cX10_cutBeside 37 = .ok (.ifCond .eq 16, 3) := by decide +kernel
theorem dX10_cutBeside_40 : decode cX10_cutBeside 40 = .ok (.aload_n 0, 1) := by decide +kernel
theorem dX10_cutBeside_41 : decode cX10_cutBeside 41 = .ok (.getfield 15, 3) := by decide +kernel
theorem dX10_cutBeside_44 : decode cX10_cutBeside 44 = .ok (.iload 4, 2) := by decide +kernel
theorem dX10_cutBeside_46 : decode cX10_cutBeside 46 = .ok (.aaload, 1) := by decide +kernel
theorem dX10_cutBeside_47 : decode cX10_cutBeside 47 = .ok (.getfield 52, 3) := by decide +kernel
theorem dX10_cutBeside_50 : decode cX10_cutBeside 50 = .ok (.goto 4, 3) := by decide +kernel
theorem dX10_cutBeside_53 : decode cX10_cutBeside 53 = .ok (.iconst 0, 1) := by decide +kernel
theorem dX10_cutBeside_54 : decode cX10_cutBeside 54 = .ok (.iadd, 1) := by decide +kernel
theorem dX10_cutBeside_55 : decode cX10_cutBeside 55 = .ok (.istore_n 3, 1) := by decide +kernel
theorem dX10_cutBeside_56 : decode cX10_cutBeside 56 = .ok (.goto 22, 3) := by decide +kernel
theorem dX10_cutBeside_59 : decode cX10_cutBeside 59 = .ok (.iload_n 2, 1) := by decide +kernel
theorem dX10_cutBeside_60 : decode cX10_cutBeside 60 = .ok (.iload 4, 2) := by decide +kernel
theorem dX10_cutBeside_62 : decode cX10_cutBeside 62 = .ok (.ishr, 1) := by decide +kernel
theorem dX10_cutBeside_63 : decode cX10_cutBeside 63 = .ok (.iconst 1, 1) := by decide +kernel
theorem dX10_cutBeside_64 : decode cX10_cutBeside 64 = .ok (.iand, 1) := by decide +kernel
theorem dX10_cutBeside_65 : decode cX10_cutBeside 65 = .ok (.ifCond .ne 13, 3) := by decide +kernel
theorem dX10_cutBeside_68 : decode cX10_cutBeside 68 = .ok (.iload_n 3, 1) := by decide +kernel
theorem dX10_cutBeside_69 : decode cX10_cutBeside 69 = .ok (.aload_n 0, 1) := by decide +kernel
theorem dX10_cutBeside_70 : decode cX10_cutBeside 70 = .ok (.iload 4, 2) := by decide +kernel
theorem dX10_cutBeside_72 : decode cX10_cutBeside 72 = .ok (.iload_n 1, 1) := by decide +kernel
theorem dX10_cutBeside_73 : decode cX10_cutBeside 73 = .ok (.invokevirtual 31, 3) := by decide +kernel
theorem dX10_cutBeside_76 : decode cX10_cutBeside 76 = .ok (.iadd, 1) := by decide +kernel
theorem dX10_cutBeside_77 : decode cX10_cutBeside 77 = .ok (.istore_n 3, 1) := by decide +kernel
theorem dX10_cutBeside_78 : decode cX10_cutBeside 78 = .ok (.iinc 4 1, 3) := by decide +kernel
theorem dX10_cutBeside_81 : decode cX10_cutBeside 81 = .ok (.goto (-76), 3) := by decide +kernel
theorem dX10_cutBeside_84 : decode cX10_cutBeside 84 = .ok (.iload_n 3, 1) := by decide +kernel
theorem dX10_cutBeside_85 : decode cX10_cutBeside 85 = .ok (.ireturn, 1) := by decide +kernel
theorem dX10_hasSellerAmong_0 : decode cX10_hasSellerAmong 0 = .ok (.iconst 0, 1) := by decide +kernel
theorem dX10_hasSellerAmong_1 : decode cX10_hasSellerAmong 1 = .ok (.istore 4, 2) := by decide +kernel
theorem dX10_hasSellerAmong_3 : decode cX10_hasSellerAmong 3 = .ok (.iload 4, 2) := by decide +kernel
theorem dX10_hasSellerAmong_5 : decode cX10_hasSellerAmong 5 = .ok (.aload_n 0, 1) := by decide +kernel
theorem dX10_hasSellerAmong_6 : decode cX10_hasSellerAmong 6 = .ok (.getfield 9, 3) := by decide +kernel
theorem dX10_hasSellerAmong_9 : decode cX10_hasSellerAmong 9 = .ok (.if_icmp .ge 45, 3) := by decide +kernel
theorem dX10_hasSellerAmong_12 : decode cX10_hasSellerAmong 12 = .ok (.iload_n 3, 1) := by decide +kernel
theorem dX10_hasSellerAmong_13 : decode cX10_hasSellerAmong 13 = .ok (.iload 4, 2) := by decide +kernel
theorem dX10_hasSellerAmong_15 : decode cX10_hasSellerAmong 15 = .ok (.ishr, 1) := by decide +kernel
theorem dX10_hasSellerAmong_16 : decode cX10_hasSellerAmong 16 = .ok (.iconst 1, 1) := by decide +kernel
theorem dX10_hasSellerAmong_17 : decode cX10_hasSellerAmong 17 = .ok (.iand, 1) := by decide +kernel
theorem dX10_hasSellerAmong_18 : decode cX10_hasSellerAmong 18 = .ok (.iconst 1, 1) := by decide +kernel
theorem dX10_hasSellerAmong_19 : decode cX10_hasSellerAmong 19 = .ok (.if_icmp .ne 29, 3) := by decide +kernel
theorem dX10_hasSellerAmong_22 : decode cX10_hasSellerAmong 22 = .ok (.aload_n 0, 1) := by decide +kernel
theorem dX10_hasSellerAmong_23 : decode cX10_hasSellerAmong 23 = .ok (.getfield 15, 3) := by decide +kernel
theorem dX10_hasSellerAmong_26 : decode cX10_hasSellerAmong 26 = .ok (.iload 4, 2) := by decide +kernel
theorem dX10_hasSellerAmong_28 : decode cX10_hasSellerAmong 28 = .ok (.aaload, 1) := by decide +kernel
theorem dX10_hasSellerAmong_29 : decode cX10_hasSellerAmong 29 = .ok (.iload_n 2, 1) := by decide +kernel
theorem dX10_hasSellerAmong_30 : decode cX10_hasSellerAmong 30 = .ok (.invokevirtual 19, 3) := by decide +kernel
theorem dX10_hasSellerAmong_33 : decode cX10_hasSellerAmong 33 = .ok (.ifCond .ne 15, 3) := by decide +kernel
theorem dX10_hasSellerAmong_36 : decode cX10_hasSellerAmong 36 = .ok (.aload_n 0, 1) := by decide +kernel
theorem dX10_hasSellerAmong_37 : decode cX10_hasSellerAmong 37 = .ok (.iload 4, 2) := by decide +kernel
theorem dX10_hasSellerAmong_39 : decode cX10_hasSellerAmong 39 = .ok (.iload_n 1, 1) := by decide +kernel
theorem dX10_hasSellerAmong_40 : decode cX10_hasSellerAmong 40 = .ok (.invokevirtual 35, 3) := by decide +kernel
theorem dX10_hasSellerAmong_43 : decode cX10_hasSellerAmong 43 = .ok (.ifCond .eq 5, 3) := by decide +kernel
theorem dX10_hasSellerAmong_46 : decode cX10_hasSellerAmong 46 = .ok (.iconst 1, 1) := by decide +kernel
theorem dX10_hasSellerAmong_47 : decode cX10_hasSellerAmong 47 = .ok (.ireturn, 1) := by decide +kernel
theorem dX10_hasSellerAmong_48 : decode cX10_hasSellerAmong 48 = .ok (.iinc 4 1, 3) := by decide +kernel
theorem dX10_hasSellerAmong_51 : decode cX10_hasSellerAmong 51 = .ok (.goto (-48), 3) := by decide +kernel
theorem dX10_hasSellerAmong_54 : decode cX10_hasSellerAmong 54 = .ok (.iconst 0, 1) := by decide +kernel
theorem dX10_hasSellerAmong_55 : decode cX10_hasSellerAmong 55 = .ok (.ireturn, 1) := by decide +kernel
theorem dX10_ways_0 : decode cX10_ways 0 = .ok (.aload_n 0, 1) := by decide +kernel
theorem dX10_ways_1 : decode cX10_ways 1 = .ok (.iload_n 1, 1) := by decide +kernel
theorem dX10_ways_2 : decode cX10_ways 2 = .ok (.iload_n 2, 1) := by decide +kernel
theorem dX10_ways_3 : decode cX10_ways 3 = .ok (.iconst 1, 1) := by decide +kernel
theorem dX10_ways_4 : decode cX10_ways 4 = .ok (.iload_n 1, 1) := by decide +kernel
theorem dX10_ways_5 : decode cX10_ways 5 = .ok (.ishl, 1) := by decide +kernel
theorem dX10_ways_6 : decode cX10_ways 6 = .ok (.iconst 0, 1) := by decide +kernel
theorem dX10_ways_7 : decode cX10_ways 7 = .ok (.invokestatic 55, 3) := by decide +kernel
theorem dX10_ways_10 : decode cX10_ways 10 = .ok (.ireturn, 1) := by decide +kernel
theorem dX10_waysOn_0 : decode cX10_waysOn 0 = .ok (.iload_n 1, 1) := by decide +kernel
theorem dX10_waysOn_1 : decode cX10_waysOn 1 = .ok (.iload_n 2, 1) := by decide +kernel
theorem dX10_waysOn_2 : decode cX10_waysOn 2 = .ok (.if_icmp .ne 5, 3) := by decide +kernel
theorem dX10_waysOn_5 : decode cX10_waysOn 5 = .ok (.iconst 1, 1) := by decide +kernel
theorem dX10_waysOn_6 : decode cX10_waysOn 6 = .ok (.ireturn, 1) := by decide +kernel
theorem dX10_waysOn_7 : decode cX10_waysOn 7 = .ok (.iload 4, 2) := by decide +kernel
theorem dX10_waysOn_9 : decode cX10_waysOn 9 = .ok (.bipush 6, 2) := by decide +kernel
theorem dX10_waysOn_11 : decode cX10_waysOn 11 = .ok (.if_icmp .lt 5, 3) := by decide +kernel
theorem dX10_waysOn_14 : decode cX10_waysOn 14 = .ok (.iconst 0, 1) := by decide +kernel
theorem dX10_waysOn_15 : decode cX10_waysOn 15 = .ok (.ireturn, 1) := by decide +kernel
theorem dX10_waysOn_16 : decode cX10_waysOn 16 = .ok (.iconst 0, 1) := by decide +kernel
theorem dX10_waysOn_17 : decode cX10_waysOn 17 = .ok (.istore 5, 2) := by decide +kernel
theorem dX10_waysOn_19 : decode cX10_waysOn 19 = .ok (.iconst 0, 1) := by decide +kernel
theorem dX10_waysOn_20 : decode cX10_waysOn 20 = .ok (.istore 6, 2) := by decide +kernel
theorem dX10_waysOn_22 : decode cX10_waysOn 22 = .ok (.iload 6, 2) := by decide +kernel
theorem dX10_waysOn_24 : decode cX10_waysOn 24 = .ok (.aload_n 0, 1) := by decide +kernel
theorem dX10_waysOn_25 : decode cX10_waysOn 25 = .ok (.getfield 9, 3) := by decide +kernel
theorem dX10_waysOn_28 : decode cX10_waysOn 28 = .ok (.if_icmp .ge 50, 3) := by decide +kernel
theorem dX10_waysOn_31 : decode cX10_waysOn 31 = .ok (.iload_n 3, 1) := by decide +kernel
theorem dX10_waysOn_32 : decode cX10_waysOn 32 = .ok (.iload 6, 2) := by decide +kernel
theorem dX10_waysOn_34 : decode cX10_waysOn 34 = .ok (.ishr, 1) := by decide +kernel
theorem dX10_waysOn_35 : decode cX10_waysOn 35 = .ok (.iconst 1, 1) := by decide +kernel
theorem dX10_waysOn_36 : decode cX10_waysOn 36 = .ok (.iand, 1) := by decide +kernel
theorem dX10_waysOn_37 : decode cX10_waysOn 37 = .ok (.ifCond .ne 35, 3) := by decide +kernel
theorem dX10_waysOn_40 : decode cX10_waysOn 40 = .ok (.aload_n 0, 1) := by decide +kernel
theorem dX10_waysOn_41 : decode cX10_waysOn 41 = .ok (.iload_n 1, 1) := by decide +kernel
theorem dX10_waysOn_42 : decode cX10_waysOn 42 = .ok (.iload 6, 2) := by decide +kernel
theorem dX10_waysOn_44 : decode cX10_waysOn 44 = .ok (.invokevirtual 35, 3) := by decide +kernel
theorem dX10_waysOn_47 : decode cX10_waysOn 47 = .ok (.ifCond .eq 25, 3) := by decide +kernel
theorem dX10_waysOn_50 : decode cX10_waysOn 50 = .ok (.iload 5, 2) := by decide +kernel
theorem dX10_waysOn_52 : decode cX10_waysOn 52 = .ok (.aload_n 0, 1) := by decide +kernel
theorem dX10_waysOn_53 : decode cX10_waysOn 53 = .ok (.iload 6, 2) := by decide +kernel
theorem dX10_waysOn_55 : decode cX10_waysOn 55 = .ok (.iload_n 2, 1) := by decide +kernel
theorem dX10_waysOn_56 : decode cX10_waysOn 56 = .ok (.iload_n 3, 1) := by decide +kernel
theorem dX10_waysOn_57 : decode cX10_waysOn 57 = .ok (.iconst 1, 1) := by decide +kernel
theorem dX10_waysOn_58 : decode cX10_waysOn 58 = .ok (.iload 6, 2) := by decide +kernel
theorem dX10_waysOn_60 : decode cX10_waysOn 60 = .ok (.ishl, 1) := by decide +kernel
theorem dX10_waysOn_61 : decode cX10_waysOn 61 = .ok (.ior, 1) := by decide +kernel
theorem dX10_waysOn_62 : decode cX10_waysOn 62 = .ok (.iload 4, 2) := by decide +kernel
theorem dX10_waysOn_64 : decode cX10_waysOn 64 = .ok (.iconst 1, 1) := by decide +kernel
theorem dX10_waysOn_65 : decode cX10_waysOn 65 = .ok (.iadd, 1) := by decide +kernel
theorem dX10_waysOn_66 : decode cX10_waysOn 66 = .ok (.invokestatic 55, 3) := by decide +kernel
theorem dX10_waysOn_69 : decode cX10_waysOn 69 = .ok (.iadd, 1) := by decide +kernel
theorem dX10_waysOn_70 : decode cX10_waysOn 70 = .ok (.istore 5, 2) := by decide +kernel
theorem dX10_waysOn_72 : decode cX10_waysOn 72 = .ok (.iinc 6 1, 3) := by decide +kernel
theorem dX10_waysOn_75 : decode cX10_waysOn 75 = .ok (.goto (-53), 3) := by decide +kernel
theorem dX10_waysOn_78 : decode cX10_waysOn 78 = .ok (.iload 5, 2) := by decide +kernel
theorem dX10_waysOn_80 : decode cX10_waysOn 80 = .ok (.ireturn, 1) := by decide +kernel
theorem dX10_fewestSales_0 : decode cX10_fewestSales 0 = .ok (.iconst 1, 1) := by decide +kernel
theorem dX10_fewestSales_1 : decode cX10_fewestSales 1 = .ok (.iload_n 1, 1) := by decide +kernel
theorem dX10_fewestSales_2 : decode cX10_fewestSales 2 = .ok (.ishl, 1) := by decide +kernel
theorem dX10_fewestSales_3 : decode cX10_fewestSales 3 = .ok (.istore_n 3, 1) := by decide +kernel
theorem dX10_fewestSales_4 : decode cX10_fewestSales 4 = .ok (.iconst 1, 1) := by decide +kernel
theorem dX10_fewestSales_5 : decode cX10_fewestSales 5 = .ok (.istore 4, 2) := by decide +kernel
theorem dX10_fewestSales_7 : decode cX10_fewestSales 7 = .ok (.iload 4, 2) := by decide +kernel
theorem dX10_fewestSales_9 : decode cX10_fewestSales 9 = .ok (.bipush 6, 2) := by decide +kernel
theorem dX10_fewestSales_11 : decode cX10_fewestSales 11 = .ok (.if_icmp .ge 29, 3) := by decide +kernel
theorem dX10_fewestSales_14 : decode cX10_fewestSales 14 = .ok (.iload_n 3, 1) := by decide +kernel
theorem dX10_fewestSales_15 : decode cX10_fewestSales 15 = .ok (.aload_n 0, 1) := by decide +kernel
theorem dX10_fewestSales_16 : decode cX10_fewestSales 16 = .ok (.iload_n 3, 1) := by decide +kernel
theorem dX10_fewestSales_17 : decode cX10_fewestSales 17 = .ok (.invokestatic 59, 3) := by decide +kernel
theorem dX10_fewestSales_20 : decode cX10_fewestSales 20 = .ok (.ior, 1) := by decide +kernel
theorem dX10_fewestSales_21 : decode cX10_fewestSales 21 = .ok (.istore_n 3, 1) := by decide +kernel
theorem dX10_fewestSales_22 : decode cX10_fewestSales 22 = .ok (.iload_n 3, 1) := by decide +kernel
theorem dX10_fewestSales_23 : decode cX10_fewestSales 23 = .ok (.iload_n 2, 1) := by decide +kernel
theorem dX10_fewestSales_24 : decode cX10_fewestSales 24 = .ok (.ishr, 1) := by decide +kernel
theorem dX10_fewestSales_25 : decode cX10_fewestSales 25 = .ok (.iconst 1, 1) := by decide +kernel
theorem dX10_fewestSales_26 : decode cX10_fewestSales 26 = .ok (.iand, 1) := by decide +kernel
theorem dX10_fewestSales_27 : decode cX10_fewestSales 27 = .ok (.iconst 1, 1) := by decide +kernel
theorem dX10_fewestSales_28 : decode cX10_fewestSales 28 = .ok (.if_icmp .ne 6, 3) := by decide +kernel
theorem dX10_fewestSales_31 : decode cX10_fewestSales 31 = .ok (.iload 4, 2) := by decide +kernel
theorem dX10_fewestSales_33 : decode cX10_fewestSales 33 = .ok (.ireturn, 1) := by decide +kernel
theorem dX10_fewestSales_34 : decode cX10_fewestSales 34 = .ok (.iinc 4 1, 3) := by decide +kernel
theorem dX10_fewestSales_37 : decode cX10_fewestSales 37 = .ok (.goto (-30), 3) := by decide +kernel
theorem dX10_fewestSales_40 : decode cX10_fewestSales 40 = .ok (.bipush (-9), 2) := by decide +kernel
theorem dX10_fewestSales_42 : decode cX10_fewestSales 42 = .ok (.ireturn, 1) := by decide +kernel
theorem dX10_oneSaleBehind_0 : decode cX10_oneSaleBehind 0 = .ok (.iconst 0, 1) := by decide +kernel
theorem dX10_oneSaleBehind_1 : decode cX10_oneSaleBehind 1 = .ok (.istore_n 2, 1) := by decide +kernel
theorem dX10_oneSaleBehind_2 : decode cX10_oneSaleBehind 2 = .ok (.iconst 0, 1) := by decide +kernel
theorem dX10_oneSaleBehind_3 : decode cX10_oneSaleBehind 3 = .ok (.istore_n 3, 1) := by decide +kernel
theorem dX10_oneSaleBehind_4 : decode cX10_oneSaleBehind 4 = .ok (.iload_n 3, 1) := by decide +kernel
theorem dX10_oneSaleBehind_5 : decode cX10_oneSaleBehind 5 = .ok (.aload_n 0, 1) := by decide +kernel
theorem dX10_oneSaleBehind_6 : decode cX10_oneSaleBehind 6 = .ok (.getfield 9, 3) := by decide +kernel
theorem dX10_oneSaleBehind_9 : decode cX10_oneSaleBehind 9 = .ok (.if_icmp .ge 53, 3) := by decide +kernel
theorem dX10_oneSaleBehind_12 : decode cX10_oneSaleBehind 12 = .ok (.iconst 0, 1) := by decide +kernel
theorem dX10_oneSaleBehind_13 : decode cX10_oneSaleBehind 13 = .ok (.istore 4, 2) := by decide +kernel
theorem dX10_oneSaleBehind_15 : decode cX10_oneSaleBehind 15 = .ok (.iload 4, 2) := by decide +kernel
theorem dX10_oneSaleBehind_17 : decode cX10_oneSaleBehind 17 = .ok (.aload_n 0, 1) := by decide +kernel
theorem dX10_oneSaleBehind_18 : decode cX10_oneSaleBehind 18 = .ok (.getfield 9, 3) := by decide +kernel
theorem dX10_oneSaleBehind_21 : decode cX10_oneSaleBehind 21 = .ok (.if_icmp .ge 35, 3) := by decide +kernel
theorem dX10_oneSaleBehind_24 : decode cX10_oneSaleBehind 24 = .ok (.iload_n 1, 1) := by decide +kernel
theorem dX10_oneSaleBehind_25 : decode cX10_oneSaleBehind 25 = .ok (.iload_n 3, 1) := by decide +kernel
theorem dX10_oneSaleBehind_26 : decode cX10_oneSaleBehind 26 = .ok (.ishr, 1) := by decide +kernel
theorem dX10_oneSaleBehind_27 : decode cX10_oneSaleBehind 27 = .ok (.iconst 1, 1) := by decide +kernel
theorem dX10_oneSaleBehind_28 : decode cX10_oneSaleBehind 28 = .ok (.iand, 1) := by decide +kernel
theorem dX10_oneSaleBehind_29 : decode cX10_oneSaleBehind 29 = .ok (.iconst 1, 1) := by decide +kernel
theorem dX10_oneSaleBehind_30 : decode cX10_oneSaleBehind 30 = .ok (.if_icmp .ne 20, 3) := by decide +kernel
theorem dX10_oneSaleBehind_33 : decode cX10_oneSaleBehind 33 = .ok (.aload_n 0, 1) := by decide +kernel
theorem dX10_oneSaleBehind_34 : decode cX10_oneSaleBehind 34 = .ok (.iload_n 3, 1) := by decide +kernel
theorem dX10_oneSaleBehind_35 : decode cX10_oneSaleBehind 35 = .ok (.iload 4, 2) := by decide +kernel
theorem dX10_oneSaleBehind_37 : decode cX10_oneSaleBehind 37 = .ok (.invokevirtual 35, 3) := by decide +kernel
theorem dX10_oneSaleBehind_40 : decode cX10_oneSaleBehind 40 = .ok (.ifCond .eq 10, 3) := by decide +kernel
theorem dX10_oneSaleBehind_43 : decode cX10_oneSaleBehind 43 = .ok (.iload_n 2, 1) := by decide +kernel
theorem dX10_oneSaleBehind_44 : decode cX10_oneSaleBehind 44 = .ok (.iconst 1, 1) := by decide +kernel
theorem dX10_oneSaleBehind_45 : decode cX10_oneSaleBehind 45 = .ok (.iload 4, 2) := by decide +kernel
theorem dX10_oneSaleBehind_47 : decode cX10_oneSaleBehind 47 = .ok (.ishl, 1) := by decide +kernel
theorem dX10_oneSaleBehind_48 : decode cX10_oneSaleBehind 48 = .ok (.ior, 1) := by decide +kernel
theorem dX10_oneSaleBehind_49 : decode cX10_oneSaleBehind 49 = .ok (.istore_n 2, 1) := by decide +kernel
theorem dX10_oneSaleBehind_50 : decode cX10_oneSaleBehind 50 = .ok (.iinc 4 1, 3) := by decide +kernel
theorem dX10_oneSaleBehind_53 : decode cX10_oneSaleBehind 53 = .ok (.goto (-38), 3) := by decide +kernel
theorem dX10_oneSaleBehind_56 : decode cX10_oneSaleBehind 56 = .ok (.iinc 3 1, 3) := by decide +kernel
theorem dX10_oneSaleBehind_59 : decode cX10_oneSaleBehind 59 = .ok (.goto (-55), 3) := by decide +kernel
theorem dX10_oneSaleBehind_62 : decode cX10_oneSaleBehind 62 = .ok (.iload_n 2, 1) := by decide +kernel
theorem dX10_oneSaleBehind_63 : decode cX10_oneSaleBehind 63 = .ok (.ireturn, 1) := by decide +kernel
theorem dX11_init_0 : decode cX11_init 0 = .ok (.aload_n 0, 1) := by decide +kernel
theorem dX11_init_1 : decode cX11_init 1 = .ok (.invokespecial 1, 3) := by decide +kernel
theorem dX11_init_4 : decode cX11_init 4 = .ok (.aload_n 0, 1) := by decide +kernel
theorem dX11_init_5 : decode cX11_init 5 = .ok (.new 7, 3) := by decide +kernel
theorem dX11_init_8 : decode cX11_init 8 = .ok (.dup, 1) := by decide +kernel
theorem dX11_init_9 : decode cX11_init 9 = .ok (.invokespecial 9, 3) := by decide +kernel
theorem dX11_init_12 : decode cX11_init 12 = .ok (.putfield 10, 3) := by decide +kernel
theorem dX11_init_15 : decode cX11_init 15 = .ok (.aload_n 0, 1) := by decide +kernel
theorem dX11_init_16 : decode cX11_init 16 = .ok (.new 7, 3) := by decide +kernel
theorem dX11_init_19 : decode cX11_init 19 = .ok (.dup, 1) := by decide +kernel
theorem dX11_init_20 : decode cX11_init 20 = .ok (.invokespecial 9, 3) := by decide +kernel
theorem dX11_init_23 : decode cX11_init 23 = .ok (.putfield 16, 3) := by decide +kernel
theorem dX11_init_26 : decode cX11_init 26 = .ok (.aload_n 0, 1) := by decide +kernel
theorem dX11_init_27 : decode cX11_init 27 = .ok (.new 7, 3) := by decide +kernel
theorem dX11_init_30 : decode cX11_init 30 = .ok (.dup, 1) := by decide +kernel
theorem dX11_init_31 : decode cX11_init 31 = .ok (.invokespecial 9, 3) := by decide +kernel
theorem dX11_init_34 : decode cX11_init 34 = .ok (.putfield 19, 3) := by decide +kernel
theorem dX11_init_37 : decode cX11_init 37 = .ok (.aload_n 0, 1) := by decide +kernel
theorem dX11_init_38 : decode cX11_init 38 = .ok (.new 22, 3) := by decide +kernel
theorem dX11_init_41 : decode cX11_init 41 = .ok (.dup, 1) := by decide +kernel
theorem dX11_init_42 : decode cX11_init 42 = .ok (.invokespecial 24, 3) := by decide +kernel
theorem dX11_init_45 : decode cX11_init 45 = .ok (.putfield 25, 3) := by decide +kernel
theorem dX11_init_48 : decode cX11_init 48 = .ok (.aload_n 0, 1) := by decide +kernel
theorem dX11_init_49 : decode cX11_init 49 = .ok (.new 22, 3) := by decide +kernel
theorem dX11_init_52 : decode cX11_init 52 = .ok (.dup, 1) := by decide +kernel
theorem dX11_init_53 : decode cX11_init 53 = .ok (.invokespecial 24, 3) := by decide +kernel
theorem dX11_init_56 : decode cX11_init 56 = .ok (.putfield 29, 3) := by decide +kernel
theorem dX11_init_59 : decode cX11_init 59 = .ok (.aload_n 0, 1) := by decide +kernel
theorem dX11_init_60 : decode cX11_init 60 = .ok (.new 32, 3) := by decide +kernel
theorem dX11_init_63 : decode cX11_init 63 = .ok (.dup, 1) := by decide +kernel
theorem dX11_init_64 : decode cX11_init 64 = .ok (.invokespecial 34, 3) := by decide +kernel
theorem dX11_init_67 : decode cX11_init 67 = .ok (.putfield 35, 3) := by decide +kernel
theorem dX11_init_70 : decode cX11_init 70 = .ok (.aload_n 0, 1) := by decide +kernel
theorem dX11_init_71 : decode cX11_init 71 = .ok (.bipush 8, 2) := by decide +kernel
theorem dX11_init_73 : decode cX11_init 73 = .ok (.newarray .int, 2) := by decide +kernel
theorem dX11_init_75 : decode cX11_init 75 = .ok (.putfield 39, 3) := by decide +kernel
theorem dX11_init_78 : decode cX11_init 78 = .ok (.aload_n 0, 1) := by decide +kernel
theorem dX11_init_79 : decode cX11_init 79 = .ok (.bipush 7, 2) := by decide +kernel
theorem dX11_init_81 : decode cX11_init 81 = .ok (.newarray .int, 2) := by decide +kernel
theorem dX11_init_83 : decode cX11_init 83 = .ok (.putfield 43, 3) := by decide +kernel
theorem dX11_init_86 : decode cX11_init 86 = .ok (.return_, 1) := by decide +kernel
theorem dX11_feed_0 : decode cX11_feed 0 = .ok (.iload_n 1, 1) := by decide +kernel
theorem dX11_feed_1 : decode cX11_feed 1 = .ok (.ifCond .ge 10, 3) := by decide +kernel
theorem dX11_feed_4 : decode cX11_feed 4 = .ok (.aload_n 0, 1) := by decide +kernel
theorem dX11_feed_5 : decode cX11_feed 5 = .ok (.bipush (-4), 2) := by decide +kernel
theorem dX11_feed_7 : decode cX11_feed 7 = .ok (.invokevirtual 46, 3) := by decide +kernel
theorem dX11_feed_10 : decode cX11_feed 10 = .ok (.ireturn, 1) := by decide +kernel
theorem dX11_feed_11 : decode cX11_feed 11 = .ok (.iload_n 1, 1) := by decide +kernel
theorem dX11_feed_12 : decode cX11_feed 12 = .ok (.sipush 255, 3) := by decide +kernel
theorem dX11_feed_15 : decode cX11_feed 15 = .ok (.if_icmp .gt 13, 3) := by decide +kernel
theorem dX11_feed_18 : decode cX11_feed 18 = .ok (.aload_n 0, 1) := by decide +kernel
theorem dX11_feed_19 : decode cX11_feed 19 = .ok (.getfield 35, 3) := by decide +kernel
theorem dX11_feed_22 : decode cX11_feed 22 = .ok (.invokevirtual 50, 3) := by decide +kernel
theorem dX11_feed_25 : decode cX11_feed 25 = .ok (.ifCond .eq 10, 3) := by decide +kernel
theorem dX11_feed_28 : decode cX11_feed 28 = .ok (.aload_n 0, 1) := by decide +kernel
theorem dX11_feed_29 : decode cX11_feed 29 = .ok (.bipush (-6), 2) := by decide +kernel
theorem dX11_feed_31 : decode cX11_feed 31 = .ok (.invokevirtual 46, 3) := by decide +kernel
theorem dX11_feed_34 : decode cX11_feed 34 = .ok (.ireturn, 1) := by decide +kernel
theorem dX11_feed_35 : decode cX11_feed 35 = .ok (.aload_n 0, 1) := by decide +kernel
theorem dX11_feed_36 : decode cX11_feed 36 = .ok (.getfield 35, 3) := by decide +kernel
theorem dX11_feed_39 : decode cX11_feed 39 = .ok (.iload_n 1, 1) := by decide +kernel
theorem dX11_feed_40 : decode cX11_feed 40 = .ok (.invokevirtual 54, 3) := by decide +kernel
theorem dX11_feed_43 : decode cX11_feed 43 = .ok (.aload_n 0, 1) := by decide +kernel
theorem dX11_feed_44 : decode cX11_feed 44 = .ok (.getfield 35, 3) := by decide +kernel
theorem dX11_feed_47 : decode cX11_feed 47 = .ok (.getfield 58, 3) := by decide +kernel
theorem dX11_feed_50 : decode cX11_feed 50 = .ok (.ireturn, 1) := by decide +kernel
theorem dX11_mountain_0 : decode cX11_mountain 0 = .ok (.aload_n 0, 1) := by decide +kernel
theorem dX11_mountain_1 : decode cX11_mountain 1 = .ok (.getfield 16, 3) := by decide +kernel
theorem dX11_mountain_4 : decode cX11_mountain 4 = .ok (.aload_n 0, 1) := by decide +kernel
theorem dX11_mountain_5 : decode cX11_mountain 5 = .ok (.getfield 10, 3) := by decide +kernel
theorem dX11_mountain_8 : decode cX11_mountain 8 = .ok (.invokevirtual 62, 3) := by decide +kernel
theorem dX11_mountain_11 : decode cX11_mountain 11 = .ok (.aload_n 0, 1) := by decide +kernel
theorem dX11_mountain_12 : decode cX11_mountain 12 = .ok (.getfield 35, 3) := by decide +kernel
theorem dX11_mountain_15 : decode cX11_mountain 15 = .ok (.aload_n 0, 1) := by decide +kernel
theorem dX11_mountain_16 : decode cX11_mountain 16 = .ok (.getfield 16, 3) := by decide +kernel
theorem dX11_mountain_19 : decode cX11_mountain 19 = .ok (.invokevirtual 66, 3) := by decide +kernel
theorem dX11_mountain_22 : decode cX11_mountain 22 = .ok (.istore_n 1, 1) := by decide +kernel
theorem dX11_mountain_23 : decode cX11_mountain 23 = .ok (.aload_n 0, 1) := by decide +kernel
theorem dX11_mountain_24 : decode cX11_mountain 24 = .ok (.getfield 35, 3) := by decide +kernel
theorem dX11_mountain_27 : decode cX11_mountain 27 = .ok (.iconst 0, 1) := by decide +kernel
theorem dX11_mountain_28 : decode cX11_mountain 28 = .ok (.putfield 58, 3) := by decide +kernel
theorem dX11_mountain_31 : decode cX11_mountain 31 = .ok (.iload_n 1, 1) := by decide +kernel
theorem dX11_mountain_32 : decode cX11_mountain 32 = .ok (.ifCond .le 14, 3) := by decide +kernel
theorem dX11_mountain_35 : decode cX11_mountain 35 = .ok (.aload_n 0, 1) := by decide +kernel
theorem dX11_mountain_36 : decode cX11_mountain 36 = .ok (.getfield 10, 3) := by decide +kernel
theorem dX11_mountain_39 : decode cX11_mountain 39 = .ok (.aload_n 0, 1) := by decide +kernel
theorem dX11_mountain_40 : decode cX11_mountain 40 = .ok (.getfield 16, 3) := by decide +kernel
theorem dX11_mountain_43 : decode cX11_mountain 43 = .ok (.invokevirtual 62, 3) := by decide +kernel
theorem dX11_mountain_46 : decode cX11_mountain 46 = .ok (.iload_n 1, 1) := by decide +kernel
theorem dX11_mountain_47 : decode cX11_mountain 47 = .ok (.ireturn, 1) := by decide +kernel
theorem dX11_house_0 : decode cX11_house 0 = .ok (.aload_n 0, 1) := by decide +kernel
theorem dX11_house_1 : decode cX11_house 1 = .ok (.getfield 10, 3) := by decide +kernel
theorem dX11_house_4 : decode cX11_house 4 = .ok (.iload_n 1, 1) := by decide +kernel
theorem dX11_house_5 : decode cX11_house 5 = .ok (.invokevirtual 70, 3) := by decide +kernel
theorem dX11_house_8 : decode cX11_house 8 = .ok (.ifCond .ne 9, 3) := by decide +kernel
theorem dX11_house_11 : decode cX11_house 11 = .ok (.aload_n 0, 1) := by decide +kernel
theorem dX11_house_12 : decode cX11_house 12 = .ok (.iconst (-1), 1) := by decide +kernel
theorem dX11_house_13 : decode cX11_house 13 = .ok (.invokevirtual 46, 3) := by decide +kernel
theorem dX11_house_16 : decode cX11_house 16 = .ok (.ireturn, 1) := by decide +kernel
theorem dX11_house_17 : decode cX11_house 17 = .ok (.aload_n 0, 1) := by decide +kernel
theorem dX11_house_18 : decode cX11_house 18 = .ok (.getfield 10, 3) := by decide +kernel
theorem dX11_house_21 : decode cX11_house 21 = .ok (.getfield 74, 3) := by decide +kernel
theorem dX11_house_24 : decode cX11_house 24 = .ok (.iload_n 1, 1) := by decide +kernel
theorem dX11_house_25 : decode cX11_house 25 = .ok (.aaload, 1) := by decide +kernel
theorem dX11_house_26 : decode cX11_house 26 = .ok (.astore_n 3, 1) := by decide +kernel
theorem dX11_house_27 : decode cX11_house 27 = .ok (.iload_n 2, 1) := by decide +kernel
theorem dX11_house_28 : decode cX11_house 28 = .ok (.tableswitch 111 0 9 #[56, 61, 66, 71, 76, 81, 86, 91, 96, 101], 56) := by decide +kernel
theorem dX11_house_84 : decode cX11_house 84 = .ok (.aload_n 3, 1) := by decide +kernel
theorem dX11_house_85 : decode cX11_house 85 = .ok (.invokevirtual 78, 3) := by decide +kernel
theorem dX11_house_88 : decode cX11_house 88 = .ok (.ireturn, 1) := by decide +kernel
theorem dX11_house_89 : decode cX11_house 89 = .ok (.aload_n 3, 1) := by decide +kernel
theorem dX11_house_90 : decode cX11_house 90 = .ok (.getfield 84, 3) := by decide +kernel
theorem dX11_house_93 : decode cX11_house 93 = .ok (.ireturn, 1) := by decide +kernel
theorem dX11_house_94 : decode cX11_house 94 = .ok (.aload_n 3, 1) := by decide +kernel
theorem dX11_house_95 : decode cX11_house 95 = .ok (.getfield 87, 3) := by decide +kernel
theorem dX11_house_98 : decode cX11_house 98 = .ok (.ireturn, 1) := by decide +kernel
theorem dX11_house_99 : decode cX11_house 99 = .ok (.aload_n 3, 1) := by decide +kernel
theorem dX11_house_100 : decode cX11_house 100 = .ok (.invokevirtual 90, 3) := by decide +kernel
theorem dX11_house_103 : decode cX11_house 103 = .ok (.ireturn, 1) := by decide +kernel
theorem dX11_house_104 : decode cX11_house 104 = .ok (.aload_n 3, 1) := by decide +kernel
theorem dX11_house_105 : decode cX11_house 105 = .ok (.invokevirtual 93, 3) := by decide +kernel
theorem dX11_house_108 : decode cX11_house 108 = .ok (.ireturn, 1) := by decide +kernel
theorem dX11_house_109 : decode cX11_house 109 = .ok (.aload_n 3, 1) := by decide +kernel
theorem dX11_house_110 : decode cX11_house 110 = .ok (.getfield 96, 3) := by decide +kernel
theorem dX11_house_113 : decode cX11_house 113 = .ok (.ireturn, 1) := by decide +kernel
theorem dX11_house_114 : decode cX11_house 114 = .ok (.aload_n 3, 1) := by decide +kernel
theorem dX11_house_115 : decode cX11_house 115 = .ok (.getfield 99, 3) := by decide +kernel
theorem dX11_house_118 : decode cX11_house 118 = .ok (.ireturn, 1) := by decide +kernel
theorem dX11_house_119 : decode cX11_house 119 = .ok (.aload_n 3, 1) := by decide +kernel
theorem dX11_house_120 : decode cX11_house 120 = .ok (.getfield 102, 3) := by decide +kernel
theorem dX11_house_123 : decode cX11_house 123 = .ok (.ireturn, 1) := by decide +kernel
theorem dX11_house_124 : decode cX11_house 124 = .ok (.aload_n 3, 1) := by decide +kernel
theorem dX11_house_125 : decode cX11_house 125 = .ok (.getfield 105, 3) := by decide +kernel
theorem dX11_house_128 : decode cX11_house 128 = .ok (.ireturn, 1) := by decide +kernel
theorem dX11_house_129 : decode cX11_house 129 = .ok (.aload_n 0, 1) := by decide +kernel
theorem dX11_house_130 : decode cX11_house 130 = .ok (.getfield 10, 3) := by decide +kernel
theorem dX11_house_133 : decode cX11_house 133 = .ok (.getfield 108, 3) := by decide +kernel
theorem dX11_house_136 : decode cX11_house 136 = .ok (.iload_n 1, 1) := by decide +kernel
theorem dX11_house_137 : decode cX11_house 137 = .ok (.iaload, 1) := by decide +kernel
theorem dX11_house_138 : decode cX11_house 138 = .ok (.ireturn, 1) := by decide +kernel
theorem dX11_house_139 : decode cX11_house 139 = .ok (.aload_n 0, 1) := by decide +kernel
theorem dX11_house_140 : decode cX11_house 140 = .ok (.bipush (-2), 2) := by decide +kernel
theorem dX11_house_142 : decode cX11_house 142 = .ok (.invokevirtual 46, 3) := by decide +kernel
theorem dX11_house_145 : decode cX11_house 145 = .ok (.ireturn, 1) := by decide +kernel
theorem dX11_store_0 : decode cX11_store 0 = .ok (.aload_n 0, 1) := by decide +kernel
theorem dX11_store_1 : decode cX11_store 1 = .ok (.getfield 10, 3) := by decide +kernel
theorem dX11_store_4 : decode cX11_store 4 = .ok (.iload_n 1, 1) := by decide +kernel
theorem dX11_store_5 : decode cX11_store 5 = .ok (.invokevirtual 70, 3) := by decide +kernel
theorem dX11_store_8 : decode cX11_store 8 = .ok (.ifCond .eq 10, 3) := by decide +kernel
theorem dX11_store_11 : decode cX11_store 11 = .ok (.iload_n 2, 1) := by decide +kernel
theorem dX11_store_12 : decode cX11_store 12 = .ok (.invokestatic 111, 3) := by decide +kernel
theorem dX11_store_15 : decode cX11_store 15 = .ok (.ifCond .ne 9, 3) := by decide +kernel
theorem dX11_store_18 : decode cX11_store 18 = .ok (.aload_n 0, 1) := by decide +kernel
theorem dX11_store_19 : decode cX11_store 19 = .ok (.iconst (-1), 1) := by decide +kernel
theorem dX11_store_20 : decode cX11_store 20 = .ok (.invokevirtual 46, 3) := by decide +kernel
theorem dX11_store_23 : decode cX11_store 23 = .ok (.ireturn, 1) := by decide +kernel
theorem dX11_store_24 : decode cX11_store 24 = .ok (.aload_n 0, 1) := by decide +kernel
theorem dX11_store_25 : decode cX11_store 25 = .ok (.getfield 10, 3) := by decide +kernel
theorem dX11_store_28 : decode cX11_store 28 = .ok (.iload_n 1, 1) := by decide +kernel
theorem dX11_store_29 : decode cX11_store 29 = .ok (.iload_n 2, 1) := by decide +kernel
theorem dX11_store_30 : decode cX11_store 30 = .ok (.invokevirtual 114, 3) := by decide +kernel
theorem dX11_store_33 : decode cX11_store 33 = .ok (.ireturn, 1) := by decide +kernel
theorem dX11_price_0 : decode cX11_price 0 = .ok (.iload_n 1, 1) := by decide +kernel
theorem dX11_price_1 : decode cX11_price 1 = .ok (.invokestatic 111, 3) := by decide +kernel
theorem dX11_price_4 : decode cX11_price 4 = .ok (.ifCond .ne 9, 3) := by decide +kernel
theorem dX11_price_7 : decode cX11_price 7 = .ok (.aload_n 0, 1) := by decide +kernel
theorem dX11_price_8 : decode cX11_price 8 = .ok (.iconst (-1), 1) := by decide +kernel
theorem dX11_price_9 : decode cX11_price 9 = .ok (.invokevirtual 46, 3) := by decide +kernel
theorem dX11_price_12 : decode cX11_price 12 = .ok (.ireturn, 1) := by decide +kernel
theorem dX11_price_13 : decode cX11_price 13 = .ok (.iload_n 2, 1) := by decide +kernel
theorem dX11_price_14 : decode cX11_price 14 = .ok (.iconst 1, 1) := by decide +kernel
theorem dX11_price_15 : decode cX11_price 15 = .ok (.if_icmp .ge 10, 3) := by decide +kernel
theorem dX11_price_18 : decode cX11_price 18 = .ok (.aload_n 0, 1) := by decide +kernel
theorem dX11_price_19 : decode cX11_price 19 = .ok (.bipush (-4), 2) := by decide +kernel
theorem dX11_price_21 : decode cX11_price 21 = .ok (.invokevirtual 46, 3) := by decide +kernel
theorem dX11_price_24 : decode cX11_price 24 = .ok (.ireturn, 1) := by decide +kernel
theorem dX11_price_25 : decode cX11_price 25 = .ok (.iload_n 2, 1) := by decide +kernel
theorem dX11_price_26 : decode cX11_price 26 = .ok (.bipush 9, 2) := by decide +kernel
theorem dX11_price_28 : decode cX11_price 28 = .ok (.if_icmp .le 10, 3) := by decide +kernel
theorem dX11_price_31 : decode cX11_price 31 = .ok (.aload_n 0, 1) := by decide +kernel
theorem dX11_price_32 : decode cX11_price 32 = .ok (.bipush (-6), 2) := by decide +kernel
theorem dX11_price_34 : decode cX11_price 34 = .ok (.invokevirtual 46, 3) := by decide +kernel
theorem dX11_price_37 : decode cX11_price 37 = .ok (.ireturn, 1) := by decide +kernel
theorem dX11_price_38 : decode cX11_price 38 = .ok (.aload_n 0, 1) := by decide +kernel
theorem dX11_price_39 : decode cX11_price 39 = .ok (.getfield 10, 3) := by decide +kernel
theorem dX11_price_42 : decode cX11_price 42 = .ok (.getfield 118, 3) := by decide +kernel
theorem dX11_price_45 : decode cX11_price 45 = .ok (.iload_n 1, 1) := by decide +kernel
theorem dX11_price_46 : decode cX11_price 46 = .ok (.iaload, 1) := by decide +kernel
theorem dX11_price_47 : decode cX11_price 47 = .ok (.istore_n 3, 1) := by decide +kernel
theorem dX11_price_48 : decode cX11_price 48 = .ok (.aload_n 0, 1) := by decide +kernel
theorem dX11_price_49 : decode cX11_price 49 = .ok (.getfield 10, 3) := by decide +kernel
theorem dX11_price_52 : decode cX11_price 52 = .ok (.getfield 118, 3) := by decide +kernel
theorem dX11_price_55 : decode cX11_price 55 = .ok (.iload_n 1, 1) := by decide +kernel
theorem dX11_price_56 : decode cX11_price 56 = .ok (.iload_n 2, 1) := by decide +kernel
theorem dX11_price_57 : decode cX11_price 57 = .ok (.iastore, 1) := by decide +kernel
theorem dX11_price_58 : decode cX11_price 58 = .ok (.iload_n 3, 1) := by decide +kernel
theorem dX11_price_59 : decode cX11_price 59 = .ok (.ireturn, 1) := by decide +kernel
theorem dX11_law_0 : decode cX11_law 0 = .ok (.iload_n 1, 1) := by decide +kernel
theorem dX11_law_1 : decode cX11_law 1 = .ok (.invokestatic 121, 3) := by decide +kernel
theorem dX11_law_4 : decode cX11_law 4 = .ok (.ifCond .ne 10, 3) := by decide +kernel
theorem dX11_law_7 : decode cX11_law 7 = .ok (.aload_n 0, 1) := by decide +kernel
theorem dX11_law_8 : decode cX11_law 8 = .ok (.bipush (-2), 2) := by decide +kernel
theorem dX11_law_10 : decode cX11_law 10 = .ok (.invokevirtual 46, 3) := by decide +kernel
theorem dX11_law_13 : decode cX11_law 13 = .ok (.ireturn, 1) := by decide +kernel
theorem dX11_law_14 : decode cX11_law 14 = .ok (.aload_n 0, 1) := by decide +kernel
theorem dX11_law_15 : decode cX11_law 15 = .ok (.getfield 10, 3) := by decide +kernel
theorem dX11_law_18 : decode cX11_law 18 = .ok (.getfield 124, 3) := by decide +kernel
theorem dX11_law_21 : decode cX11_law 21 = .ok (.istore_n 2, 1) := by decide +kernel
theorem dX11_law_22 : decode cX11_law 22 = .ok (.aload_n 0, 1) := by decide +kernel
theorem dX11_law_23 : decode cX11_law 23 = .ok (.getfield 10, 3) := by decide +kernel
theorem dX11_law_26 : decode cX11_law 26 = .ok (.iload_n 1, 1) := by decide +kernel
theorem dX11_law_27 : decode cX11_law 27 = .ok (.putfield 124, 3) := by decide +kernel
theorem dX11_law_30 : decode cX11_law 30 = .ok (.iload_n 2, 1) := by decide +kernel
theorem dX11_law_31 : decode cX11_law 31 = .ok (.ireturn, 1) := by decide +kernel
theorem dX11_lawful_0 : decode cX11_lawful 0 = .ok (.aload_n 0, 1) := by decide +kernel
theorem dX11_lawful_1 : decode cX11_lawful 1 = .ok (.getfield 10, 3) := by decide +kernel
theorem dX11_lawful_4 : decode cX11_lawful 4 = .ok (.iload_n 1, 1) := by decide +kernel
theorem dX11_lawful_5 : decode cX11_lawful 5 = .ok (.iload_n 2, 1) := by decide +kernel
theorem dX11_lawful_6 : decode cX11_lawful 6 = .ok (.invokevirtual 127, 3) := by decide +kernel
theorem dX11_lawful_9 : decode cX11_lawful 9 = .ok (.ifCond .ne 9, 3) := by decide +kernel
theorem dX11_lawful_12 : decode cX11_lawful 12 = .ok (.aload_n 0, 1) := by decide +kernel
theorem dX11_lawful_13 : decode cX11_lawful 13 = .ok (.iconst (-1), 1) := by decide +kernel
theorem dX11_lawful_14 : decode cX11_lawful 14 = .ok (.invokevirtual 46, 3) := by decide +kernel
theorem dX11_lawful_17 : decode cX11_lawful 17 = .ok (.ireturn, 1) := by decide +kernel
theorem dX11_lawful_18 : decode cX11_lawful 18 = .ok (.aload_n 0, 1) := by decide +kernel
theorem dX11_lawful_19 : decode cX11_lawful 19 = .ok (.getfield 10, 3) := by decide +kernel
theorem dX11_lawful_22 : decode cX11_lawful 22 = .ok (.iload_n 1, 1) := by decide +kernel
theorem dX11_lawful_23 : decode cX11_lawful 23 = .ok (.iload_n 2, 1) := by decide +kernel
theorem dX11_lawful_24 : decode cX11_lawful 24 = .ok (.invokevirtual 131, 3) := by decide +kernel
theorem dX11_lawful_27 : decode cX11_lawful 27 = .ok (.ifCond .eq 7, 3) := by decide +kernel
theorem dX11_lawful_30 : decode cX11_lawful 30 = .ok (.iconst 1, 1) := by decide +kernel
theorem dX11_lawful_31 : decode cX11_lawful 31 = .ok (.goto 4, 3) := by decide +kernel
theorem dX11_lawful_34 : decode cX11_lawful 34 = .ok (.iconst 0, 1) := by decide +kernel
theorem dX11_lawful_35 : decode cX11_lawful 35 = .ok (.ireturn, 1) := by decide +kernel
theorem dX11_count_0 : decode cX11_count 0 = .ok (.iload_n 1, 1) := by decide +kernel
theorem dX11_count_1 : decode cX11_count 1 = .ok (.tableswitch 183 0 16 #[83, 91, 99, 107, 118, 129, 140, 148, 153, 183, 183, 173, 173, 173, 173, 173, 173], 83) := by decide +kernel
theorem dX11_count_84 : decode cX11_count 84 = .ok (.aload_n 0, 1) := by decide +kernel
theorem dX11_count_85 : decode cX11_count 85 = .ok (.getfield 10, 3) := by decide +kernel
theorem dX11_count_88 : decode cX11_count 88 = .ok (.getfield 134, 3) := by decide +kernel
theorem dX11_count_91 : decode cX11_count 91 = .ok (.ireturn, 1) := by decide +kernel
theorem dX11_count_92 : decode cX11_count 92 = .ok (.aload_n 0, 1) := by decide +kernel
theorem dX11_count_93 : decode cX11_count 93 = .ok (.getfield 10, 3) := by decide +kernel
theorem dX11_count_96 : decode cX11_count 96 = .ok (.getfield 135, 3) := by decide +kernel
theorem dX11_count_99 : decode cX11_count 99 = .ok (.ireturn, 1) := by decide +kernel
theorem dX11_count_100 : decode cX11_count 100 = .ok (.aload_n 0, 1) := by decide +kernel
theorem dX11_count_101 : decode cX11_count 101 = .ok (.getfield 10, 3) := by decide +kernel
theorem dX11_count_104 : decode cX11_count 104 = .ok (.getfield 124, 3) := by decide +kernel
theorem dX11_count_107 : decode cX11_count 107 = .ok (.ireturn, 1) := by decide +kernel
theorem dX11_count_108 : decode cX11_count 108 = .ok (.aload_n 0, 1) := by decide +kernel
theorem dX11_count_109 : decode cX11_count 109 = .ok (.getfield 10, 3) := by decide +kernel
theorem dX11_count_112 : decode cX11_count 112 = .ok (.getfield 108, 3) := by decide +kernel
theorem dX11_count_115 : decode cX11_count 115 = .ok (.invokestatic 138, 3) := by decide +kernel
theorem dX11_count_118 : decode cX11_count 118 = .ok (.ireturn, 1) := by decide +kernel
theorem dX11_count_119 : decode cX11_count 119 = .ok (.aload_n 0, 1) := by decide +kernel
theorem dX11_count_120 : decode cX11_count 120 = .ok (.getfield 10, 3) := by decide +kernel
theorem dX11_count_123 : decode cX11_count 123 = .ok (.getfield 142, 3) := by decide +kernel
theorem dX11_count_126 : decode cX11_count 126 = .ok (.invokestatic 138, 3) := by decide +kernel
theorem dX11_count_129 : decode cX11_count 129 = .ok (.ireturn, 1) := by decide +kernel
theorem dX11_count_130 : decode cX11_count 130 = .ok (.aload_n 0, 1) := by decide +kernel
theorem dX11_count_131 : decode cX11_count 131 = .ok (.getfield 10, 3) := by decide +kernel
theorem dX11_count_134 : decode cX11_count 134 = .ok (.getfield 145, 3) := by decide +kernel
theorem dX11_count_137 : decode cX11_count 137 = .ok (.invokevirtual 149, 3) := by decide +kernel
theorem dX11_count_140 : decode cX11_count 140 = .ok (.ireturn, 1) := by decide +kernel
theorem dX11_count_141 : decode cX11_count 141 = .ok (.aload_n 0, 1) := by decide +kernel
theorem dX11_count_142 : decode cX11_count 142 = .ok (.getfield 35, 3) := by decide +kernel
theorem dX11_count_145 : decode cX11_count 145 = .ok (.getfield 58, 3) := by decide +kernel
theorem dX11_count_148 : decode cX11_count 148 = .ok (.ireturn, 1) := by decide +kernel
theorem dX11_count_149 : decode cX11_count 149 = .ok (.aload_n 0, 1) := by decide +kernel
theorem dX11_count_150 : decode cX11_count 150 = .ok (.getfield 154, 3) := by decide +kernel
theorem dX11_count_153 : decode cX11_count 153 = .ok (.ireturn, 1) := by decide +kernel
theorem dX11_count_154 : decode cX11_count 154 = .ok (.iconst 0, 1) := by decide +kernel
theorem dX11_count_155 : decode cX11_count 155 = .ok (.aload_n 0, 1) := by decide +kernel
theorem dX11_count_156 : decode cX11_count 156 = .ok (.getfield 10, 3) := by decide +kernel
theorem dX11_count_159 : decode cX11_count 159 = .ok (.getfield 157, 3) := by decide +kernel
theorem dX11_count_162 : decode cX11_count 162 = .ok (.aload_n 0, 1) := by decide +kernel
theorem dX11_count_163 : decode cX11_count 163 = .ok (.getfield 10, 3) := by decide +kernel
theorem dX11_count_166 : decode cX11_count 166 = .ok (.getfield 135, 3) := by decide +kernel
theorem dX11_count_169 : decode cX11_count 169 = .ok (.isub, 1) := by decide +kernel
theorem dX11_count_170 : decode cX11_count 170 = .ok (.invokestatic 160, 3) := by decide +kernel
theorem dX11_count_173 : decode cX11_count 173 = .ok (.ireturn, 1) := by decide +kernel
theorem dX11_count_174 : decode cX11_count 174 = .ok (.aload_n 0, 1) := by decide +kernel
theorem dX11_count_175 : decode cX11_count 175 = .ok (.getfield 43, 3) := by decide +kernel
theorem dX11_count_178 : decode cX11_count 178 = .ok (.iload_n 1, 1) := by decide +kernel
theorem dX11_count_179 : decode cX11_count 179 = .ok (.bipush 10, 2) := by decide +kernel
theorem dX11_count_181 : decode cX11_count 181 = .ok (.isub, 1) := by decide +kernel
theorem dX11_count_182 : decode cX11_count 182 = .ok (.iaload, 1) := by decide +kernel
theorem dX11_count_183 : decode cX11_count 183 = .ok (.ireturn, 1) := by decide +kernel
theorem dX11_count_184 : decode cX11_count 184 = .ok (.bipush (-9), 2) := by decide +kernel
theorem dX11_count_186 : decode cX11_count 186 = .ok (.ireturn, 1) := by decide +kernel
theorem dX11_sale_0 : decode cX11_sale 0 = .ok (.aload_n 0, 1) := by decide +kernel
theorem dX11_sale_1 : decode cX11_sale 1 = .ok (.getfield 10, 3) := by decide +kernel
theorem dX11_sale_4 : decode cX11_sale 4 = .ok (.iload_n 1, 1) := by decide +kernel
theorem dX11_sale_5 : decode cX11_sale 5 = .ok (.iload_n 2, 1) := by decide +kernel
theorem dX11_sale_6 : decode cX11_sale 6 = .ok (.invokevirtual 127, 3) := by decide +kernel
theorem dX11_sale_9 : decode cX11_sale 9 = .ok (.ifCond .eq 10, 3) := by decide +kernel
theorem dX11_sale_12 : decode cX11_sale 12 = .ok (.iload_n 3, 1) := by decide +kernel
theorem dX11_sale_13 : decode cX11_sale 13 = .ok (.invokestatic 111, 3) := by decide +kernel
theorem dX11_sale_16 : decode cX11_sale 16 = .ok (.ifCond .ne 9, 3) := by decide +kernel
theorem dX11_sale_19 : decode cX11_sale 19 = .ok (.aload_n 0, 1) := by decide +kernel
theorem dX11_sale_20 : decode cX11_sale 20 = .ok (.iconst (-1), 1) := by decide +kernel
theorem dX11_sale_21 : decode cX11_sale 21 = .ok (.invokevirtual 46, 3) := by decide +kernel
theorem dX11_sale_24 : decode cX11_sale 24 = .ok (.ireturn, 1) := by decide +kernel
theorem dX11_sale_25 : decode cX11_sale 25 = .ok (.aload_n 0, 1) := by decide +kernel
theorem dX11_sale_26 : decode cX11_sale 26 = .ok (.getfield 10, 3) := by decide +kernel
theorem dX11_sale_29 : decode cX11_sale 29 = .ok (.iload_n 1, 1) := by decide +kernel
theorem dX11_sale_30 : decode cX11_sale 30 = .ok (.iload_n 2, 1) := by decide +kernel
theorem dX11_sale_31 : decode cX11_sale 31 = .ok (.iload_n 3, 1) := by decide +kernel
theorem dX11_sale_32 : decode cX11_sale 32 = .ok (.invokevirtual 165, 3) := by decide +kernel
theorem dX11_sale_35 : decode cX11_sale 35 = .ok (.ifCond .ne 10, 3) := by decide +kernel
theorem dX11_sale_38 : decode cX11_sale 38 = .ok (.aload_n 0, 1) := by decide +kernel
theorem dX11_sale_39 : decode cX11_sale 39 = .ok (.bipush (-3), 2) := by decide +kernel
theorem dX11_sale_41 : decode cX11_sale 41 = .ok (.invokevirtual 46, 3) := by decide +kernel
theorem dX11_sale_44 : decode cX11_sale 44 = .ok (.ireturn, 1) := by decide +kernel
theorem dX11_sale_45 : decode cX11_sale 45 = .ok (.aload_n 0, 1) := by decide +kernel
theorem dX11_sale_46 : decode cX11_sale 46 = .ok (.getfield 10, 3) := by decide +kernel
theorem dX11_sale_49 : decode cX11_sale 49 = .ok (.getfield 108, 3) := by decide +kernel
theorem dX11_sale_52 : decode cX11_sale 52 = .ok (.iload_n 2, 1) := by decide +kernel
theorem dX11_sale_53 : decode cX11_sale 53 = .ok (.iaload, 1) := by decide +kernel
theorem dX11_sale_54 : decode cX11_sale 54 = .ok (.ireturn, 1) := by decide +kernel
theorem dX11_week_0 : decode cX11_week 0 = .ok (.aload_n 0, 1) := by decide +kernel
theorem dX11_week_1 : decode cX11_week 1 = .ok (.getfield 10, 3) := by decide +kernel
theorem dX11_week_4 : decode cX11_week 4 = .ok (.getfield 135, 3) := by decide +kernel
theorem dX11_week_7 : decode cX11_week 7 = .ok (.sipush 9999, 3) := by decide +kernel
theorem dX11_week_10 : decode cX11_week 10 = .ok (.if_icmp .lt 10, 3) := by decide +kernel
theorem dX11_week_13 : decode cX11_week 13 = .ok (.aload_n 0, 1) := by decide +kernel
theorem dX11_week_14 : decode cX11_week 14 = .ok (.bipush (-6), 2) := by decide +kernel
theorem dX11_week_16 : decode cX11_week 16 = .ok (.invokevirtual 46, 3) := by decide +kernel
theorem dX11_week_19 : decode cX11_week 19 = .ok (.ireturn, 1) := by decide +kernel
theorem dX11_week_20 : decode cX11_week 20 = .ok (.aload_n 0, 1) := by decide +kernel
theorem dX11_week_21 : decode cX11_week 21 = .ok (.getfield 25, 3) := by decide +kernel
theorem dX11_week_24 : decode cX11_week 24 = .ok (.invokevirtual 169, 3) := by decide +kernel
theorem dX11_week_27 : decode cX11_week 27 = .ok (.aload_n 0, 1) := by decide +kernel
theorem dX11_week_28 : decode cX11_week 28 = .ok (.getfield 10, 3) := by decide +kernel
theorem dX11_week_31 : decode cX11_week 31 = .ok (.aload_n 0, 1) := by decide +kernel
theorem dX11_week_32 : decode cX11_week 32 = .ok (.getfield 25, 3) := by decide +kernel
theorem dX11_week_35 : decode cX11_week 35 = .ok (.invokevirtual 172, 3) := by decide +kernel
theorem dX11_week_38 : decode cX11_week 38 = .ok (.aload_n 0, 1) := by decide +kernel
theorem dX11_week_39 : decode cX11_week 39 = .ok (.getfield 25, 3) := by decide +kernel
theorem dX11_week_42 : decode cX11_week 42 = .ok (.getfield 176, 3) := by decide +kernel
theorem dX11_week_45 : decode cX11_week 45 = .ok (.ireturn, 1) := by decide +kernel
theorem dX11_mule_0 : decode cX11_mule 0 = .ok (.aload_n 0, 1) := by decide +kernel
theorem dX11_mule_1 : decode cX11_mule 1 = .ok (.getfield 10, 3) := by decide +kernel
theorem dX11_mule_4 : decode cX11_mule 4 = .ok (.iload_n 1, 1) := by decide +kernel
theorem dX11_mule_5 : decode cX11_mule 5 = .ok (.iload_n 2, 1) := by decide +kernel
theorem dX11_mule_6 : decode cX11_mule 6 = .ok (.invokevirtual 127, 3) := by decide +kernel
theorem dX11_mule_9 : decode cX11_mule 9 = .ok (.ifCond .ne 9, 3) := by decide +kernel
theorem dX11_mule_12 : decode cX11_mule 12 = .ok (.aload_n 0, 1) := by decide +kernel
theorem dX11_mule_13 : decode cX11_mule 13 = .ok (.iconst (-1), 1) := by decide +kernel
theorem dX11_mule_14 : decode cX11_mule 14 = .ok (.invokevirtual 46, 3) := by decide +kernel
theorem dX11_mule_17 : decode cX11_mule 17 = .ok (.ireturn, 1) := by decide +kernel
theorem dX11_mule_18 : decode cX11_mule 18 = .ok (.iload_n 3, 1) := by decide +kernel
theorem dX11_mule_19 : decode cX11_mule 19 = .ok (.iconst 1, 1) := by decide +kernel
theorem dX11_mule_20 : decode cX11_mule 20 = .ok (.if_icmp .ge 10, 3) := by decide +kernel
theorem dX11_mule_23 : decode cX11_mule 23 = .ok (.aload_n 0, 1) := by decide +kernel
theorem dX11_mule_24 : decode cX11_mule 24 = .ok (.bipush (-4), 2) := by decide +kernel
theorem dX11_mule_26 : decode cX11_mule 26 = .ok (.invokevirtual 46, 3) := by decide +kernel
theorem dX11_mule_29 : decode cX11_mule 29 = .ok (.ireturn, 1) := by decide +kernel
theorem dX11_mule_30 : decode cX11_mule 30 = .ok (.aload_n 0, 1) := by decide +kernel
theorem dX11_mule_31 : decode cX11_mule 31 = .ok (.getfield 10, 3) := by decide +kernel
theorem dX11_mule_34 : decode cX11_mule 34 = .ok (.getfield 135, 3) := by decide +kernel
theorem dX11_mule_37 : decode cX11_mule 37 = .ok (.aload_n 0, 1) := by decide +kernel
theorem dX11_mule_38 : decode cX11_mule 38 = .ok (.getfield 10, 3) := by decide +kernel
theorem dX11_mule_41 : decode cX11_mule 41 = .ok (.getfield 157, 3) := by decide +kernel
theorem dX11_mule_44 : decode cX11_mule 44 = .ok (.if_icmp .ge 10, 3) := by decide +kernel
theorem dX11_mule_47 : decode cX11_mule 47 = .ok (.aload_n 0, 1) := by decide +kernel
theorem dX11_mule_48 : decode cX11_mule 48 = .ok (.bipush (-3), 2) := by decide +kernel
theorem dX11_mule_50 : decode cX11_mule 50 = .ok (.invokevirtual 46, 3) := by decide +kernel
theorem dX11_mule_53 : decode cX11_mule 53 = .ok (.ireturn, 1) := by decide +kernel
theorem dX11_mule_54 : decode cX11_mule 54 = .ok (.iload_n 3, 1) := by decide +kernel
theorem dX11_mule_55 : decode cX11_mule 55 = .ok (.aload_n 0, 1) := by decide +kernel
theorem dX11_mule_56 : decode cX11_mule 56 = .ok (.getfield 10, 3) := by decide +kernel
theorem dX11_mule_59 : decode cX11_mule 59 = .ok (.getfield 108, 3) := by decide +kernel
theorem dX11_mule_62 : decode cX11_mule 62 = .ok (.iload_n 1, 1) := by decide +kernel
theorem dX11_mule_63 : decode cX11_mule 63 = .ok (.iaload, 1) := by decide +kernel
theorem dX11_mule_64 : decode cX11_mule 64 = .ok (.if_icmp .gt 20, 3) := by decide +kernel
theorem dX11_mule_67 : decode cX11_mule 67 = .ok (.aload_n 0, 1) := by decide +kernel
theorem dX11_mule_68 : decode cX11_mule 68 = .ok (.getfield 10, 3) := by decide +kernel
theorem dX11_mule_71 : decode cX11_mule 71 = .ok (.getfield 108, 3) := by decide +kernel
theorem dX11_mule_74 : decode cX11_mule 74 = .ok (.iload_n 2, 1) := by decide +kernel
theorem dX11_mule_75 : decode cX11_mule 75 = .ok (.iaload, 1) := by decide +kernel
theorem dX11_mule_76 : decode cX11_mule 76 = .ok (.iload_n 3, 1) := by decide +kernel
theorem dX11_mule_77 : decode cX11_mule 77 = .ok (.iadd, 1) := by decide +kernel
theorem dX11_mule_78 : decode cX11_mule 78 = .ok (.sipush 9999, 3) := by decide +kernel
theorem dX11_mule_81 : decode cX11_mule 81 = .ok (.if_icmp .le 10, 3) := by decide +kernel
theorem dX11_mule_84 : decode cX11_mule 84 = .ok (.aload_n 0, 1) := by decide +kernel
theorem dX11_mule_85 : decode cX11_mule 85 = .ok (.bipush (-6), 2) := by decide +kernel
theorem dX11_mule_87 : decode cX11_mule 87 = .ok (.invokevirtual 46, 3) := by decide +kernel
theorem dX11_mule_90 : decode cX11_mule 90 = .ok (.ireturn, 1) := by decide +kernel
theorem dX11_mule_91 : decode cX11_mule 91 = .ok (.aload_n 0, 1) := by decide +kernel
theorem dX11_mule_92 : decode cX11_mule 92 = .ok (.getfield 10, 3) := by decide +kernel
theorem dX11_mule_95 : decode cX11_mule 95 = .ok (.getfield 108, 3) := by decide +kernel
theorem dX11_mule_98 : decode cX11_mule 98 = .ok (.iload_n 1, 1) := by decide +kernel
theorem dX11_mule_99 : decode cX11_mule 99 = .ok (.dup2, 1) := by decide +kernel
theorem dX11_mule_100 : decode cX11_mule 100 = .ok (.iaload, 1) := by decide +kernel
theorem dX11_mule_101 : decode cX11_mule 101 = .ok (.iload_n 3, 1) := by decide +kernel
theorem dX11_mule_102 : decode cX11_mule 102 = .ok (.isub, 1) := by decide +kernel
theorem dX11_mule_103 : decode cX11_mule 103 = .ok (.iastore, 1) := by decide +kernel
theorem dX11_mule_104 : decode cX11_mule 104 = .ok (.aload_n 0, 1) := by decide +kernel
theorem dX11_mule_105 : decode cX11_mule 105 = .ok (.getfield 10, 3) := by decide +kernel
theorem dX11_mule_108 : decode cX11_mule 108 = .ok (.getfield 108, 3) := by decide +kernel
theorem dX11_mule_111 : decode cX11_mule 111 = .ok (.iload_n 2, 1) := by decide +kernel
theorem dX11_mule_112 : decode cX11_mule 112 = .ok (.dup2, 1) := by decide +kernel
theorem dX11_mule_113 : decode cX11_mule 113 = .ok (.iaload, 1) := by decide +kernel
theorem dX11_mule_114 : decode cX11_mule 114 = .ok (.iload_n 3, 1) := by decide +kernel
theorem dX11_mule_115 : decode cX11_mule 115 = .ok (.iadd, 1) := by decide +kernel
theorem dX11_mule_116 : decode cX11_mule 116 = .ok (.iastore, 1) := by decide +kernel
theorem dX11_mule_117 : decode cX11_mule 117 = .ok (.aload_n 0, 1) := by decide +kernel
theorem dX11_mule_118 : decode cX11_mule 118 = .ok (.getfield 10, 3) := by decide +kernel
theorem dX11_mule_121 : decode cX11_mule 121 = .ok (.aload_n 0, 1) := by decide +kernel
theorem dX11_mule_122 : decode cX11_mule 122 = .ok (.getfield 10, 3) := by decide +kernel
theorem dX11_mule_125 : decode cX11_mule 125 = .ok (.getfield 135, 3) := by decide +kernel
theorem dX11_mule_128 : decode cX11_mule 128 = .ok (.bipush 52, 2) := by decide +kernel
theorem dX11_mule_130 : decode cX11_mule 130 = .ok (.iadd, 1) := by decide +kernel
theorem dX11_mule_131 : decode cX11_mule 131 = .ok (.putfield 157, 3) := by decide +kernel
theorem dX11_mule_134 : decode cX11_mule 134 = .ok (.aload_n 0, 1) := by decide +kernel
theorem dX11_mule_135 : decode cX11_mule 135 = .ok (.getfield 10, 3) := by decide +kernel
theorem dX11_mule_138 : decode cX11_mule 138 = .ok (.getfield 157, 3) := by decide +kernel
theorem dX11_mule_141 : decode cX11_mule 141 = .ok (.ireturn, 1) := by decide +kernel
theorem dX11_owe_0 : decode cX11_owe 0 = .ok (.aload_n 0, 1) := by decide +kernel
theorem dX11_owe_1 : decode cX11_owe 1 = .ok (.getfield 10, 3) := by decide +kernel
theorem dX11_owe_4 : decode cX11_owe 4 = .ok (.iload_n 1, 1) := by decide +kernel
theorem dX11_owe_5 : decode cX11_owe 5 = .ok (.iload_n 2, 1) := by decide +kernel
theorem dX11_owe_6 : decode cX11_owe 6 = .ok (.invokevirtual 127, 3) := by decide +kernel
theorem dX11_owe_9 : decode cX11_owe 9 = .ok (.ifCond .ne 9, 3) := by decide +kernel
theorem dX11_owe_12 : decode cX11_owe 12 = .ok (.aload_n 0, 1) := by decide +kernel
theorem dX11_owe_13 : decode cX11_owe 13 = .ok (.iconst (-1), 1) := by decide +kernel
theorem dX11_owe_14 : decode cX11_owe 14 = .ok (.invokevirtual 46, 3) := by decide +kernel
theorem dX11_owe_17 : decode cX11_owe 17 = .ok (.ireturn, 1) := by decide +kernel
theorem dX11_owe_18 : decode cX11_owe 18 = .ok (.iload_n 3, 1) := by decide +kernel
theorem dX11_owe_19 : decode cX11_owe 19 = .ok (.ifCond .ge 10, 3) := by decide +kernel
theorem dX11_owe_22 : decode cX11_owe 22 = .ok (.aload_n 0, 1) := by decide +kernel
theorem dX11_owe_23 : decode cX11_owe 23 = .ok (.bipush (-4), 2) := by decide +kernel
theorem dX11_owe_25 : decode cX11_owe 25 = .ok (.invokevirtual 46, 3) := by decide +kernel
theorem dX11_owe_28 : decode cX11_owe 28 = .ok (.ireturn, 1) := by decide +kernel
theorem dX11_owe_29 : decode cX11_owe 29 = .ok (.iload_n 3, 1) := by decide +kernel
theorem dX11_owe_30 : decode cX11_owe 30 = .ok (.bipush 99, 2) := by decide +kernel
theorem dX11_owe_32 : decode cX11_owe 32 = .ok (.if_icmp .le 10, 3) := by decide +kernel
theorem dX11_owe_35 : decode cX11_owe 35 = .ok (.aload_n 0, 1) := by decide +kernel
theorem dX11_owe_36 : decode cX11_owe 36 = .ok (.bipush (-6), 2) := by decide +kernel
theorem dX11_owe_38 : decode cX11_owe 38 = .ok (.invokevirtual 46, 3) := by decide +kernel
theorem dX11_owe_41 : decode cX11_owe 41 = .ok (.ireturn, 1) := by decide +kernel
theorem dX11_owe_42 : decode cX11_owe 42 = .ok (.aload_n 0, 1) := by decide +kernel
theorem dX11_owe_43 : decode cX11_owe 43 = .ok (.getfield 10, 3) := by decide +kernel
theorem dX11_owe_46 : decode cX11_owe 46 = .ok (.getfield 145, 3) := by decide +kernel
theorem dX11_owe_49 : decode cX11_owe 49 = .ok (.iload_n 1, 1) := by decide +kernel
theorem dX11_owe_50 : decode cX11_owe 50 = .ok (.iload_n 2, 1) := by decide +kernel
theorem dX11_owe_51 : decode cX11_owe 51 = .ok (.invokevirtual 179, 3) := by decide +kernel
theorem dX11_owe_54 : decode cX11_owe 54 = .ok (.istore 4, 2) := by decide +kernel
theorem dX11_owe_56 : decode cX11_owe 56 = .ok (.aload_n 0, 1) := by decide +kernel
theorem dX11_owe_57 : decode cX11_owe 57 = .ok (.getfield 10, 3) := by decide +kernel
theorem dX11_owe_60 : decode cX11_owe 60 = .ok (.getfield 145, 3) := by decide +kernel
theorem dX11_owe_63 : decode cX11_owe 63 = .ok (.iload_n 1, 1) := by decide +kernel
theorem dX11_owe_64 : decode cX11_owe 64 = .ok (.iload_n 2, 1) := by decide +kernel
theorem dX11_owe_65 : decode cX11_owe 65 = .ok (.iload_n 3, 1) := by decide +kernel
theorem dX11_owe_66 : decode cX11_owe 66 = .ok (.invokevirtual 182, 3) := by decide +kernel
theorem dX11_owe_69 : decode cX11_owe 69 = .ok (.iload 4, 2) := by decide +kernel
theorem dX11_owe_71 : decode cX11_owe 71 = .ok (.ireturn, 1) := by decide +kernel
theorem dX11_strike_0 : decode cX11_strike 0 = .ok (.aload_n 0, 1) := by decide +kernel
theorem dX11_strike_1 : decode cX11_strike 1 = .ok (.getfield 10, 3) := by decide +kernel
theorem dX11_strike_4 : decode cX11_strike 4 = .ok (.getfield 145, 3) := by decide +kernel
theorem dX11_strike_7 : decode cX11_strike 7 = .ok (.invokevirtual 186, 3) := by decide +kernel
theorem dX11_strike_10 : decode cX11_strike 10 = .ok (.ireturn, 1) := by decide +kernel
theorem dX11_behind_0 : decode cX11_behind 0 = .ok (.aload_n 0, 1) := by decide +kernel
theorem dX11_behind_1 : decode cX11_behind 1 = .ok (.getfield 10, 3) := by decide +kernel
theorem dX11_behind_4 : decode cX11_behind 4 = .ok (.iload_n 1, 1) := by decide +kernel
theorem dX11_behind_5 : decode cX11_behind 5 = .ok (.invokevirtual 70, 3) := by decide +kernel
theorem dX11_behind_8 : decode cX11_behind 8 = .ok (.ifCond .ne 9, 3) := by decide +kernel
theorem dX11_behind_11 : decode cX11_behind 11 = .ok (.aload_n 0, 1) := by decide +kernel
theorem dX11_behind_12 : decode cX11_behind 12 = .ok (.iconst (-1), 1) := by decide +kernel
theorem dX11_behind_13 : decode cX11_behind 13 = .ok (.invokevirtual 46, 3) := by decide +kernel
theorem dX11_behind_16 : decode cX11_behind 16 = .ok (.ireturn, 1) := by decide +kernel
theorem dX11_behind_17 : decode cX11_behind 17 = .ok (.iload_n 2, 1) := by decide +kernel
theorem dX11_behind_18 : decode cX11_behind 18 = .ok (.ifCond .ge 10, 3) := by decide +kernel
theorem dX11_behind_21 : decode cX11_behind 21 = .ok (.aload_n 0, 1) := by decide +kernel
theorem dX11_behind_22 : decode cX11_behind 22 = .ok (.bipush (-4), 2) := by decide +kernel
theorem dX11_behind_24 : decode cX11_behind 24 = .ok (.invokevirtual 46, 3) := by decide +kernel
theorem dX11_behind_27 : decode cX11_behind 27 = .ok (.ireturn, 1) := by decide +kernel
theorem dX11_behind_28 : decode cX11_behind 28 = .ok (.iload_n 2, 1) := by decide +kernel
theorem dX11_behind_29 : decode cX11_behind 29 = .ok (.bipush 60, 2) := by decide +kernel
theorem dX11_behind_31 : decode cX11_behind 31 = .ok (.if_icmp .le 10, 3) := by decide +kernel
theorem dX11_behind_34 : decode cX11_behind 34 = .ok (.aload_n 0, 1) := by decide +kernel
theorem dX11_behind_35 : decode cX11_behind 35 = .ok (.bipush (-6), 2) := by decide +kernel
theorem dX11_behind_37 : decode cX11_behind 37 = .ok (.invokevirtual 46, 3) := by decide +kernel
theorem dX11_behind_40 : decode cX11_behind 40 = .ok (.ireturn, 1) := by decide +kernel
theorem dX11_behind_41 : decode cX11_behind 41 = .ok (.aload_n 0, 1) := by decide +kernel
theorem dX11_behind_42 : decode cX11_behind 42 = .ok (.iload_n 2, 1) := by decide +kernel
theorem dX11_behind_43 : decode cX11_behind 43 = .ok (.aload_n 0, 1) := by decide +kernel
theorem dX11_behind_44 : decode cX11_behind 44 = .ok (.getfield 10, 3) := by decide +kernel
theorem dX11_behind_47 : decode cX11_behind 47 = .ok (.getfield 124, 3) := by decide +kernel
theorem dX11_behind_50 : decode cX11_behind 50 = .ok (.aload_n 0, 1) := by decide +kernel
theorem dX11_behind_51 : decode cX11_behind 51 = .ok (.getfield 25, 3) := by decide +kernel
theorem dX11_behind_54 : decode cX11_behind 54 = .ok (.invokevirtual 189, 3) := by decide +kernel
theorem dX11_behind_57 : decode cX11_behind 57 = .ok (.aload_n 0, 1) := by decide +kernel
theorem dX11_behind_58 : decode cX11_behind 58 = .ok (.getfield 16, 3) := by decide +kernel
theorem dX11_behind_61 : decode cX11_behind 61 = .ok (.getfield 108, 3) := by decide +kernel
theorem dX11_behind_64 : decode cX11_behind 64 = .ok (.iload_n 1, 1) := by decide +kernel
theorem dX11_behind_65 : decode cX11_behind 65 = .ok (.iaload, 1) := by decide +kernel
theorem dX11_behind_66 : decode cX11_behind 66 = .ok (.ireturn, 1) := by decide +kernel
theorem dX11_served_0 : decode cX11_served 0 = .ok (.iload_n 2, 1) := by decide +kernel
theorem dX11_served_1 : decode cX11_served 1 = .ok (.ifCond .lt 8, 3) := by decide +kernel
theorem dX11_served_4 : decode cX11_served 4 = .ok (.iload_n 2, 1) := by decide +kernel
theorem dX11_served_5 : decode cX11_served 5 = .ok (.iconst 1, 1) := by decide +kernel
theorem dX11_served_6 : decode cX11_served 6 = .ok (.if_icmp .le 10, 3) := by decide +kernel
theorem dX11_served_9 : decode cX11_served 9 = .ok (.aload_n 0, 1) := by decide +kernel
theorem dX11_served_10 : decode cX11_served 10 = .ok (.bipush (-2), 2) := by decide +kernel
theorem dX11_served_12 : decode cX11_served 12 = .ok (.invokevirtual 46, 3) := by decide +kernel
theorem dX11_served_15 : decode cX11_served 15 = .ok (.ireturn, 1) := by decide +kernel
theorem dX11_served_16 : decode cX11_served 16 = .ok (.iload_n 1, 1) := by decide +kernel
theorem dX11_served_17 : decode cX11_served 17 = .ok (.ifCond .ge 10, 3) := by decide +kernel
theorem dX11_served_20 : decode cX11_served 20 = .ok (.aload_n 0, 1) := by decide +kernel
theorem dX11_served_21 : decode cX11_served 21 = .ok (.bipush (-4), 2) := by decide +kernel
theorem dX11_served_23 : decode cX11_served 23 = .ok (.invokevirtual 46, 3) := by decide +kernel
theorem dX11_served_26 : decode cX11_served 26 = .ok (.ireturn, 1) := by decide +kernel
theorem dX11_served_27 : decode cX11_served 27 = .ok (.iload_n 1, 1) := by decide +kernel
theorem dX11_served_28 : decode cX11_served 28 = .ok (.bipush 60, 2) := by decide +kernel
theorem dX11_served_30 : decode cX11_served 30 = .ok (.if_icmp .le 10, 3) := by decide +kernel
theorem dX11_served_33 : decode cX11_served 33 = .ok (.aload_n 0, 1) := by decide +kernel
theorem dX11_served_34 : decode cX11_served 34 = .ok (.bipush (-6), 2) := by decide +kernel
theorem dX11_served_36 : decode cX11_served 36 = .ok (.invokevirtual 46, 3) := by decide +kernel
theorem dX11_served_39 : decode cX11_served 39 = .ok (.ireturn, 1) := by decide +kernel
theorem dX11_served_40 : decode cX11_served 40 = .ok (.aload_n 0, 1) := by decide +kernel
theorem dX11_served_41 : decode cX11_served 41 = .ok (.iload_n 1, 1) := by decide +kernel
theorem dX11_served_42 : decode cX11_served 42 = .ok (.aload_n 0, 1) := by decide +kernel
theorem dX11_served_43 : decode cX11_served 43 = .ok (.getfield 10, 3) := by decide +kernel
theorem dX11_served_46 : decode cX11_served 46 = .ok (.getfield 124, 3) := by decide +kernel
theorem dX11_served_49 : decode cX11_served 49 = .ok (.aload_n 0, 1) := by decide +kernel
theorem dX11_served_50 : decode cX11_served 50 = .ok (.getfield 25, 3) := by decide +kernel
theorem dX11_served_53 : decode cX11_served 53 = .ok (.invokevirtual 189, 3) := by decide +kernel
theorem dX11_served_56 : decode cX11_served 56 = .ok (.iload_n 2, 1) := by decide +kernel
theorem dX11_served_57 : decode cX11_served 57 = .ok (.ifCond .ne 13, 3) := by decide +kernel
theorem dX11_served_60 : decode cX11_served 60 = .ok (.aload_n 0, 1) := by decide +kernel
theorem dX11_served_61 : decode cX11_served 61 = .ok (.getfield 25, 3) := by decide +kernel
theorem dX11_served_64 : decode cX11_served 64 = .ok (.getfield 176, 3) := by decide +kernel
theorem dX11_served_67 : decode cX11_served 67 = .ok (.goto 10, 3) := by decide +kernel
theorem dX11_served_70 : decode cX11_served 70 = .ok (.aload_n 0, 1) := by decide +kernel
theorem dX11_served_71 : decode cX11_served 71 = .ok (.getfield 25, 3) := by decide +kernel
theorem dX11_served_74 : decode cX11_served 74 = .ok (.getfield 193, 3) := by decide +kernel
theorem dX11_served_77 : decode cX11_served 77 = .ok (.ireturn, 1) := by decide +kernel
theorem dX11_drift_0 : decode cX11_drift 0 = .ok (.iload_n 1, 1) := by decide +kernel
theorem dX11_drift_1 : decode cX11_drift 1 = .ok (.ifCond .lt 8, 3) := by decide +kernel
theorem dX11_drift_4 : decode cX11_drift 4 = .ok (.iload_n 1, 1) := by decide +kernel
theorem dX11_drift_5 : decode cX11_drift 5 = .ok (.iconst 1, 1) := by decide +kernel
theorem dX11_drift_6 : decode cX11_drift 6 = .ok (.if_icmp .le 10, 3) := by decide +kernel
theorem dX11_drift_9 : decode cX11_drift 9 = .ok (.aload_n 0, 1) := by decide +kernel
theorem dX11_drift_10 : decode cX11_drift 10 = .ok (.bipush (-2), 2) := by decide +kernel
theorem dX11_drift_12 : decode cX11_drift 12 = .ok (.invokevirtual 46, 3) := by decide +kernel
theorem dX11_drift_15 : decode cX11_drift 15 = .ok (.ireturn, 1) := by decide +kernel
theorem dX11_drift_16 : decode cX11_drift 16 = .ok (.aload_n 0, 1) := by decide +kernel
theorem dX11_drift_17 : decode cX11_drift 17 = .ok (.getfield 10, 3) := by decide +kernel
theorem dX11_drift_20 : decode cX11_drift 20 = .ok (.getfield 134, 3) := by decide +kernel
theorem dX11_drift_23 : decode cX11_drift 23 = .ok (.ifCond .ne 10, 3) := by decide +kernel
theorem dX11_drift_26 : decode cX11_drift 26 = .ok (.aload_n 0, 1) := by decide +kernel
theorem dX11_drift_27 : decode cX11_drift 27 = .ok (.bipush (-3), 2) := by decide +kernel
theorem dX11_drift_29 : decode cX11_drift 29 = .ok (.invokevirtual 46, 3) := by decide +kernel
theorem dX11_drift_32 : decode cX11_drift 32 = .ok (.ireturn, 1) := by decide +kernel
theorem dX11_drift_33 : decode cX11_drift 33 = .ok (.aload_n 0, 1) := by decide +kernel
theorem dX11_drift_34 : decode cX11_drift 34 = .ok (.getfield 16, 3) := by decide +kernel
theorem dX11_drift_37 : decode cX11_drift 37 = .ok (.aload_n 0, 1) := by decide +kernel
theorem dX11_drift_38 : decode cX11_drift 38 = .ok (.getfield 10, 3) := by decide +kernel
theorem dX11_drift_41 : decode cX11_drift 41 = .ok (.invokevirtual 62, 3) := by decide +kernel
theorem dX11_drift_44 : decode cX11_drift 44 = .ok (.aload_n 0, 1) := by decide +kernel
theorem dX11_drift_45 : decode cX11_drift 45 = .ok (.getfield 25, 3) := by decide +kernel
theorem dX11_drift_48 : decode cX11_drift 48 = .ok (.invokevirtual 169, 3) := by decide +kernel
theorem dX11_drift_51 : decode cX11_drift 51 = .ok (.iconst 0, 1) := by decide +kernel
theorem dX11_drift_52 : decode cX11_drift 52 = .ok (.istore_n 2, 1) := by decide +kernel
theorem dX11_drift_53 : decode cX11_drift 53 = .ok (.iload_n 2, 1) := by decide +kernel
theorem dX11_drift_54 : decode cX11_drift 54 = .ok (.bipush 100, 2) := by decide +kernel
theorem dX11_drift_56 : decode cX11_drift 56 = .ok (.if_icmp .gt 48, 3) := by decide +kernel
theorem dX11_drift_59 : decode cX11_drift 59 = .ok (.aload_n 0, 1) := by decide +kernel
theorem dX11_drift_60 : decode cX11_drift 60 = .ok (.getfield 16, 3) := by decide +kernel
theorem dX11_drift_63 : decode cX11_drift 63 = .ok (.invokevirtual 196, 3) := by decide +kernel
theorem dX11_drift_66 : decode cX11_drift 66 = .ok (.istore_n 3, 1) := by decide +kernel
theorem dX11_drift_67 : decode cX11_drift 67 = .ok (.aload_n 0, 1) := by decide +kernel
theorem dX11_drift_68 : decode cX11_drift 68 = .ok (.getfield 16, 3) := by decide +kernel
theorem dX11_drift_71 : decode cX11_drift 71 = .ok (.aload_n 0, 1) := by decide +kernel
theorem dX11_drift_72 : decode cX11_drift 72 = .ok (.getfield 25, 3) := by decide +kernel
theorem dX11_drift_75 : decode cX11_drift 75 = .ok (.invokevirtual 172, 3) := by decide +kernel
theorem dX11_drift_78 : decode cX11_drift 78 = .ok (.aload_n 0, 1) := by decide +kernel
theorem dX11_drift_79 : decode cX11_drift 79 = .ok (.getfield 25, 3) := by decide +kernel
theorem dX11_drift_82 : decode cX11_drift 82 = .ok (.getfield 199, 3) := by decide +kernel
theorem dX11_drift_85 : decode cX11_drift 85 = .ok (.ifCond .ne 13, 3) := by decide +kernel
theorem dX11_drift_88 : decode cX11_drift 88 = .ok (.iload_n 1, 1) := by decide +kernel
theorem dX11_drift_89 : decode cX11_drift 89 = .ok (.ifCond .ne 7, 3) := by decide +kernel
theorem dX11_drift_92 : decode cX11_drift 92 = .ok (.iload_n 2, 1) := by decide +kernel
theorem dX11_drift_93 : decode cX11_drift 93 = .ok (.goto 4, 3) := by decide +kernel
theorem dX11_drift_96 : decode cX11_drift 96 = .ok (.iload_n 3, 1) := by decide +kernel
theorem dX11_drift_97 : decode cX11_drift 97 = .ok (.ireturn, 1) := by decide +kernel
theorem dX11_drift_98 : decode cX11_drift 98 = .ok (.iinc 2 1, 3) := by decide +kernel
theorem dX11_drift_101 : decode cX11_drift 101 = .ok (.goto (-48), 3) := by decide +kernel
theorem dX11_drift_104 : decode cX11_drift 104 = .ok (.bipush (-9), 2) := by decide +kernel
theorem dX11_drift_106 : decode cX11_drift 106 = .ok (.ireturn, 1) := by decide +kernel
theorem dX11_votes_0 : decode cX11_votes 0 = .ok (.iload_n 1, 1) := by decide +kernel
theorem dX11_votes_1 : decode cX11_votes 1 = .ok (.invokestatic 121, 3) := by decide +kernel
theorem dX11_votes_4 : decode cX11_votes 4 = .ok (.ifCond .ne 10, 3) := by decide +kernel
theorem dX11_votes_7 : decode cX11_votes 7 = .ok (.aload_n 0, 1) := by decide +kernel
theorem dX11_votes_8 : decode cX11_votes 8 = .ok (.bipush (-2), 2) := by decide +kernel
theorem dX11_votes_10 : decode cX11_votes 10 = .ok (.invokevirtual 46, 3) := by decide +kernel
theorem dX11_votes_13 : decode cX11_votes 13 = .ok (.ireturn, 1) := by decide +kernel
theorem dX11_votes_14 : decode cX11_votes 14 = .ok (.iload_n 2, 1) := by decide +kernel
theorem dX11_votes_15 : decode cX11_votes 15 = .ok (.iconst 1, 1) := by decide +kernel
theorem dX11_votes_16 : decode cX11_votes 16 = .ok (.if_icmp .ge 10, 3) := by decide +kernel
theorem dX11_votes_19 : decode cX11_votes 19 = .ok (.aload_n 0, 1) := by decide +kernel
theorem dX11_votes_20 : decode cX11_votes 20 = .ok (.bipush (-4), 2) := by decide +kernel
theorem dX11_votes_22 : decode cX11_votes 22 = .ok (.invokevirtual 46, 3) := by decide +kernel
theorem dX11_votes_25 : decode cX11_votes 25 = .ok (.ireturn, 1) := by decide +kernel
theorem dX11_votes_26 : decode cX11_votes 26 = .ok (.iload_n 2, 1) := by decide +kernel
theorem dX11_votes_27 : decode cX11_votes 27 = .ok (.bipush 30, 2) := by decide +kernel
theorem dX11_votes_29 : decode cX11_votes 29 = .ok (.if_icmp .le 10, 3) := by decide +kernel
theorem dX11_votes_32 : decode cX11_votes 32 = .ok (.aload_n 0, 1) := by decide +kernel
theorem dX11_votes_33 : decode cX11_votes 33 = .ok (.bipush (-6), 2) := by decide +kernel
theorem dX11_votes_35 : decode cX11_votes 35 = .ok (.invokevirtual 46, 3) := by decide +kernel
theorem dX11_votes_38 : decode cX11_votes 38 = .ok (.ireturn, 1) := by decide +kernel
theorem dX11_votes_39 : decode cX11_votes 39 = .ok (.aload_n 0, 1) := by decide +kernel
theorem dX11_votes_40 : decode cX11_votes 40 = .ok (.iload_n 2, 1) := by decide +kernel
theorem dX11_votes_41 : decode cX11_votes 41 = .ok (.aload_n 0, 1) := by decide +kernel
theorem dX11_votes_42 : decode cX11_votes 42 = .ok (.getfield 10, 3) := by decide +kernel
theorem dX11_votes_45 : decode cX11_votes 45 = .ok (.getfield 124, 3) := by decide +kernel
theorem dX11_votes_48 : decode cX11_votes 48 = .ok (.aload_n 0, 1) := by decide +kernel
theorem dX11_votes_49 : decode cX11_votes 49 = .ok (.getfield 25, 3) := by decide +kernel
theorem dX11_votes_52 : decode cX11_votes 52 = .ok (.invokevirtual 189, 3) := by decide +kernel
theorem dX11_votes_55 : decode cX11_votes 55 = .ok (.aload_n 0, 1) := by decide +kernel
theorem dX11_votes_56 : decode cX11_votes 56 = .ok (.iload_n 2, 1) := by decide +kernel
theorem dX11_votes_57 : decode cX11_votes 57 = .ok (.iload_n 1, 1) := by decide +kernel
theorem dX11_votes_58 : decode cX11_votes 58 = .ok (.aload_n 0, 1) := by decide +kernel
theorem dX11_votes_59 : decode cX11_votes 59 = .ok (.getfield 29, 3) := by decide +kernel
theorem dX11_votes_62 : decode cX11_votes 62 = .ok (.invokevirtual 189, 3) := by decide +kernel
theorem dX11_votes_65 : decode cX11_votes 65 = .ok (.iconst 0, 1) := by decide +kernel
theorem dX11_votes_66 : decode cX11_votes 66 = .ok (.istore_n 3, 1) := by decide +kernel
theorem dX11_votes_67 : decode cX11_votes 67 = .ok (.iconst 0, 1) := by decide +kernel
theorem dX11_votes_68 : decode cX11_votes 68 = .ok (.istore 4, 2) := by decide +kernel
theorem dX11_votes_70 : decode cX11_votes 70 = .ok (.iload 4, 2) := by decide +kernel
theorem dX11_votes_72 : decode cX11_votes 72 = .ok (.aload_n 0, 1) := by decide +kernel
theorem dX11_votes_73 : decode cX11_votes 73 = .ok (.getfield 10, 3) := by decide +kernel
theorem dX11_votes_76 : decode cX11_votes 76 = .ok (.getfield 134, 3) := by decide +kernel
theorem dX11_votes_79 : decode cX11_votes 79 = .ok (.if_icmp .ge 39, 3) := by decide +kernel
theorem dX11_votes_82 : decode cX11_votes 82 = .ok (.aload_n 0, 1) := by decide +kernel
theorem dX11_votes_83 : decode cX11_votes 83 = .ok (.getfield 29, 3) := by decide +kernel
theorem dX11_votes_86 : decode cX11_votes 86 = .ok (.getfield 202, 3) := by decide +kernel
theorem dX11_votes_89 : decode cX11_votes 89 = .ok (.iload 4, 2) := by decide +kernel
theorem dX11_votes_91 : decode cX11_votes 91 = .ok (.iaload, 1) := by decide +kernel
theorem dX11_votes_92 : decode cX11_votes 92 = .ok (.aload_n 0, 1) := by decide +kernel
theorem dX11_votes_93 : decode cX11_votes 93 = .ok (.getfield 25, 3) := by decide +kernel
theorem dX11_votes_96 : decode cX11_votes 96 = .ok (.getfield 202, 3) := by decide +kernel
theorem dX11_votes_99 : decode cX11_votes 99 = .ok (.iload 4, 2) := by decide +kernel
theorem dX11_votes_101 : decode cX11_votes 101 = .ok (.iaload, 1) := by decide +kernel
theorem dX11_votes_102 : decode cX11_votes 102 = .ok (.if_icmp .le 10, 3) := by decide +kernel
theorem dX11_votes_105 : decode cX11_votes 105 = .ok (.iload_n 3, 1) := by decide +kernel
theorem dX11_votes_106 : decode cX11_votes 106 = .ok (.iconst 1, 1) := by decide +kernel
theorem dX11_votes_107 : decode cX11_votes 107 = .ok (.iload 4, 2) := by decide +kernel
theorem dX11_votes_109 : decode cX11_votes 109 = .ok (.ishl, 1) := by decide +kernel
theorem dX11_votes_110 : decode cX11_votes 110 = .ok (.ior, 1) := by decide +kernel
theorem dX11_votes_111 : decode cX11_votes 111 = .ok (.istore_n 3, 1) := by decide +kernel
theorem dX11_votes_112 : decode cX11_votes 112 = .ok (.iinc 4 1, 3) := by decide +kernel
theorem dX11_votes_115 : decode cX11_votes 115 = .ok (.goto (-45), 3) := by decide +kernel
theorem dX11_votes_118 : decode cX11_votes 118 = .ok (.iload_n 3, 1) := by decide +kernel
theorem dX11_votes_119 : decode cX11_votes 119 = .ok (.ireturn, 1) := by decide +kernel
theorem dX11_passInMind_0 : decode cX11_passInMind 0 = .ok (.aload_n 0, 1) := by decide +kernel
theorem dX11_passInMind_1 : decode cX11_passInMind 1 = .ok (.getfield 16, 3) := by decide +kernel
theorem dX11_passInMind_4 : decode cX11_passInMind 4 = .ok (.aload_n 0, 1) := by decide +kernel
theorem dX11_passInMind_5 : decode cX11_passInMind 5 = .ok (.getfield 10, 3) := by decide +kernel
theorem dX11_passInMind_8 : decode cX11_passInMind 8 = .ok (.invokevirtual 62, 3) := by decide +kernel
theorem dX11_passInMind_11 : decode cX11_passInMind 11 = .ok (.aload_n 0, 1) := by decide +kernel
theorem dX11_passInMind_12 : decode cX11_passInMind 12 = .ok (.getfield 16, 3) := by decide +kernel
theorem dX11_passInMind_15 : decode cX11_passInMind 15 = .ok (.iload_n 2, 1) := by decide +kernel
theorem dX11_passInMind_16 : decode cX11_passInMind 16 = .ok (.putfield 124, 3) := by decide +kernel
theorem dX11_passInMind_19 : decode cX11_passInMind 19 = .ok (.aload_n 3, 1) := by decide +kernel
theorem dX11_passInMind_20 : decode cX11_passInMind 20 = .ok (.invokevirtual 169, 3) := by decide +kernel
theorem dX11_passInMind_23 : decode cX11_passInMind 23 = .ok (.iconst 0, 1) := by decide +kernel
theorem dX11_passInMind_24 : decode cX11_passInMind 24 = .ok (.istore 4, 2) := by decide +kernel
theorem dX11_passInMind_26 : decode cX11_passInMind 26 = .ok (.iload 4, 2) := by decide +kernel
theorem dX11_passInMind_28 : decode cX11_passInMind 28 = .ok (.iload_n 1, 1) := by decide +kernel
theorem dX11_passInMind_29 : decode cX11_passInMind 29 = .ok (.if_icmp .ge 17, 3) := by decide +kernel
theorem dX11_passInMind_32 : decode cX11_passInMind 32 = .ok (.aload_n 0, 1) := by decide +kernel
theorem dX11_passInMind_33 : decode cX11_passInMind 33 = .ok (.getfield 16, 3) := by decide +kernel
theorem dX11_passInMind_36 : decode cX11_passInMind 36 = .ok (.aload_n 3, 1) := by decide +kernel
theorem dX11_passInMind_37 : decode cX11_passInMind 37 = .ok (.invokevirtual 172, 3) := by decide +kernel
theorem dX11_passInMind_40 : decode cX11_passInMind 40 = .ok (.iinc 4 1, 3) := by decide +kernel
theorem dX11_passInMind_43 : decode cX11_passInMind 43 = .ok (.goto (-17), 3) := by decide +kernel
theorem dX11_passInMind_46 : decode cX11_passInMind 46 = .ok (.return_, 1) := by decide +kernel
theorem dX11_rings_0 : decode cX11_rings 0 = .ok (.iload_n 1, 1) := by decide +kernel
theorem dX11_rings_1 : decode cX11_rings 1 = .ok (.ifCond .lt 8, 3) := by decide +kernel
theorem dX11_rings_4 : decode cX11_rings 4 = .ok (.iload_n 1, 1) := by decide +kernel
theorem dX11_rings_5 : decode cX11_rings 5 = .ok (.iconst 1, 1) := by decide +kernel
theorem dX11_rings_6 : decode cX11_rings 6 = .ok (.if_icmp .le 10, 3) := by decide +kernel
theorem dX11_rings_9 : decode cX11_rings 9 = .ok (.aload_n 0, 1) := by decide +kernel
theorem dX11_rings_10 : decode cX11_rings 10 = .ok (.bipush (-2), 2) := by decide +kernel
theorem dX11_rings_12 : decode cX11_rings 12 = .ok (.invokevirtual 46, 3) := by decide +kernel
theorem dX11_rings_15 : decode cX11_rings 15 = .ok (.ireturn, 1) := by decide +kernel
theorem dX11_rings_16 : decode cX11_rings 16 = .ok (.aload_n 0, 1) := by decide +kernel
theorem dX11_rings_17 : decode cX11_rings 17 = .ok (.getfield 16, 3) := by decide +kernel
theorem dX11_rings_20 : decode cX11_rings 20 = .ok (.aload_n 0, 1) := by decide +kernel
theorem dX11_rings_21 : decode cX11_rings 21 = .ok (.getfield 10, 3) := by decide +kernel
theorem dX11_rings_24 : decode cX11_rings 24 = .ok (.invokevirtual 62, 3) := by decide +kernel
theorem dX11_rings_27 : decode cX11_rings 27 = .ok (.aload_n 0, 1) := by decide +kernel
theorem dX11_rings_28 : decode cX11_rings 28 = .ok (.getfield 16, 3) := by decide +kernel
theorem dX11_rings_31 : decode cX11_rings 31 = .ok (.getfield 145, 3) := by decide +kernel
theorem dX11_rings_34 : decode cX11_rings 34 = .ok (.invokevirtual 186, 3) := by decide +kernel
theorem dX11_rings_37 : decode cX11_rings 37 = .ok (.istore_n 2, 1) := by decide +kernel
theorem dX11_rings_38 : decode cX11_rings 38 = .ok (.iload_n 1, 1) := by decide +kernel
theorem dX11_rings_39 : decode cX11_rings 39 = .ok (.ifCond .ne 7, 3) := by decide +kernel
theorem dX11_rings_42 : decode cX11_rings 42 = .ok (.iload_n 2, 1) := by decide +kernel
theorem dX11_rings_43 : decode cX11_rings 43 = .ok (.goto 24, 3) := by decide +kernel
theorem dX11_rings_46 : decode cX11_rings 46 = .ok (.aload_n 0, 1) := by decide +kernel
theorem dX11_rings_47 : decode cX11_rings 47 = .ok (.getfield 10, 3) := by decide +kernel
theorem dX11_rings_50 : decode cX11_rings 50 = .ok (.getfield 145, 3) := by decide +kernel
theorem dX11_rings_53 : decode cX11_rings 53 = .ok (.invokevirtual 149, 3) := by decide +kernel
theorem dX11_rings_56 : decode cX11_rings 56 = .ok (.aload_n 0, 1) := by decide +kernel
theorem dX11_rings_57 : decode cX11_rings 57 = .ok (.getfield 16, 3) := by decide +kernel
theorem dX11_rings_60 : decode cX11_rings 60 = .ok (.getfield 145, 3) := by decide +kernel
theorem dX11_rings_63 : decode cX11_rings 63 = .ok (.invokevirtual 149, 3) := by decide +kernel
theorem dX11_rings_66 : decode cX11_rings 66 = .ok (.isub, 1) := by decide +kernel
theorem dX11_rings_67 : decode cX11_rings 67 = .ok (.ireturn, 1) := by decide +kernel
theorem dX11_seeds_0 : decode cX11_seeds 0 = .ok (.iload_n 1, 1) := by decide +kernel
theorem dX11_seeds_1 : decode cX11_seeds 1 = .ok (.iconst 1, 1) := by decide +kernel
theorem dX11_seeds_2 : decode cX11_seeds 2 = .ok (.if_icmp .ge 10, 3) := by decide +kernel
theorem dX11_seeds_5 : decode cX11_seeds 5 = .ok (.aload_n 0, 1) := by decide +kernel
theorem dX11_seeds_6 : decode cX11_seeds 6 = .ok (.bipush (-4), 2) := by decide +kernel
theorem dX11_seeds_8 : decode cX11_seeds 8 = .ok (.invokevirtual 46, 3) := by decide +kernel
theorem dX11_seeds_11 : decode cX11_seeds 11 = .ok (.ireturn, 1) := by decide +kernel
theorem dX11_seeds_12 : decode cX11_seeds 12 = .ok (.iload_n 1, 1) := by decide +kernel
theorem dX11_seeds_13 : decode cX11_seeds 13 = .ok (.bipush 60, 2) := by decide +kernel
theorem dX11_seeds_15 : decode cX11_seeds 15 = .ok (.if_icmp .le 10, 3) := by decide +kernel
theorem dX11_seeds_18 : decode cX11_seeds 18 = .ok (.aload_n 0, 1) := by decide +kernel
theorem dX11_seeds_19 : decode cX11_seeds 19 = .ok (.bipush (-6), 2) := by decide +kernel
theorem dX11_seeds_21 : decode cX11_seeds 21 = .ok (.invokevirtual 46, 3) := by decide +kernel
theorem dX11_seeds_24 : decode cX11_seeds 24 = .ok (.ireturn, 1) := by decide +kernel
theorem dX11_seeds_25 : decode cX11_seeds 25 = .ok (.aload_n 0, 1) := by decide +kernel
theorem dX11_seeds_26 : decode cX11_seeds 26 = .ok (.getfield 10, 3) := by decide +kernel
theorem dX11_seeds_29 : decode cX11_seeds 29 = .ok (.getfield 134, 3) := by decide +kernel
theorem dX11_seeds_32 : decode cX11_seeds 32 = .ok (.ifCond .ne 10, 3) := by decide +kernel
theorem dX11_seeds_35 : decode cX11_seeds 35 = .ok (.aload_n 0, 1) := by decide +kernel
theorem dX11_seeds_36 : decode cX11_seeds 36 = .ok (.bipush (-3), 2) := by decide +kernel
theorem dX11_seeds_38 : decode cX11_seeds 38 = .ok (.invokevirtual 46, 3) := by decide +kernel
theorem dX11_seeds_41 : decode cX11_seeds 41 = .ok (.ireturn, 1) := by decide +kernel
theorem dX11_seeds_42 : decode cX11_seeds 42 = .ok (.aload_n 0, 1) := by decide +kernel
theorem dX11_seeds_43 : decode cX11_seeds 43 = .ok (.getfield 16, 3) := by decide +kernel
theorem dX11_seeds_46 : decode cX11_seeds 46 = .ok (.aload_n 0, 1) := by decide +kernel
theorem dX11_seeds_47 : decode cX11_seeds 47 = .ok (.getfield 10, 3) := by decide +kernel
theorem dX11_seeds_50 : decode cX11_seeds 50 = .ok (.invokevirtual 62, 3) := by decide +kernel
theorem dX11_seeds_53 : decode cX11_seeds 53 = .ok (.iconst 0, 1) := by decide +kernel
theorem dX11_seeds_54 : decode cX11_seeds 54 = .ok (.istore_n 3, 1) := by decide +kernel
theorem dX11_seeds_55 : decode cX11_seeds 55 = .ok (.iload_n 2, 1) := by decide +kernel
theorem dX11_seeds_56 : decode cX11_seeds 56 = .ok (.istore 4, 2) := by decide +kernel
theorem dX11_seeds_58 : decode cX11_seeds 58 = .ok (.iconst 0, 1) := by decide +kernel
theorem dX11_seeds_59 : decode cX11_seeds 59 = .ok (.istore 5, 2) := by decide +kernel
theorem dX11_seeds_61 : decode cX11_seeds 61 = .ok (.iload 5, 2) := by decide +kernel
theorem dX11_seeds_63 : decode cX11_seeds 63 = .ok (.iload_n 1, 1) := by decide +kernel
theorem dX11_seeds_64 : decode cX11_seeds 64 = .ok (.if_icmp .ge 81, 3) := by decide +kernel
theorem dX11_seeds_67 : decode cX11_seeds 67 = .ok (.iload 4, 2) := by decide +kernel
theorem dX11_seeds_69 : decode cX11_seeds 69 = .ok (.invokestatic 205, 3) := by decide +kernel
theorem dX11_seeds_72 : decode cX11_seeds 72 = .ok (.istore 4, 2) := by decide +kernel
theorem dX11_seeds_74 : decode cX11_seeds 74 = .ok (.aload_n 0, 1) := by decide +kernel
theorem dX11_seeds_75 : decode cX11_seeds 75 = .ok (.getfield 10, 3) := by decide +kernel
theorem dX11_seeds_78 : decode cX11_seeds 78 = .ok (.getfield 134, 3) := by decide +kernel
theorem dX11_seeds_81 : decode cX11_seeds 81 = .ok (.iload 4, 2) := by decide +kernel
theorem dX11_seeds_83 : decode cX11_seeds 83 = .ok (.invokestatic 208, 3) := by decide +kernel
theorem dX11_seeds_86 : decode cX11_seeds 86 = .ok (.istore 6, 2) := by decide +kernel
theorem dX11_seeds_88 : decode cX11_seeds 88 = .ok (.iload 4, 2) := by decide +kernel
theorem dX11_seeds_90 : decode cX11_seeds 90 = .ok (.invokestatic 205, 3) := by decide +kernel
theorem dX11_seeds_93 : decode cX11_seeds 93 = .ok (.istore 4, 2) := by decide +kernel
theorem dX11_seeds_95 : decode cX11_seeds 95 = .ok (.aload_n 0, 1) := by decide +kernel
theorem dX11_seeds_96 : decode cX11_seeds 96 = .ok (.getfield 10, 3) := by decide +kernel
theorem dX11_seeds_99 : decode cX11_seeds 99 = .ok (.getfield 134, 3) := by decide +kernel
theorem dX11_seeds_102 : decode cX11_seeds 102 = .ok (.iload 4, 2) := by decide +kernel
theorem dX11_seeds_104 : decode cX11_seeds 104 = .ok (.invokestatic 208, 3) := by decide +kernel
theorem dX11_seeds_107 : decode cX11_seeds 107 = .ok (.istore 7, 2) := by decide +kernel
theorem dX11_seeds_109 : decode cX11_seeds 109 = .ok (.iload 4, 2) := by decide +kernel
theorem dX11_seeds_111 : decode cX11_seeds 111 = .ok (.invokestatic 205, 3) := by decide +kernel
theorem dX11_seeds_114 : decode cX11_seeds 114 = .ok (.istore 4, 2) := by decide +kernel
theorem dX11_seeds_116 : decode cX11_seeds 116 = .ok (.aload_n 0, 1) := by decide +kernel
theorem dX11_seeds_117 : decode cX11_seeds 117 = .ok (.getfield 16, 3) := by decide +kernel
theorem dX11_seeds_120 : decode cX11_seeds 120 = .ok (.iload 6, 2) := by decide +kernel
theorem dX11_seeds_122 : decode cX11_seeds 122 = .ok (.iload 7, 2) := by decide +kernel
theorem dX11_seeds_124 : decode cX11_seeds 124 = .ok (.iconst 3, 1) := by decide +kernel
theorem dX11_seeds_125 : decode cX11_seeds 125 = .ok (.iload 4, 2) := by decide +kernel
theorem dX11_seeds_127 : decode cX11_seeds 127 = .ok (.invokestatic 208, 3) := by decide +kernel
theorem dX11_seeds_130 : decode cX11_seeds 130 = .ok (.invokevirtual 165, 3) := by decide +kernel
theorem dX11_seeds_133 : decode cX11_seeds 133 = .ok (.ifCond .eq 6, 3) := by decide +kernel
theorem dX11_seeds_136 : decode cX11_seeds 136 = .ok (.iinc 3 1, 3) := by decide +kernel
theorem dX11_seeds_139 : decode cX11_seeds 139 = .ok (.iinc 5 1, 3) := by decide +kernel
theorem dX11_seeds_142 : decode cX11_seeds 142 = .ok (.goto (-81), 3) := by decide +kernel
theorem dX11_seeds_145 : decode cX11_seeds 145 = .ok (.iload_n 3, 1) := by decide +kernel
theorem dX11_seeds_146 : decode cX11_seeds 146 = .ok (.ireturn, 1) := by decide +kernel
theorem dX11_nextSeed_0 : decode cX11_nextSeed 0 = .ok (.iload_n 0, 1) := by decide +kernel
theorem dX11_nextSeed_1 : decode cX11_nextSeed 1 = .ok (.ldc 211, 2) := by decide +kernel
theorem dX11_nextSeed_3 : decode cX11_nextSeed 3 = .ok (.imul, 1) := by decide +kernel
theorem dX11_nextSeed_4 : decode cX11_nextSeed 4 = .ok (.sipush 12345, 3) := by decide +kernel
theorem dX11_nextSeed_7 : decode cX11_nextSeed 7 = .ok (.iadd, 1) := by decide +kernel
theorem dX11_nextSeed_8 : decode cX11_nextSeed 8 = .ok (.ireturn, 1) := by decide +kernel
theorem dX11_drawBelow_0 : decode cX11_drawBelow 0 = .ok (.iload_n 0, 1) := by decide +kernel
theorem dX11_drawBelow_1 : decode cX11_drawBelow 1 = .ok (.ifCond .le 15, 3) := by decide +kernel
theorem dX11_drawBelow_4 : decode cX11_drawBelow 4 = .ok (.iload_n 1, 1) := by decide +kernel
theorem dX11_drawBelow_5 : decode cX11_drawBelow 5 = .ok (.ldc 212, 2) := by decide +kernel
theorem dX11_drawBelow_7 : decode cX11_drawBelow 7 = .ok (.iand, 1) := by decide +kernel
theorem dX11_drawBelow_8 : decode cX11_drawBelow 8 = .ok (.ldc 213, 2) := by decide +kernel
theorem dX11_drawBelow_10 : decode cX11_drawBelow 10 = .ok (.idiv, 1) := by decide +kernel
theorem dX11_drawBelow_11 : decode cX11_drawBelow 11 = .ok (.iload_n 0, 1) := by decide +kernel
theorem dX11_drawBelow_12 : decode cX11_drawBelow 12 = .ok (.irem, 1) := by decide +kernel
theorem dX11_drawBelow_13 : decode cX11_drawBelow 13 = .ok (.goto 4, 3) := by decide +kernel
theorem dX11_drawBelow_16 : decode cX11_drawBelow 16 = .ok (.iconst 0, 1) := by decide +kernel
theorem dX11_drawBelow_17 : decode cX11_drawBelow 17 = .ok (.ireturn, 1) := by decide +kernel
theorem dX11_stuck_0 : decode cX11_stuck 0 = .ok (.iconst 0, 1) := by decide +kernel
theorem dX11_stuck_1 : decode cX11_stuck 1 = .ok (.istore_n 1, 1) := by decide +kernel
theorem dX11_stuck_2 : decode cX11_stuck 2 = .ok (.iconst 0, 1) := by decide +kernel
theorem dX11_stuck_3 : decode cX11_stuck 3 = .ok (.istore_n 2, 1) := by decide +kernel
theorem dX11_stuck_4 : decode cX11_stuck 4 = .ok (.iload_n 2, 1) := by decide +kernel
theorem dX11_stuck_5 : decode cX11_stuck 5 = .ok (.iconst 3, 1) := by decide +kernel
theorem dX11_stuck_6 : decode cX11_stuck 6 = .ok (.if_icmp .ge 20, 3) := by decide +kernel
theorem dX11_stuck_9 : decode cX11_stuck 9 = .ok (.iload_n 1, 1) := by decide +kernel
theorem dX11_stuck_10 : decode cX11_stuck 10 = .ok (.aload_n 0, 1) := by decide +kernel
theorem dX11_stuck_11 : decode cX11_stuck 11 = .ok (.getfield 10, 3) := by decide +kernel
theorem dX11_stuck_14 : decode cX11_stuck 14 = .ok (.iload_n 2, 1) := by decide +kernel
theorem dX11_stuck_15 : decode cX11_stuck 15 = .ok (.invokestatic 214, 3) := by decide +kernel
theorem dX11_stuck_18 : decode cX11_stuck 18 = .ok (.iadd, 1) := by decide +kernel
theorem dX11_stuck_19 : decode cX11_stuck 19 = .ok (.istore_n 1, 1) := by decide +kernel
theorem dX11_stuck_20 : decode cX11_stuck 20 = .ok (.iinc 2 1, 3) := by decide +kernel
theorem dX11_stuck_23 : decode cX11_stuck 23 = .ok (.goto (-19), 3) := by decide +kernel
theorem dX11_stuck_26 : decode cX11_stuck 26 = .ok (.iload_n 1, 1) := by decide +kernel
theorem dX11_stuck_27 : decode cX11_stuck 27 = .ok (.ireturn, 1) := by decide +kernel
theorem dX11_most_0 : decode cX11_most 0 = .ok (.iload_n 1, 1) := by decide +kernel
theorem dX11_most_1 : decode cX11_most 1 = .ok (.invokestatic 111, 3) := by decide +kernel
theorem dX11_most_4 : decode cX11_most 4 = .ok (.ifCond .ne 9, 3) := by decide +kernel
theorem dX11_most_7 : decode cX11_most 7 = .ok (.aload_n 0, 1) := by decide +kernel
theorem dX11_most_8 : decode cX11_most 8 = .ok (.iconst (-1), 1) := by decide +kernel
theorem dX11_most_9 : decode cX11_most 9 = .ok (.invokevirtual 46, 3) := by decide +kernel
theorem dX11_most_12 : decode cX11_most 12 = .ok (.ireturn, 1) := by decide +kernel
theorem dX11_most_13 : decode cX11_most 13 = .ok (.aload_n 0, 1) := by decide +kernel
theorem dX11_most_14 : decode cX11_most 14 = .ok (.getfield 10, 3) := by decide +kernel
theorem dX11_most_17 : decode cX11_most 17 = .ok (.iload_n 1, 1) := by decide +kernel
theorem dX11_most_18 : decode cX11_most 18 = .ok (.invokestatic 220, 3) := by decide +kernel
theorem dX11_most_21 : decode cX11_most 21 = .ok (.ireturn, 1) := by decide +kernel
theorem dX11_cellar_0 : decode cX11_cellar 0 = .ok (.aload_n 0, 1) := by decide +kernel
theorem dX11_cellar_1 : decode cX11_cellar 1 = .ok (.getfield 10, 3) := by decide +kernel
theorem dX11_cellar_4 : decode cX11_cellar 4 = .ok (.iload_n 1, 1) := by decide +kernel
theorem dX11_cellar_5 : decode cX11_cellar 5 = .ok (.invokevirtual 70, 3) := by decide +kernel
theorem dX11_cellar_8 : decode cX11_cellar 8 = .ok (.ifCond .eq 10, 3) := by decide +kernel
theorem dX11_cellar_11 : decode cX11_cellar 11 = .ok (.iload_n 2, 1) := by decide +kernel
theorem dX11_cellar_12 : decode cX11_cellar 12 = .ok (.invokestatic 111, 3) := by decide +kernel
theorem dX11_cellar_15 : decode cX11_cellar 15 = .ok (.ifCond .ne 12, 3) := by decide +kernel
theorem dX11_cellar_18 : decode cX11_cellar 18 = .ok (.ldc 223, 2) := by decide +kernel
theorem dX11_cellar_20 : decode cX11_cellar 20 = .ok (.aload_n 0, 1) := by decide +kernel
theorem dX11_cellar_21 : decode cX11_cellar 21 = .ok (.iconst (-1), 1) := by decide +kernel
theorem dX11_cellar_22 : decode cX11_cellar 22 = .ok (.invokevirtual 46, 3) := by decide +kernel
theorem dX11_cellar_25 : decode cX11_cellar 25 = .ok (.isub, 1) := by decide +kernel
theorem dX11_cellar_26 : decode cX11_cellar 26 = .ok (.ireturn, 1) := by decide +kernel
theorem dX11_cellar_27 : decode cX11_cellar 27 = .ok (.iload_n 3, 1) := by decide +kernel
theorem dX11_cellar_28 : decode cX11_cellar 28 = .ok (.ifCond .ge 13, 3) := by decide +kernel
theorem dX11_cellar_31 : decode cX11_cellar 31 = .ok (.ldc 223, 2) := by decide +kernel
theorem dX11_cellar_33 : decode cX11_cellar 33 = .ok (.aload_n 0, 1) := by decide +kernel
theorem dX11_cellar_34 : decode cX11_cellar 34 = .ok (.bipush (-4), 2) := by decide +kernel
theorem dX11_cellar_36 : decode cX11_cellar 36 = .ok (.invokevirtual 46, 3) := by decide +kernel
theorem dX11_cellar_39 : decode cX11_cellar 39 = .ok (.isub, 1) := by decide +kernel
theorem dX11_cellar_40 : decode cX11_cellar 40 = .ok (.ireturn, 1) := by decide +kernel
theorem dX11_cellar_41 : decode cX11_cellar 41 = .ok (.iload_n 3, 1) := by decide +kernel
theorem dX11_cellar_42 : decode cX11_cellar 42 = .ok (.bipush 9, 2) := by decide +kernel
theorem dX11_cellar_44 : decode cX11_cellar 44 = .ok (.if_icmp .le 13, 3) := by decide +kernel
theorem dX11_cellar_47 : decode cX11_cellar 47 = .ok (.ldc 223, 2) := by decide +kernel
theorem dX11_cellar_49 : decode cX11_cellar 49 = .ok (.aload_n 0, 1) := by decide +kernel
theorem dX11_cellar_50 : decode cX11_cellar 50 = .ok (.bipush (-6), 2) := by decide +kernel
theorem dX11_cellar_52 : decode cX11_cellar 52 = .ok (.invokevirtual 46, 3) := by decide +kernel
theorem dX11_cellar_55 : decode cX11_cellar 55 = .ok (.isub, 1) := by decide +kernel
theorem dX11_cellar_56 : decode cX11_cellar 56 = .ok (.ireturn, 1) := by decide +kernel
theorem dX11_cellar_57 : decode cX11_cellar 57 = .ok (.aload_n 0, 1) := by decide +kernel
theorem dX11_cellar_58 : decode cX11_cellar 58 = .ok (.getfield 16, 3) := by decide +kernel
theorem dX11_cellar_61 : decode cX11_cellar 61 = .ok (.aload_n 0, 1) := by decide +kernel
theorem dX11_cellar_62 : decode cX11_cellar 62 = .ok (.getfield 10, 3) := by decide +kernel
theorem dX11_cellar_65 : decode cX11_cellar 65 = .ok (.invokevirtual 62, 3) := by decide +kernel
theorem dX11_cellar_68 : decode cX11_cellar 68 = .ok (.aload_n 0, 1) := by decide +kernel
theorem dX11_cellar_69 : decode cX11_cellar 69 = .ok (.getfield 16, 3) := by decide +kernel
theorem dX11_cellar_72 : decode cX11_cellar 72 = .ok (.getfield 74, 3) := by decide +kernel
theorem dX11_cellar_75 : decode cX11_cellar 75 = .ok (.iload_n 1, 1) := by decide +kernel
theorem dX11_cellar_76 : decode cX11_cellar 76 = .ok (.aload_n 0, 1) := by decide +kernel
theorem dX11_cellar_77 : decode cX11_cellar 77 = .ok (.getfield 10, 3) := by decide +kernel
theorem dX11_cellar_80 : decode cX11_cellar 80 = .ok (.getfield 74, 3) := by decide +kernel
theorem dX11_cellar_83 : decode cX11_cellar 83 = .ok (.iload_n 1, 1) := by decide +kernel
theorem dX11_cellar_84 : decode cX11_cellar 84 = .ok (.aaload, 1) := by decide +kernel
theorem dX11_cellar_85 : decode cX11_cellar 85 = .ok (.iload_n 3, 1) := by decide +kernel
theorem dX11_cellar_86 : decode cX11_cellar 86 = .ok (.invokestatic 224, 3) := by decide +kernel
theorem dX11_cellar_89 : decode cX11_cellar 89 = .ok (.aastore, 1) := by decide +kernel
theorem dX11_cellar_90 : decode cX11_cellar 90 = .ok (.aload_n 0, 1) := by decide +kernel
theorem dX11_cellar_91 : decode cX11_cellar 91 = .ok (.getfield 16, 3) := by decide +kernel
theorem dX11_cellar_94 : decode cX11_cellar 94 = .ok (.iload_n 2, 1) := by decide +kernel
theorem dX11_cellar_95 : decode cX11_cellar 95 = .ok (.invokestatic 220, 3) := by decide +kernel
theorem dX11_cellar_98 : decode cX11_cellar 98 = .ok (.aload_n 0, 1) := by decide +kernel
theorem dX11_cellar_99 : decode cX11_cellar 99 = .ok (.getfield 10, 3) := by decide +kernel
theorem dX11_cellar_102 : decode cX11_cellar 102 = .ok (.iload_n 2, 1) := by decide +kernel
theorem dX11_cellar_103 : decode cX11_cellar 103 = .ok (.invokestatic 220, 3) := by decide +kernel
theorem dX11_cellar_106 : decode cX11_cellar 106 = .ok (.isub, 1) := by decide +kernel
theorem dX11_cellar_107 : decode cX11_cellar 107 = .ok (.ireturn, 1) := by decide +kernel
theorem dX11_paths_0 : decode cX11_paths 0 = .ok (.aload_n 0, 1) := by decide +kernel
theorem dX11_paths_1 : decode cX11_paths 1 = .ok (.getfield 10, 3) := by decide +kernel
theorem dX11_paths_4 : decode cX11_paths 4 = .ok (.iload_n 1, 1) := by decide +kernel
theorem dX11_paths_5 : decode cX11_paths 5 = .ok (.iload_n 2, 1) := by decide +kernel
theorem dX11_paths_6 : decode cX11_paths 6 = .ok (.invokevirtual 127, 3) := by decide +kernel
theorem dX11_paths_9 : decode cX11_paths 9 = .ok (.ifCond .ne 9, 3) := by decide +kernel
theorem dX11_paths_12 : decode cX11_paths 12 = .ok (.aload_n 0, 1) := by decide +kernel
theorem dX11_paths_13 : decode cX11_paths 13 = .ok (.iconst (-1), 1) := by decide +kernel
theorem dX11_paths_14 : decode cX11_paths 14 = .ok (.invokevirtual 46, 3) := by decide +kernel
theorem dX11_paths_17 : decode cX11_paths 17 = .ok (.ireturn, 1) := by decide +kernel
theorem dX11_paths_18 : decode cX11_paths 18 = .ok (.iload_n 3, 1) := by decide +kernel
theorem dX11_paths_19 : decode cX11_paths 19 = .ok (.ifCond .lt 8, 3) := by decide +kernel
theorem dX11_paths_22 : decode cX11_paths 22 = .ok (.iload_n 3, 1) := by decide +kernel
theorem dX11_paths_23 : decode cX11_paths 23 = .ok (.iconst 1, 1) := by decide +kernel
theorem dX11_paths_24 : decode cX11_paths 24 = .ok (.if_icmp .le 10, 3) := by decide +kernel
theorem dX11_paths_27 : decode cX11_paths 27 = .ok (.aload_n 0, 1) := by decide +kernel
theorem dX11_paths_28 : decode cX11_paths 28 = .ok (.bipush (-2), 2) := by decide +kernel
theorem dX11_paths_30 : decode cX11_paths 30 = .ok (.invokevirtual 46, 3) := by decide +kernel
theorem dX11_paths_33 : decode cX11_paths 33 = .ok (.ireturn, 1) := by decide +kernel
theorem dX11_paths_34 : decode cX11_paths 34 = .ok (.iload_n 3, 1) := by decide +kernel
theorem dX11_paths_35 : decode cX11_paths 35 = .ok (.ifCond .ne 15, 3) := by decide +kernel
theorem dX11_paths_38 : decode cX11_paths 38 = .ok (.aload_n 0, 1) := by decide +kernel
theorem dX11_paths_39 : decode cX11_paths 39 = .ok (.getfield 10, 3) := by decide +kernel
theorem dX11_paths_42 : decode cX11_paths 42 = .ok (.iload_n 1, 1) := by decide +kernel
theorem dX11_paths_43 : decode cX11_paths 43 = .ok (.iload_n 2, 1) := by decide +kernel
theorem dX11_paths_44 : decode cX11_paths 44 = .ok (.invokestatic 230, 3) := by decide +kernel
theorem dX11_paths_47 : decode cX11_paths 47 = .ok (.goto 12, 3) := by decide +kernel
theorem dX11_paths_50 : decode cX11_paths 50 = .ok (.aload_n 0, 1) := by decide +kernel
theorem dX11_paths_51 : decode cX11_paths 51 = .ok (.getfield 10, 3) := by decide +kernel
theorem dX11_paths_54 : decode cX11_paths 54 = .ok (.iload_n 1, 1) := by decide +kernel
theorem dX11_paths_55 : decode cX11_paths 55 = .ok (.iload_n 2, 1) := by decide +kernel
theorem dX11_paths_56 : decode cX11_paths 56 = .ok (.invokestatic 234, 3) := by decide +kernel
theorem dX11_paths_59 : decode cX11_paths 59 = .ok (.ireturn, 1) := by decide +kernel
theorem dX11_owed_0 : decode cX11_owed 0 = .ok (.aload_n 0, 1) := by decide +kernel
theorem dX11_owed_1 : decode cX11_owed 1 = .ok (.getfield 10, 3) := by decide +kernel
theorem dX11_owed_4 : decode cX11_owed 4 = .ok (.iload_n 1, 1) := by decide +kernel
theorem dX11_owed_5 : decode cX11_owed 5 = .ok (.invokevirtual 70, 3) := by decide +kernel
theorem dX11_owed_8 : decode cX11_owed 8 = .ok (.ifCond .ne 12, 3) := by decide +kernel
theorem dX11_owed_11 : decode cX11_owed 11 = .ok (.ldc 223, 2) := by decide +kernel
theorem dX11_owed_13 : decode cX11_owed 13 = .ok (.aload_n 0, 1) := by decide +kernel
theorem dX11_owed_14 : decode cX11_owed 14 = .ok (.iconst (-1), 1) := by decide +kernel
theorem dX11_owed_15 : decode cX11_owed 15 = .ok (.invokevirtual 46, 3) := by decide +kernel
theorem dX11_owed_18 : decode cX11_owed 18 = .ok (.isub, 1) := by decide +kernel
theorem dX11_owed_19 : decode cX11_owed 19 = .ok (.ireturn, 1) := by decide +kernel
theorem dX11_owed_20 : decode cX11_owed 20 = .ok (.aload_n 0, 1) := by decide +kernel
theorem dX11_owed_21 : decode cX11_owed 21 = .ok (.getfield 10, 3) := by decide +kernel
theorem dX11_owed_24 : decode cX11_owed 24 = .ok (.getfield 145, 3) := by decide +kernel
theorem dX11_owed_27 : decode cX11_owed 27 = .ok (.iload_n 1, 1) := by decide +kernel
theorem dX11_owed_28 : decode cX11_owed 28 = .ok (.invokevirtual 237, 3) := by decide +kernel
theorem dX11_owed_31 : decode cX11_owed 31 = .ok (.ireturn, 1) := by decide +kernel
theorem dX11_row_0 : decode cX11_row 0 = .ok (.iload_n 1, 1) := by decide +kernel
theorem dX11_row_1 : decode cX11_row 1 = .ok (.ifCond .ge 10, 3) := by decide +kernel
theorem dX11_row_4 : decode cX11_row 4 = .ok (.aload_n 0, 1) := by decide +kernel
theorem dX11_row_5 : decode cX11_row 5 = .ok (.bipush (-4), 2) := by decide +kernel
theorem dX11_row_7 : decode cX11_row 7 = .ok (.invokevirtual 46, 3) := by decide +kernel
theorem dX11_row_10 : decode cX11_row 10 = .ok (.ireturn, 1) := by decide +kernel
theorem dX11_row_11 : decode cX11_row 11 = .ok (.iload_n 1, 1) := by decide +kernel
theorem dX11_row_12 : decode cX11_row 12 = .ok (.sipush 999, 3) := by decide +kernel
theorem dX11_row_15 : decode cX11_row 15 = .ok (.if_icmp .gt 12, 3) := by decide +kernel
theorem dX11_row_18 : decode cX11_row 18 = .ok (.aload_n 0, 1) := by decide +kernel
theorem dX11_row_19 : decode cX11_row 19 = .ok (.getfield 154, 3) := by decide +kernel
theorem dX11_row_22 : decode cX11_row 22 = .ok (.bipush 8, 2) := by decide +kernel
theorem dX11_row_24 : decode cX11_row 24 = .ok (.if_icmp .lt 10, 3) := by decide +kernel
theorem dX11_row_27 : decode cX11_row 27 = .ok (.aload_n 0, 1) := by decide +kernel
theorem dX11_row_28 : decode cX11_row 28 = .ok (.bipush (-6), 2) := by decide +kernel
theorem dX11_row_30 : decode cX11_row 30 = .ok (.invokevirtual 46, 3) := by decide +kernel
theorem dX11_row_33 : decode cX11_row 33 = .ok (.ireturn, 1) := by decide +kernel
theorem dX11_row_34 : decode cX11_row 34 = .ok (.aload_n 0, 1) := by decide +kernel
theorem dX11_row_35 : decode cX11_row 35 = .ok (.getfield 39, 3) := by decide +kernel
theorem dX11_row_38 : decode cX11_row 38 = .ok (.aload_n 0, 1) := by decide +kernel
theorem dX11_row_39 : decode cX11_row 39 = .ok (.getfield 154, 3) := by decide +kernel
theorem dX11_row_42 : decode cX11_row 42 = .ok (.iload_n 1, 1) := by decide +kernel
theorem dX11_row_43 : decode cX11_row 43 = .ok (.iastore, 1) := by decide +kernel
theorem dX11_row_44 : decode cX11_row 44 = .ok (.aload_n 0, 1) := by decide +kernel
theorem dX11_row_45 : decode cX11_row 45 = .ok (.dup, 1) := by decide +kernel
theorem dX11_row_46 : decode cX11_row 46 = .ok (.getfield 154, 3) := by decide +kernel
theorem dX11_row_49 : decode cX11_row 49 = .ok (.iconst 1, 1) := by decide +kernel
theorem dX11_row_50 : decode cX11_row 50 = .ok (.iadd, 1) := by decide +kernel
theorem dX11_row_51 : decode cX11_row 51 = .ok (.putfield 154, 3) := by decide +kernel
theorem dX11_row_54 : decode cX11_row 54 = .ok (.aload_n 0, 1) := by decide +kernel
theorem dX11_row_55 : decode cX11_row 55 = .ok (.getfield 154, 3) := by decide +kernel
theorem dX11_row_58 : decode cX11_row 58 = .ok (.ireturn, 1) := by decide +kernel
theorem dX11_judge_0 : decode cX11_judge 0 = .ok (.aload_n 0, 1) := by decide +kernel
theorem dX11_judge_1 : decode cX11_judge 1 = .ok (.getfield 16, 3) := by decide +kernel
theorem dX11_judge_4 : decode cX11_judge 4 = .ok (.aload_n 0, 1) := by decide +kernel
theorem dX11_judge_5 : decode cX11_judge 5 = .ok (.getfield 10, 3) := by decide +kernel
theorem dX11_judge_8 : decode cX11_judge 8 = .ok (.invokevirtual 62, 3) := by decide +kernel
theorem dX11_judge_11 : decode cX11_judge 11 = .ok (.bipush (-9), 2) := by decide +kernel
theorem dX11_judge_13 : decode cX11_judge 13 = .ok (.istore_n 1, 1) := by decide +kernel
theorem dX11_judge_14 : decode cX11_judge 14 = .ok (.iconst 0, 1) := by decide +kernel
theorem dX11_judge_15 : decode cX11_judge 15 = .ok (.istore_n 2, 1) := by decide +kernel
theorem dX11_judge_16 : decode cX11_judge 16 = .ok (.iload_n 2, 1) := by decide +kernel
theorem dX11_judge_17 : decode cX11_judge 17 = .ok (.aload_n 0, 1) := by decide +kernel
theorem dX11_judge_18 : decode cX11_judge 18 = .ok (.getfield 154, 3) := by decide +kernel
theorem dX11_judge_21 : decode cX11_judge 21 = .ok (.if_icmp .ge 49, 3) := by decide +kernel
theorem dX11_judge_24 : decode cX11_judge 24 = .ok (.iload_n 1, 1) := by decide +kernel
theorem dX11_judge_25 : decode cX11_judge 25 = .ok (.bipush (-9), 2) := by decide +kernel
theorem dX11_judge_27 : decode cX11_judge 27 = .ok (.if_icmp .ne 43, 3) := by decide +kernel
theorem dX11_judge_30 : decode cX11_judge 30 = .ok (.aload_n 0, 1) := by decide +kernel
theorem dX11_judge_31 : decode cX11_judge 31 = .ok (.getfield 39, 3) := by decide +kernel
theorem dX11_judge_34 : decode cX11_judge 34 = .ok (.iload_n 2, 1) := by decide +kernel
theorem dX11_judge_35 : decode cX11_judge 35 = .ok (.iaload, 1) := by decide +kernel
theorem dX11_judge_36 : decode cX11_judge 36 = .ok (.istore_n 3, 1) := by decide +kernel
theorem dX11_judge_37 : decode cX11_judge 37 = .ok (.aload_n 0, 1) := by decide +kernel
theorem dX11_judge_38 : decode cX11_judge 38 = .ok (.getfield 16, 3) := by decide +kernel
theorem dX11_judge_41 : decode cX11_judge 41 = .ok (.iload_n 3, 1) := by decide +kernel
theorem dX11_judge_42 : decode cX11_judge 42 = .ok (.bipush 100, 2) := by decide +kernel
theorem dX11_judge_44 : decode cX11_judge 44 = .ok (.idiv, 1) := by decide +kernel
theorem dX11_judge_45 : decode cX11_judge 45 = .ok (.iload_n 3, 1) := by decide +kernel
theorem dX11_judge_46 : decode cX11_judge 46 = .ok (.bipush 10, 2) := by decide +kernel
theorem dX11_judge_48 : decode cX11_judge 48 = .ok (.idiv, 1) := by decide +kernel
theorem dX11_judge_49 : decode cX11_judge 49 = .ok (.bipush 10, 2) := by decide +kernel
theorem dX11_judge_51 : decode cX11_judge 51 = .ok (.irem, 1) := by decide +kernel
theorem dX11_judge_52 : decode cX11_judge 52 = .ok (.iload_n 3, 1) := by decide +kernel
theorem dX11_judge_53 : decode cX11_judge 53 = .ok (.bipush 10, 2) := by decide +kernel
theorem dX11_judge_55 : decode cX11_judge 55 = .ok (.irem, 1) := by decide +kernel
theorem dX11_judge_56 : decode cX11_judge 56 = .ok (.invokevirtual 165, 3) := by decide +kernel
theorem dX11_judge_59 : decode cX11_judge 59 = .ok (.ifCond .ne 5, 3) := by decide +kernel
theorem dX11_judge_62 : decode cX11_judge 62 = .ok (.iload_n 2, 1) := by decide +kernel
theorem dX11_judge_63 : decode cX11_judge 63 = .ok (.istore_n 1, 1) := by decide +kernel
theorem dX11_judge_64 : decode cX11_judge 64 = .ok (.iinc 2 1, 3) := by decide +kernel
theorem dX11_judge_67 : decode cX11_judge 67 = .ok (.goto (-51), 3) := by decide +kernel
theorem dX11_judge_70 : decode cX11_judge 70 = .ok (.aload_n 0, 1) := by decide +kernel
theorem dX11_judge_71 : decode cX11_judge 71 = .ok (.iconst 0, 1) := by decide +kernel
theorem dX11_judge_72 : decode cX11_judge 72 = .ok (.putfield 154, 3) := by decide +kernel
theorem dX11_judge_75 : decode cX11_judge 75 = .ok (.iload_n 1, 1) := by decide +kernel
theorem dX11_judge_76 : decode cX11_judge 76 = .ok (.ireturn, 1) := by decide +kernel
theorem dX11_image_0 : decode cX11_image 0 = .ok (.aload_n 0, 1) := by decide +kernel
theorem dX11_image_1 : decode cX11_image 1 = .ok (.getfield 19, 3) := by decide +kernel
theorem dX11_image_4 : decode cX11_image 4 = .ok (.aload_n 0, 1) := by decide +kernel
theorem dX11_image_5 : decode cX11_image 5 = .ok (.getfield 10, 3) := by decide +kernel
theorem dX11_image_8 : decode cX11_image 8 = .ok (.invokevirtual 62, 3) := by decide +kernel
theorem dX11_image_11 : decode cX11_image 11 = .ok (.aload_n 0, 1) := by decide +kernel
theorem dX11_image_12 : decode cX11_image 12 = .ok (.iconst 1, 1) := by decide +kernel
theorem dX11_image_13 : decode cX11_image 13 = .ok (.putfield 240, 3) := by decide +kernel
theorem dX11_image_16 : decode cX11_image 16 = .ok (.aload_n 0, 1) := by decide +kernel
theorem dX11_image_17 : decode cX11_image 17 = .ok (.getfield 10, 3) := by decide +kernel
theorem dX11_image_20 : decode cX11_image 20 = .ok (.getfield 135, 3) := by decide +kernel
theorem dX11_image_23 : decode cX11_image 23 = .ok (.ireturn, 1) := by decide +kernel
theorem dX11_restore_0 : decode cX11_restore 0 = .ok (.aload_n 0, 1) := by decide +kernel
theorem dX11_restore_1 : decode cX11_restore 1 = .ok (.getfield 240, 3) := by decide +kernel
theorem dX11_restore_4 : decode cX11_restore 4 = .ok (.ifCond .ne 10, 3) := by decide +kernel
theorem dX11_restore_7 : decode cX11_restore 7 = .ok (.aload_n 0, 1) := by decide +kernel
theorem dX11_restore_8 : decode cX11_restore 8 = .ok (.bipush (-3), 2) := by decide +kernel
theorem dX11_restore_10 : decode cX11_restore 10 = .ok (.invokevirtual 46, 3) := by decide +kernel
theorem dX11_restore_13 : decode cX11_restore 13 = .ok (.ireturn, 1) := by decide +kernel
theorem dX11_restore_14 : decode cX11_restore 14 = .ok (.aload_n 0, 1) := by decide +kernel
theorem dX11_restore_15 : decode cX11_restore 15 = .ok (.getfield 10, 3) := by decide +kernel
theorem dX11_restore_18 : decode cX11_restore 18 = .ok (.aload_n 0, 1) := by decide +kernel
theorem dX11_restore_19 : decode cX11_restore 19 = .ok (.getfield 19, 3) := by decide +kernel
theorem dX11_restore_22 : decode cX11_restore 22 = .ok (.invokevirtual 62, 3) := by decide +kernel
theorem dX11_restore_25 : decode cX11_restore 25 = .ok (.aload_n 0, 1) := by decide +kernel
theorem dX11_restore_26 : decode cX11_restore 26 = .ok (.getfield 10, 3) := by decide +kernel
theorem dX11_restore_29 : decode cX11_restore 29 = .ok (.getfield 135, 3) := by decide +kernel
theorem dX11_restore_32 : decode cX11_restore 32 = .ok (.ireturn, 1) := by decide +kernel
theorem dX11_refuse_0 : decode cX11_refuse 0 = .ok (.iload_n 1, 1) := by decide +kernel
theorem dX11_refuse_1 : decode cX11_refuse 1 = .ok (.ineg, 1) := by decide +kernel
theorem dX11_refuse_2 : decode cX11_refuse 2 = .ok (.istore_n 2, 1) := by decide +kernel
theorem dX11_refuse_3 : decode cX11_refuse 3 = .ok (.iload_n 2, 1) := by decide +kernel
theorem dX11_refuse_4 : decode cX11_refuse 4 = .ok (.ifCond .lt 22, 3) := by decide +kernel
theorem dX11_refuse_7 : decode cX11_refuse 7 = .ok (.iload_n 2, 1) := by decide +kernel
theorem dX11_refuse_8 : decode cX11_refuse 8 = .ok (.aload_n 0, 1) := by decide +kernel
theorem dX11_refuse_9 : decode cX11_refuse 9 = .ok (.getfield 43, 3) := by decide +kernel
theorem dX11_refuse_12 : decode cX11_refuse 12 = .ok (.arraylength, 1) := by decide +kernel
theorem dX11_refuse_13 : decode cX11_refuse 13 = .ok (.if_icmp .ge 13, 3) := by decide +kernel
theorem dX11_refuse_16 : decode cX11_refuse 16 = .ok (.aload_n 0, 1) := by decide +kernel
theorem dX11_refuse_17 : decode cX11_refuse 17 = .ok (.getfield 43, 3) := by decide +kernel
theorem dX11_refuse_20 : decode cX11_refuse 20 = .ok (.iload_n 2, 1) := by decide +kernel
theorem dX11_refuse_21 : decode cX11_refuse 21 = .ok (.dup2, 1) := by decide +kernel
theorem dX11_refuse_22 : decode cX11_refuse 22 = .ok (.iaload, 1) := by decide +kernel
theorem dX11_refuse_23 : decode cX11_refuse 23 = .ok (.iconst 1, 1) := by decide +kernel
theorem dX11_refuse_24 : decode cX11_refuse 24 = .ok (.iadd, 1) := by decide +kernel
theorem dX11_refuse_25 : decode cX11_refuse 25 = .ok (.iastore, 1) := by decide +kernel
theorem dX11_refuse_26 : decode cX11_refuse 26 = .ok (.iload_n 1, 1) := by decide +kernel
theorem dX11_refuse_27 : decode cX11_refuse 27 = .ok (.ireturn, 1) := by decide +kernel
theorem dX11_isGood_0 : decode cX11_isGood 0 = .ok (.iload_n 0, 1) := by decide +kernel
theorem dX11_isGood_1 : decode cX11_isGood 1 = .ok (.ifCond .lt 12, 3) := by decide +kernel
theorem dX11_isGood_4 : decode cX11_isGood 4 = .ok (.iload_n 0, 1) := by decide +kernel
theorem dX11_isGood_5 : decode cX11_isGood 5 = .ok (.iconst 3, 1) := by decide +kernel
theorem dX11_isGood_6 : decode cX11_isGood 6 = .ok (.if_icmp .ge 7, 3) := by decide +kernel
theorem dX11_isGood_9 : decode cX11_isGood 9 = .ok (.iconst 1, 1) := by decide +kernel
theorem dX11_isGood_10 : decode cX11_isGood 10 = .ok (.goto 4, 3) := by decide +kernel
theorem dX11_isGood_13 : decode cX11_isGood 13 = .ok (.iconst 0, 1) := by decide +kernel
theorem dX11_isGood_14 : decode cX11_isGood 14 = .ok (.ireturn, 1) := by decide +kernel
theorem dX11_isLaw_0 : decode cX11_isLaw 0 = .ok (.iload_n 0, 1) := by decide +kernel
theorem dX11_isLaw_1 : decode cX11_isLaw 1 = .ok (.ifCond .eq 13, 3) := by decide +kernel
theorem dX11_isLaw_4 : decode cX11_isLaw 4 = .ok (.iload_n 0, 1) := by decide +kernel
theorem dX11_isLaw_5 : decode cX11_isLaw 5 = .ok (.iconst 1, 1) := by decide +kernel
theorem dX11_isLaw_6 : decode cX11_isLaw 6 = .ok (.if_icmp .eq 8, 3) := by decide +kernel
theorem dX11_isLaw_9 : decode cX11_isLaw 9 = .ok (.iload_n 0, 1) := by decide +kernel
theorem dX11_isLaw_10 : decode cX11_isLaw 10 = .ok (.iconst 2, 1) := by decide +kernel
theorem dX11_isLaw_11 : decode cX11_isLaw 11 = .ok (.if_icmp .ne 7, 3) := by decide +kernel
theorem dX11_isLaw_14 : decode cX11_isLaw 14 = .ok (.iconst 1, 1) := by decide +kernel
theorem dX11_isLaw_15 : decode cX11_isLaw 15 = .ok (.goto 4, 3) := by decide +kernel
theorem dX11_isLaw_18 : decode cX11_isLaw 18 = .ok (.iconst 0, 1) := by decide +kernel
theorem dX11_isLaw_19 : decode cX11_isLaw 19 = .ok (.ireturn, 1) := by decide +kernel
theorem dX11_sumOf_0 : decode cX11_sumOf 0 = .ok (.iconst 0, 1) := by decide +kernel
theorem dX11_sumOf_1 : decode cX11_sumOf 1 = .ok (.istore_n 1, 1) := by decide +kernel
theorem dX11_sumOf_2 : decode cX11_sumOf 2 = .ok (.aload_n 0, 1) := by decide +kernel
theorem dX11_sumOf_3 : decode cX11_sumOf 3 = .ok (.astore_n 2, 1) := by decide +kernel
theorem dX11_sumOf_4 : decode cX11_sumOf 4 = .ok (.aload_n 2, 1) := by decide +kernel
theorem dX11_sumOf_5 : decode cX11_sumOf 5 = .ok (.arraylength, 1) := by decide +kernel
theorem dX11_sumOf_6 : decode cX11_sumOf 6 = .ok (.istore_n 3, 1) := by decide +kernel
theorem dX11_sumOf_7 : decode cX11_sumOf 7 = .ok (.iconst 0, 1) := by decide +kernel
theorem dX11_sumOf_8 : decode cX11_sumOf 8 = .ok (.istore 4, 2) := by decide +kernel
theorem dX11_sumOf_10 : decode cX11_sumOf 10 = .ok (.iload 4, 2) := by decide +kernel
theorem dX11_sumOf_12 : decode cX11_sumOf 12 = .ok (.iload_n 3, 1) := by decide +kernel
theorem dX11_sumOf_13 : decode cX11_sumOf 13 = .ok (.if_icmp .ge 20, 3) := by decide +kernel
theorem dX11_sumOf_16 : decode cX11_sumOf 16 = .ok (.aload_n 2, 1) := by decide +kernel
theorem dX11_sumOf_17 : decode cX11_sumOf 17 = .ok (.iload 4, 2) := by decide +kernel
theorem dX11_sumOf_19 : decode cX11_sumOf 19 = .ok (.iaload, 1) := by decide +kernel
theorem dX11_sumOf_20 : decode cX11_sumOf 20 = .ok (.istore 5, 2) := by decide +kernel
theorem dX11_sumOf_22 : decode cX11_sumOf 22 = .ok (.iload_n 1, 1) := by decide +kernel
theorem dX11_sumOf_23 : decode cX11_sumOf 23 = .ok (.iload 5, 2) := by decide +kernel
theorem dX11_sumOf_25 : decode cX11_sumOf 25 = .ok (.iadd, 1) := by decide +kernel
theorem dX11_sumOf_26 : decode cX11_sumOf 26 = .ok (.istore_n 1, 1) := by decide +kernel
theorem dX11_sumOf_27 : decode cX11_sumOf 27 = .ok (.iinc 4 1, 3) := by decide +kernel
theorem dX11_sumOf_30 : decode cX11_sumOf 30 = .ok (.goto (-20), 3) := by decide +kernel
theorem dX11_sumOf_33 : decode cX11_sumOf 33 = .ok (.iload_n 1, 1) := by decide +kernel
theorem dX11_sumOf_34 : decode cX11_sumOf 34 = .ok (.ireturn, 1) := by decide +kernel
theorem dJ9_max_7cf53_0 : decode cJ9_max_7cf53 0 = .ok (.iload_n 0, 1) := by decide +kernel
theorem dJ9_max_7cf53_1 : decode cJ9_max_7cf53 1 = .ok (.iload_n 1, 1) := by decide +kernel
theorem dJ9_max_7cf53_2 : decode cJ9_max_7cf53 2 = .ok (.if_icmp .lt 7, 3) := by decide +kernel
theorem dJ9_max_7cf53_5 : decode cJ9_max_7cf53 5 = .ok (.iload_n 0, 1) := by decide +kernel
theorem dJ9_max_7cf53_6 : decode cJ9_max_7cf53 6 = .ok (.goto 4, 3) := by decide +kernel
theorem dJ9_max_7cf53_9 : decode cJ9_max_7cf53 9 = .ok (.iload_n 1, 1) := by decide +kernel
theorem dJ9_max_7cf53_10 : decode cJ9_max_7cf53 10 = .ok (.ireturn, 1) := by decide +kernel
theorem dJ9_min_7cf53_0 : decode cJ9_min_7cf53 0 = .ok (.iload_n 0, 1) := by decide +kernel
theorem dJ9_min_7cf53_1 : decode cJ9_min_7cf53 1 = .ok (.iload_n 1, 1) := by decide +kernel
theorem dJ9_min_7cf53_2 : decode cJ9_min_7cf53 2 = .ok (.if_icmp .gt 7, 3) := by decide +kernel
theorem dJ9_min_7cf53_5 : decode cJ9_min_7cf53 5 = .ok (.iload_n 0, 1) := by decide +kernel
theorem dJ9_min_7cf53_6 : decode cJ9_min_7cf53 6 = .ok (.goto 4, 3) := by decide +kernel
theorem dJ9_min_7cf53_9 : decode cJ9_min_7cf53 9 = .ok (.iload_n 1, 1) := by decide +kernel
theorem dJ9_min_7cf53_10 : decode cJ9_min_7cf53 10 = .ok (.ireturn, 1) := by decide +kernel
end
section
theorem dX12_init_0 : decode cX12_init 0 = .ok (.aload_n 0, 1) := by decide +kernel
theorem dX12_init_1 : decode cX12_init 1 = .ok (.invokespecial 1, 3) := by decide +kernel
theorem dX12_init_4 : decode cX12_init 4 = .ok (.aload_n 0, 1) := by decide +kernel
theorem dX12_init_5 : decode cX12_init 5 = .ok (.bipush 6, 2) := by decide +kernel
theorem dX12_init_7 : decode cX12_init 7 = .ok (.newarray .int, 2) := by decide +kernel
theorem dX12_init_9 : decode cX12_init 9 = .ok (.putfield 7, 3) := by decide +kernel
theorem dX12_init_12 : decode cX12_init 12 = .ok (.aload_n 0, 1) := by decide +kernel
theorem dX12_init_13 : decode cX12_init 13 = .ok (.bipush 6, 2) := by decide +kernel
theorem dX12_init_15 : decode cX12_init 15 = .ok (.newarray .int, 2) := by decide +kernel
theorem dX12_init_17 : decode cX12_init 17 = .ok (.putfield 13, 3) := by decide +kernel
theorem dX12_init_20 : decode cX12_init 20 = .ok (.aload_n 0, 1) := by decide +kernel
theorem dX12_init_21 : decode cX12_init 21 = .ok (.bipush 6, 2) := by decide +kernel
theorem dX12_init_23 : decode cX12_init 23 = .ok (.newarray .int, 2) := by decide +kernel
theorem dX12_init_25 : decode cX12_init 25 = .ok (.putfield 16, 3) := by decide +kernel
theorem dX12_init_28 : decode cX12_init 28 = .ok (.aload_n 0, 1) := by decide +kernel
theorem dX12_init_29 : decode cX12_init 29 = .ok (.bipush 6, 2) := by decide +kernel
theorem dX12_init_31 : decode cX12_init 31 = .ok (.newarray .int, 2) := by decide +kernel
theorem dX12_init_33 : decode cX12_init 33 = .ok (.putfield 19, 3) := by decide +kernel
theorem dX12_init_36 : decode cX12_init 36 = .ok (.aload_n 0, 1) := by decide +kernel
theorem dX12_init_37 : decode cX12_init 37 = .ok (.bipush 6, 2) := by decide +kernel
theorem dX12_init_39 : decode cX12_init 39 = .ok (.newarray .int, 2) := by decide +kernel
theorem dX12_init_41 : decode cX12_init 41 = .ok (.putfield 22, 3) := by decide +kernel
theorem dX12_init_44 : decode cX12_init 44 = .ok (.aload_n 0, 1) := by decide +kernel
theorem dX12_init_45 : decode cX12_init 45 = .ok (.bipush 6, 2) := by decide +kernel
theorem dX12_init_47 : decode cX12_init 47 = .ok (.newarray .int, 2) := by decide +kernel
theorem dX12_init_49 : decode cX12_init 49 = .ok (.putfield 25, 3) := by decide +kernel
theorem dX12_init_52 : decode cX12_init 52 = .ok (.aload_n 0, 1) := by decide +kernel
theorem dX12_init_53 : decode cX12_init 53 = .ok (.bipush 6, 2) := by decide +kernel
theorem dX12_init_55 : decode cX12_init 55 = .ok (.newarray .int, 2) := by decide +kernel
theorem dX12_init_57 : decode cX12_init 57 = .ok (.putfield 28, 3) := by decide +kernel
theorem dX12_init_60 : decode cX12_init 60 = .ok (.aload_n 0, 1) := by decide +kernel
theorem dX12_init_61 : decode cX12_init 61 = .ok (.bipush 6, 2) := by decide +kernel
theorem dX12_init_63 : decode cX12_init 63 = .ok (.newarray .int, 2) := by decide +kernel
theorem dX12_init_65 : decode cX12_init 65 = .ok (.putfield 31, 3) := by decide +kernel
theorem dX12_init_68 : decode cX12_init 68 = .ok (.aload_n 0, 1) := by decide +kernel
theorem dX12_init_69 : decode cX12_init 69 = .ok (.bipush 18, 2) := by decide +kernel
theorem dX12_init_71 : decode cX12_init 71 = .ok (.newarray .int, 2) := by decide +kernel
theorem dX12_init_73 : decode cX12_init 73 = .ok (.putfield 34, 3) := by decide +kernel
theorem dX12_init_76 : decode cX12_init 76 = .ok (.aload_n 0, 1) := by decide +kernel
theorem dX12_init_77 : decode cX12_init 77 = .ok (.bipush 36, 2) := by decide +kernel
theorem dX12_init_79 : decode cX12_init 79 = .ok (.newarray .int, 2) := by decide +kernel
theorem dX12_init_81 : decode cX12_init 81 = .ok (.putfield 37, 3) := by decide +kernel
theorem dX12_init_84 : decode cX12_init 84 = .ok (.aload_n 0, 1) := by decide +kernel
theorem dX12_init_85 : decode cX12_init 85 = .ok (.iconst 3, 1) := by decide +kernel
theorem dX12_init_86 : decode cX12_init 86 = .ok (.newarray .int, 2) := by decide +kernel
theorem dX12_init_88 : decode cX12_init 88 = .ok (.dup, 1) := by decide +kernel
theorem dX12_init_89 : decode cX12_init 89 = .ok (.iconst 0, 1) := by decide +kernel
theorem dX12_init_90 : decode cX12_init 90 = .ok (.iconst 1, 1) := by decide +kernel
theorem dX12_init_91 : decode cX12_init 91 = .ok (.iastore, 1) := by decide +kernel
theorem dX12_init_92 : decode cX12_init 92 = .ok (.dup, 1) := by decide +kernel
theorem dX12_init_93 : decode cX12_init 93 = .ok (.iconst 1, 1) := by decide +kernel
theorem dX12_init_94 : decode cX12_init 94 = .ok (.iconst 1, 1) := by decide +kernel
theorem dX12_init_95 : decode cX12_init 95 = .ok (.iastore, 1) := by decide +kernel
theorem dX12_init_96 : decode cX12_init 96 = .ok (.dup, 1) := by decide +kernel
theorem dX12_init_97 : decode cX12_init 97 = .ok (.iconst 2, 1) := by decide +kernel
theorem dX12_init_98 : decode cX12_init 98 = .ok (.iconst 1, 1) := by decide +kernel
theorem dX12_init_99 : decode cX12_init 99 = .ok (.iastore, 1) := by decide +kernel
theorem dX12_init_100 : decode cX12_init 100 = .ok (.putfield 40, 3) := by decide +kernel
theorem dX12_init_103 : decode cX12_init 103 = .ok (.aload_n 0, 1) := by decide +kernel
theorem dX12_init_104 : decode cX12_init 104 = .ok (.bipush 7, 2) := by decide +kernel
theorem dX12_init_106 : decode cX12_init 106 = .ok (.newarray .int, 2) := by decide +kernel
theorem dX12_init_108 : decode cX12_init 108 = .ok (.putfield 43, 3) := by decide +kernel
theorem dX12_init_111 : decode cX12_init 111 = .ok (.aload_n 0, 1) := by decide +kernel
theorem dX12_init_112 : decode cX12_init 112 = .ok (.bipush 6, 2) := by decide +kernel
theorem dX12_init_114 : decode cX12_init 114 = .ok (.newarray .int, 2) := by decide +kernel
theorem dX12_init_116 : decode cX12_init 116 = .ok (.putfield 46, 3) := by decide +kernel
theorem dX12_init_119 : decode cX12_init 119 = .ok (.aload_n 0, 1) := by decide +kernel
theorem dX12_init_120 : decode cX12_init 120 = .ok (.bipush 109, 2) := by decide +kernel
theorem dX12_init_122 : decode cX12_init 122 = .ok (.newarray .int, 2) := by decide +kernel
theorem dX12_init_124 : decode cX12_init 124 = .ok (.putfield 49, 3) := by decide +kernel
theorem dX12_init_127 : decode cX12_init 127 = .ok (.aload_n 0, 1) := by decide +kernel
theorem dX12_init_128 : decode cX12_init 128 = .ok (.bipush 109, 2) := by decide +kernel
theorem dX12_init_130 : decode cX12_init 130 = .ok (.newarray .int, 2) := by decide +kernel
theorem dX12_init_132 : decode cX12_init 132 = .ok (.putfield 52, 3) := by decide +kernel
theorem dX12_init_135 : decode cX12_init 135 = .ok (.aload_n 0, 1) := by decide +kernel
theorem dX12_init_136 : decode cX12_init 136 = .ok (.bipush 96, 2) := by decide +kernel
theorem dX12_init_138 : decode cX12_init 138 = .ok (.newarray .int, 2) := by decide +kernel
theorem dX12_init_140 : decode cX12_init 140 = .ok (.putfield 55, 3) := by decide +kernel
theorem dX12_init_143 : decode cX12_init 143 = .ok (.aload_n 0, 1) := by decide +kernel
theorem dX12_init_144 : decode cX12_init 144 = .ok (.bipush 49, 2) := by decide +kernel
theorem dX12_init_146 : decode cX12_init 146 = .ok (.newarray .int, 2) := by decide +kernel
theorem dX12_init_148 : decode cX12_init 148 = .ok (.putfield 58, 3) := by decide +kernel
theorem dX12_init_151 : decode cX12_init 151 = .ok (.aload_n 0, 1) := by decide +kernel
theorem dX12_init_152 : decode cX12_init 152 = .ok (.bipush 49, 2) := by decide +kernel
theorem dX12_init_154 : decode cX12_init 154 = .ok (.newarray .int, 2) := by decide +kernel
theorem dX12_init_156 : decode cX12_init 156 = .ok (.putfield 61, 3) := by decide +kernel
theorem dX12_init_159 : decode cX12_init 159 = .ok (.aload_n 0, 1) := by decide +kernel
theorem dX12_init_160 : decode cX12_init 160 = .ok (.sipush 441, 3) := by decide +kernel
theorem dX12_init_163 : decode cX12_init 163 = .ok (.newarray .int, 2) := by decide +kernel
theorem dX12_init_165 : decode cX12_init 165 = .ok (.putfield 64, 3) := by decide +kernel
theorem dX12_init_168 : decode cX12_init 168 = .ok (.aload_n 0, 1) := by decide +kernel
theorem dX12_init_169 : decode cX12_init 169 = .ok (.bipush 6, 2) := by decide +kernel
theorem dX12_init_171 : decode cX12_init 171 = .ok (.newarray .int, 2) := by decide +kernel
theorem dX12_init_173 : decode cX12_init 173 = .ok (.putfield 67, 3) := by decide +kernel
theorem dX12_init_176 : decode cX12_init 176 = .ok (.aload_n 0, 1) := by decide +kernel
theorem dX12_init_177 : decode cX12_init 177 = .ok (.bipush 8, 2) := by decide +kernel
theorem dX12_init_179 : decode cX12_init 179 = .ok (.newarray .int, 2) := by decide +kernel
theorem dX12_init_181 : decode cX12_init 181 = .ok (.putfield 70, 3) := by decide +kernel
theorem dX12_init_184 : decode cX12_init 184 = .ok (.aload_n 0, 1) := by decide +kernel
theorem dX12_init_185 : decode cX12_init 185 = .ok (.iconst 0, 1) := by decide +kernel
theorem dX12_init_186 : decode cX12_init 186 = .ok (.putfield 73, 3) := by decide +kernel
theorem dX12_init_189 : decode cX12_init 189 = .ok (.return_, 1) := by decide +kernel
theorem dX12_in_0 : decode cX12_in 0 = .ok (.lload_n 0, 1) := by decide +kernel
theorem dX12_in_1 : decode cX12_in 1 = .ok (.lload_n 2, 1) := by decide +kernel
theorem dX12_in_2 : decode cX12_in 2 = .ok (.lcmp, 1) := by decide +kernel
theorem dX12_in_3 : decode cX12_in 3 = .ok (.ifCond .lt 14, 3) := by decide +kernel
theorem dX12_in_6 : decode cX12_in 6 = .ok (.lload_n 0, 1) := by decide +kernel
theorem dX12_in_7 : decode cX12_in 7 = .ok (.lload 4, 2) := by decide +kernel
theorem dX12_in_9 : decode cX12_in 9 = .ok (.lcmp, 1) := by decide +kernel
theorem dX12_in_10 : decode cX12_in 10 = .ok (.ifCond .gt 7, 3) := by decide +kernel
theorem dX12_in_13 : decode cX12_in 13 = .ok (.iconst 1, 1) := by decide +kernel
theorem dX12_in_14 : decode cX12_in 14 = .ok (.goto 4, 3) := by decide +kernel
theorem dX12_in_17 : decode cX12_in 17 = .ok (.iconst 0, 1) := by decide +kernel
theorem dX12_in_18 : decode cX12_in 18 = .ok (.ireturn, 1) := by decide +kernel
theorem dX12_refuse_0 : decode cX12_refuse 0 = .ok (.aload_n 0, 1) := by decide +kernel
theorem dX12_refuse_1 : decode cX12_refuse 1 = .ok (.getfield 43, 3) := by decide +kernel
theorem dX12_refuse_4 : decode cX12_refuse 4 = .ok (.iload_n 1, 1) := by decide +kernel
theorem dX12_refuse_5 : decode cX12_refuse 5 = .ok (.ineg, 1) := by decide +kernel
theorem dX12_refuse_6 : decode cX12_refuse 6 = .ok (.dup2, 1) := by decide +kernel
theorem dX12_refuse_7 : decode cX12_refuse 7 = .ok (.iaload, 1) := by decide +kernel
theorem dX12_refuse_8 : decode cX12_refuse 8 = .ok (.iconst 1, 1) := by decide +kernel
theorem dX12_refuse_9 : decode cX12_refuse 9 = .ok (.iadd, 1) := by decide +kernel
theorem dX12_refuse_10 : decode cX12_refuse 10 = .ok (.iastore, 1) := by decide +kernel
theorem dX12_refuse_11 : decode cX12_refuse 11 = .ok (.iload_n 1, 1) := by decide +kernel
theorem dX12_refuse_12 : decode cX12_refuse 12 = .ok (.ireturn, 1) := by decide +kernel
theorem dX12_isHouse_0 : decode cX12_isHouse 0 = .ok (.iload_n 1, 1) := by decide +kernel
theorem dX12_isHouse_1 : decode cX12_isHouse 1 = .ok (.i2l, 1) := by decide +kernel
theorem dX12_isHouse_2 : decode cX12_isHouse 2 = .ok (.lconst 0, 1) := by decide +kernel
theorem dX12_isHouse_3 : decode cX12_isHouse 3 = .ok (.aload_n 0, 1) := by decide +kernel
theorem dX12_isHouse_4 : decode cX12_isHouse 4 = .ok (.getfield 77, 3) := by decide +kernel
theorem dX12_isHouse_7 : decode cX12_isHouse 7 = .ok (.iconst 1, 1) := by decide +kernel
theorem dX12_isHouse_8 : decode cX12_isHouse 8 = .ok (.isub, 1) := by decide +kernel
theorem dX12_isHouse_9 : decode cX12_isHouse 9 = .ok (.i2l, 1) := by decide +kernel
theorem dX12_isHouse_10 : decode cX12_isHouse 10 = .ok (.invokestatic 80, 3) := by decide +kernel
theorem dX12_isHouse_13 : decode cX12_isHouse 13 = .ok (.ireturn, 1) := by decide +kernel
theorem dX12_areTwo_0 : decode cX12_areTwo 0 = .ok (.aload_n 0, 1) := by decide +kernel
theorem dX12_areTwo_1 : decode cX12_areTwo 1 = .ok (.iload_n 1, 1) := by decide +kernel
theorem dX12_areTwo_2 : decode cX12_areTwo 2 = .ok (.invokevirtual 84, 3) := by decide +kernel
theorem dX12_areTwo_5 : decode cX12_areTwo 5 = .ok (.ifCond .eq 20, 3) := by decide +kernel
theorem dX12_areTwo_8 : decode cX12_areTwo 8 = .ok (.aload_n 0, 1) := by decide +kernel
theorem dX12_areTwo_9 : decode cX12_areTwo 9 = .ok (.iload_n 2, 1) := by decide +kernel
theorem dX12_areTwo_10 : decode cX12_areTwo 10 = .ok (.invokevirtual 84, 3) := by decide +kernel
theorem dX12_areTwo_13 : decode cX12_areTwo 13 = .ok (.ifCond .eq 12, 3) := by decide +kernel
theorem dX12_areTwo_16 : decode cX12_areTwo 16 = .ok (.iload_n 1, 1) := by decide +kernel
theorem dX12_areTwo_17 : decode cX12_areTwo 17 = .ok (.iload_n 2, 1) := by decide +kernel
theorem dX12_areTwo_18 : decode cX12_areTwo 18 = .ok (.if_icmp .eq 7, 3) := by decide +kernel
theorem dX12_areTwo_21 : decode cX12_areTwo 21 = .ok (.iconst 1, 1) := by decide +kernel
theorem dX12_areTwo_22 : decode cX12_areTwo 22 = .ok (.goto 4, 3) := by decide +kernel
theorem dX12_areTwo_25 : decode cX12_areTwo 25 = .ok (.iconst 0, 1) := by decide +kernel
theorem dX12_areTwo_26 : decode cX12_areTwo 26 = .ok (.ireturn, 1) := by decide +kernel
theorem dX12_isGood_0 : decode cX12_isGood 0 = .ok (.iload_n 0, 1) := by decide +kernel
theorem dX12_isGood_1 : decode cX12_isGood 1 = .ok (.i2l, 1) := by decide +kernel
theorem dX12_isGood_2 : decode cX12_isGood 2 = .ok (.lconst 0, 1) := by decide +kernel
theorem dX12_isGood_3 : decode cX12_isGood 3 = .ok (.ldc2_w 88, 3) := by decide +kernel
theorem dX12_isGood_6 : decode cX12_isGood 6 = .ok (.invokestatic 80, 3) := by decide +kernel
theorem dX12_isGood_9 : decode cX12_isGood 9 = .ok (.ireturn, 1) := by decide +kernel
theorem dX12_sellsAt_0 : decode cX12_sellsAt 0 = .ok (.aload_n 0, 1) := by decide +kernel
theorem dX12_sellsAt_1 : decode cX12_sellsAt 1 = .ok (.getfield 7, 3) := by decide +kernel
theorem dX12_sellsAt_4 : decode cX12_sellsAt 4 = .ok (.iload_n 1, 1) := by decide +kernel
theorem dX12_sellsAt_5 : decode cX12_sellsAt 5 = .ok (.iaload, 1) := by decide +kernel
theorem dX12_sellsAt_6 : decode cX12_sellsAt 6 = .ok (.iconst 2, 1) := by decide +kernel
theorem dX12_sellsAt_7 : decode cX12_sellsAt 7 = .ok (.if_icmp .eq 13, 3) := by decide +kernel
theorem dX12_sellsAt_10 : decode cX12_sellsAt 10 = .ok (.aload_n 0, 1) := by decide +kernel
theorem dX12_sellsAt_11 : decode cX12_sellsAt 11 = .ok (.getfield 7, 3) := by decide +kernel
theorem dX12_sellsAt_14 : decode cX12_sellsAt 14 = .ok (.iload_n 1, 1) := by decide +kernel
theorem dX12_sellsAt_15 : decode cX12_sellsAt 15 = .ok (.iaload, 1) := by decide +kernel
theorem dX12_sellsAt_16 : decode cX12_sellsAt 16 = .ok (.iconst 3, 1) := by decide +kernel
theorem dX12_sellsAt_17 : decode cX12_sellsAt 17 = .ok (.if_icmp .le 7, 3) := by decide +kernel
theorem dX12_sellsAt_20 : decode cX12_sellsAt 20 = .ok (.iconst 1, 1) := by decide +kernel
theorem dX12_sellsAt_21 : decode cX12_sellsAt 21 = .ok (.goto 4, 3) := by decide +kernel
theorem dX12_sellsAt_24 : decode cX12_sellsAt 24 = .ok (.iconst 0, 1) := by decide +kernel
theorem dX12_sellsAt_25 : decode cX12_sellsAt 25 = .ok (.istore_n 2, 1) := by decide +kernel
theorem dX12_sellsAt_26 : decode cX12_sellsAt 26 = .ok (.iload_n 2, 1) := by decide +kernel
theorem dX12_sellsAt_27 : decode cX12_sellsAt 27 = .ok (.ifCond .eq 19, 3) := by decide +kernel
theorem dX12_sellsAt_30 : decode cX12_sellsAt 30 = .ok (.aload_n 0, 1) := by decide +kernel
theorem dX12_sellsAt_31 : decode cX12_sellsAt 31 = .ok (.getfield 16, 3) := by decide +kernel
theorem dX12_sellsAt_34 : decode cX12_sellsAt 34 = .ok (.iload_n 1, 1) := by decide +kernel
theorem dX12_sellsAt_35 : decode cX12_sellsAt 35 = .ok (.iaload, 1) := by decide +kernel
theorem dX12_sellsAt_36 : decode cX12_sellsAt 36 = .ok (.aload_n 0, 1) := by decide +kernel
theorem dX12_sellsAt_37 : decode cX12_sellsAt 37 = .ok (.getfield 13, 3) := by decide +kernel
theorem dX12_sellsAt_40 : decode cX12_sellsAt 40 = .ok (.iload_n 1, 1) := by decide +kernel
theorem dX12_sellsAt_41 : decode cX12_sellsAt 41 = .ok (.iaload, 1) := by decide +kernel
theorem dX12_sellsAt_42 : decode cX12_sellsAt 42 = .ok (.iadd, 1) := by decide +kernel
theorem dX12_sellsAt_43 : decode cX12_sellsAt 43 = .ok (.goto 9, 3) := by decide +kernel
theorem dX12_sellsAt_46 : decode cX12_sellsAt 46 = .ok (.aload_n 0, 1) := by decide +kernel
theorem dX12_sellsAt_47 : decode cX12_sellsAt 47 = .ok (.getfield 16, 3) := by decide +kernel
theorem dX12_sellsAt_50 : decode cX12_sellsAt 50 = .ok (.iload_n 1, 1) := by decide +kernel
theorem dX12_sellsAt_51 : decode cX12_sellsAt 51 = .ok (.iaload, 1) := by decide +kernel
theorem dX12_sellsAt_52 : decode cX12_sellsAt 52 = .ok (.ireturn, 1) := by decide +kernel
theorem dX12_buysAt_0 : decode cX12_buysAt 0 = .ok (.aload_n 0, 1) := by decide +kernel
theorem dX12_buysAt_1 : decode cX12_buysAt 1 = .ok (.getfield 7, 3) := by decide +kernel
theorem dX12_buysAt_4 : decode cX12_buysAt 4 = .ok (.iload_n 1, 1) := by decide +kernel
theorem dX12_buysAt_5 : decode cX12_buysAt 5 = .ok (.iaload, 1) := by decide +kernel
theorem dX12_buysAt_6 : decode cX12_buysAt 6 = .ok (.istore_n 2, 1) := by decide +kernel
theorem dX12_buysAt_7 : decode cX12_buysAt 7 = .ok (.iload_n 2, 1) := by decide +kernel
theorem dX12_buysAt_8 : decode cX12_buysAt 8 = .ok (.iconst 1, 1) := by decide +kernel
theorem dX12_buysAt_9 : decode cX12_buysAt 9 = .ok (.if_icmp .eq 8, 3) := by decide +kernel
theorem dX12_buysAt_12 : decode cX12_buysAt 12 = .ok (.iload_n 2, 1) := by decide +kernel
theorem dX12_buysAt_13 : decode cX12_buysAt 13 = .ok (.iconst 4, 1) := by decide +kernel
theorem dX12_buysAt_14 : decode cX12_buysAt 14 = .ok (.if_icmp .ne 12, 3) := by decide +kernel
theorem dX12_buysAt_17 : decode cX12_buysAt 17 = .ok (.aload_n 0, 1) := by decide +kernel
theorem dX12_buysAt_18 : decode cX12_buysAt 18 = .ok (.getfield 13, 3) := by decide +kernel
theorem dX12_buysAt_21 : decode cX12_buysAt 21 = .ok (.iload_n 1, 1) := by decide +kernel
theorem dX12_buysAt_22 : decode cX12_buysAt 22 = .ok (.iaload, 1) := by decide +kernel
theorem dX12_buysAt_23 : decode cX12_buysAt 23 = .ok (.goto 20, 3) := by decide +kernel
theorem dX12_buysAt_26 : decode cX12_buysAt 26 = .ok (.iload_n 2, 1) := by decide +kernel
theorem dX12_buysAt_27 : decode cX12_buysAt 27 = .ok (.iconst 5, 1) := by decide +kernel
theorem dX12_buysAt_28 : decode cX12_buysAt 28 = .ok (.if_icmp .ne 14, 3) := by decide +kernel
theorem dX12_buysAt_31 : decode cX12_buysAt 31 = .ok (.iconst 2, 1) := by decide +kernel
theorem dX12_buysAt_32 : decode cX12_buysAt 32 = .ok (.aload_n 0, 1) := by decide +kernel
theorem dX12_buysAt_33 : decode cX12_buysAt 33 = .ok (.getfield 13, 3) := by decide +kernel
theorem dX12_buysAt_36 : decode cX12_buysAt 36 = .ok (.iload_n 1, 1) := by decide +kernel
theorem dX12_buysAt_37 : decode cX12_buysAt 37 = .ok (.iaload, 1) := by decide +kernel
theorem dX12_buysAt_38 : decode cX12_buysAt 38 = .ok (.imul, 1) := by decide +kernel
theorem dX12_buysAt_39 : decode cX12_buysAt 39 = .ok (.goto 4, 3) := by decide +kernel
theorem dX12_buysAt_42 : decode cX12_buysAt 42 = .ok (.iconst 0, 1) := by decide +kernel
theorem dX12_buysAt_43 : decode cX12_buysAt 43 = .ok (.istore_n 3, 1) := by decide +kernel
theorem dX12_buysAt_44 : decode cX12_buysAt 44 = .ok (.iload_n 2, 1) := by decide +kernel
theorem dX12_buysAt_45 : decode cX12_buysAt 45 = .ok (.iconst 3, 1) := by decide +kernel
theorem dX12_buysAt_46 : decode cX12_buysAt 46 = .ok (.if_icmp .ne 9, 3) := by decide +kernel
theorem dX12_buysAt_49 : decode cX12_buysAt 49 = .ok (.sipush 999, 3) := by decide +kernel
theorem dX12_buysAt_52 : decode cX12_buysAt 52 = .ok (.goto 11, 3) := by decide +kernel
theorem dX12_buysAt_55 : decode cX12_buysAt 55 = .ok (.aload_n 0, 1) := by decide +kernel
theorem dX12_buysAt_56 : decode cX12_buysAt 56 = .ok (.getfield 16, 3) := by decide +kernel
theorem dX12_buysAt_59 : decode cX12_buysAt 59 = .ok (.iload_n 1, 1) := by decide +kernel
theorem dX12_buysAt_60 : decode cX12_buysAt 60 = .ok (.iaload, 1) := by decide +kernel
theorem dX12_buysAt_61 : decode cX12_buysAt 61 = .ok (.iload_n 3, 1) := by decide +kernel
theorem dX12_buysAt_62 : decode cX12_buysAt 62 = .ok (.isub, 1) := by decide +kernel
theorem dX12_buysAt_63 : decode cX12_buysAt 63 = .ok (.ireturn, 1) := by decide +kernel
theorem dX12_isLawful_0 : decode cX12_isLawful 0 = .ok (.aload_n 0, 1) := by decide +kernel
theorem dX12_isLawful_1 : decode cX12_isLawful 1 = .ok (.iload_n 1, 1) := by decide +kernel
theorem dX12_isLawful_2 : decode cX12_isLawful 2 = .ok (.invokevirtual 90, 3) := by decide +kernel
theorem dX12_isLawful_5 : decode cX12_isLawful 5 = .ok (.istore_n 3, 1) := by decide +kernel
theorem dX12_isLawful_6 : decode cX12_isLawful 6 = .ok (.aload_n 0, 1) := by decide +kernel
theorem dX12_isLawful_7 : decode cX12_isLawful 7 = .ok (.iload_n 2, 1) := by decide +kernel
theorem dX12_isLawful_8 : decode cX12_isLawful 8 = .ok (.invokevirtual 94, 3) := by decide +kernel
theorem dX12_isLawful_11 : decode cX12_isLawful 11 = .ok (.istore 4, 2) := by decide +kernel
theorem dX12_isLawful_13 : decode cX12_isLawful 13 = .ok (.iload_n 1, 1) := by decide +kernel
theorem dX12_isLawful_14 : decode cX12_isLawful 14 = .ok (.iload_n 2, 1) := by decide +kernel
theorem dX12_isLawful_15 : decode cX12_isLawful 15 = .ok (.if_icmp .eq 37, 3) := by decide +kernel
theorem dX12_isLawful_18 : decode cX12_isLawful 18 = .ok (.aload_n 0, 1) := by decide +kernel
theorem dX12_isLawful_19 : decode cX12_isLawful 19 = .ok (.getfield 97, 3) := by decide +kernel
theorem dX12_isLawful_22 : decode cX12_isLawful 22 = .ok (.ifCond .ne 12, 3) := by decide +kernel
theorem dX12_isLawful_25 : decode cX12_isLawful 25 = .ok (.iload 4, 2) := by decide +kernel
theorem dX12_isLawful_27 : decode cX12_isLawful 27 = .ok (.iload_n 3, 1) := by decide +kernel
theorem dX12_isLawful_28 : decode cX12_isLawful 28 = .ok (.if_icmp .ge 24, 3) := by decide +kernel
theorem dX12_isLawful_31 : decode cX12_isLawful 31 = .ok (.goto 17, 3) := by decide +kernel
theorem dX12_isLawful_34 : decode cX12_isLawful 34 = .ok (.aload_n 0, 1) := by decide +kernel
theorem dX12_isLawful_35 : decode cX12_isLawful 35 = .ok (.getfield 97, 3) := by decide +kernel
theorem dX12_isLawful_38 : decode cX12_isLawful 38 = .ok (.iconst 2, 1) := by decide +kernel
theorem dX12_isLawful_39 : decode cX12_isLawful 39 = .ok (.if_icmp .eq 9, 3) := by decide +kernel
theorem dX12_isLawful_42 : decode cX12_isLawful 42 = .ok (.iload 4, 2) := by decide +kernel
theorem dX12_isLawful_44 : decode cX12_isLawful 44 = .ok (.iload_n 3, 1) := by decide +kernel
theorem dX12_isLawful_45 : decode cX12_isLawful 45 = .ok (.if_icmp .le 7, 3) := by decide +kernel
theorem dX12_isLawful_48 : decode cX12_isLawful 48 = .ok (.iconst 1, 1) := by decide +kernel
theorem dX12_isLawful_49 : decode cX12_isLawful 49 = .ok (.goto 4, 3) := by decide +kernel
theorem dX12_isLawful_52 : decode cX12_isLawful 52 = .ok (.iconst 0, 1) := by decide +kernel
theorem dX12_isLawful_53 : decode cX12_isLawful 53 = .ok (.ireturn, 1) := by decide +kernel
theorem dX12_canSell_0 : decode cX12_canSell 0 = .ok (.aload_n 0, 1) := by decide +kernel
theorem dX12_canSell_1 : decode cX12_canSell 1 = .ok (.iload_n 1, 1) := by decide +kernel
theorem dX12_canSell_2 : decode cX12_canSell 2 = .ok (.iload_n 2, 1) := by decide +kernel
theorem dX12_canSell_3 : decode cX12_canSell 3 = .ok (.invokevirtual 100, 3) := by decide +kernel
theorem dX12_canSell_6 : decode cX12_canSell 6 = .ok (.ifCond .eq 69, 3) := by decide +kernel
theorem dX12_canSell_9 : decode cX12_canSell 9 = .ok (.aload_n 0, 1) := by decide +kernel
theorem dX12_canSell_10 : decode cX12_canSell 10 = .ok (.getfield 34, 3) := by decide +kernel
theorem dX12_canSell_13 : decode cX12_canSell 13 = .ok (.iconst 3, 1) := by decide +kernel
theorem dX12_canSell_14 : decode cX12_canSell 14 = .ok (.iload_n 1, 1) := by decide +kernel
theorem dX12_canSell_15 : decode cX12_canSell 15 = .ok (.imul, 1) := by decide +kernel
theorem dX12_canSell_16 : decode cX12_canSell 16 = .ok (.iload_n 3, 1) := by decide +kernel
theorem dX12_canSell_17 : decode cX12_canSell 17 = .ok (.iadd, 1) := by decide +kernel
theorem dX12_canSell_18 : decode cX12_canSell 18 = .ok (.iaload, 1) := by decide +kernel
theorem dX12_canSell_19 : decode cX12_canSell 19 = .ok (.ifCond .le 56, 3) := by decide +kernel
theorem dX12_canSell_22 : decode cX12_canSell 22 = .ok (.aload_n 0, 1) := by decide +kernel
theorem dX12_canSell_23 : decode cX12_canSell 23 = .ok (.getfield 31, 3) := by decide +kernel
theorem dX12_canSell_26 : decode cX12_canSell 26 = .ok (.iload_n 2, 1) := by decide +kernel
theorem dX12_canSell_27 : decode cX12_canSell 27 = .ok (.iaload, 1) := by decide +kernel
theorem dX12_canSell_28 : decode cX12_canSell 28 = .ok (.aload_n 0, 1) := by decide +kernel
theorem dX12_canSell_29 : decode cX12_canSell 29 = .ok (.getfield 40, 3) := by decide +kernel
theorem dX12_canSell_32 : decode cX12_canSell 32 = .ok (.iload_n 3, 1) := by decide +kernel
theorem dX12_canSell_33 : decode cX12_canSell 33 = .ok (.iaload, 1) := by decide +kernel
theorem dX12_canSell_34 : decode cX12_canSell 34 = .ok (.if_icmp .lt 41, 3) := by decide +kernel
theorem dX12_canSell_37 : decode cX12_canSell 37 = .ok (.aload_n 0, 1) := by decide +kernel
theorem dX12_canSell_38 : decode cX12_canSell 38 = .ok (.getfield 34, 3) := by decide +kernel
theorem dX12_canSell_41 : decode cX12_canSell 41 = .ok (.iconst 3, 1) := by decide +kernel
theorem dX12_canSell_42 : decode cX12_canSell 42 = .ok (.iload_n 2, 1) := by decide +kernel
theorem dX12_canSell_43 : decode cX12_canSell 43 = .ok (.imul, 1) := by decide +kernel
theorem dX12_canSell_44 : decode cX12_canSell 44 = .ok (.iload_n 3, 1) := by decide +kernel
theorem dX12_canSell_45 : decode cX12_canSell 45 = .ok (.iadd, 1) := by decide +kernel
theorem dX12_canSell_46 : decode cX12_canSell 46 = .ok (.iaload, 1) := by decide +kernel
theorem dX12_canSell_47 : decode cX12_canSell 47 = .ok (.bipush 99, 2) := by decide +kernel
theorem dX12_canSell_49 : decode cX12_canSell 49 = .ok (.if_icmp .ge 26, 3) := by decide +kernel
theorem dX12_canSell_52 : decode cX12_canSell 52 = .ok (.aload_n 0, 1) := by decide +kernel
theorem dX12_canSell_53 : decode cX12_canSell 53 = .ok (.getfield 31, 3) := by decide +kernel
theorem dX12_canSell_56 : decode cX12_canSell 56 = .ok (.iload_n 1, 1) := by decide +kernel
theorem dX12_canSell_57 : decode cX12_canSell 57 = .ok (.iaload, 1) := by decide +kernel
theorem dX12_canSell_58 : decode cX12_canSell 58 = .ok (.aload_n 0, 1) := by decide +kernel
theorem dX12_canSell_59 : decode cX12_canSell 59 = .ok (.getfield 40, 3) := by decide +kernel
theorem dX12_canSell_62 : decode cX12_canSell 62 = .ok (.iload_n 3, 1) := by decide +kernel
theorem dX12_canSell_63 : decode cX12_canSell 63 = .ok (.iaload, 1) := by decide +kernel
theorem dX12_canSell_64 : decode cX12_canSell 64 = .ok (.iadd, 1) := by decide +kernel
theorem dX12_canSell_65 : decode cX12_canSell 65 = .ok (.sipush 9999, 3) := by decide +kernel
theorem dX12_canSell_68 : decode cX12_canSell 68 = .ok (.if_icmp .gt 7, 3) := by decide +kernel
theorem dX12_canSell_71 : decode cX12_canSell 71 = .ok (.iconst 1, 1) := by decide +kernel
theorem dX12_canSell_72 : decode cX12_canSell 72 = .ok (.goto 4, 3) := by decide +kernel
theorem dX12_canSell_75 : decode cX12_canSell 75 = .ok (.iconst 0, 1) := by decide +kernel
theorem dX12_canSell_76 : decode cX12_canSell 76 = .ok (.ireturn, 1) := by decide +kernel
theorem dX12_sell_0 : decode cX12_sell 0 = .ok (.aload_n 0, 1) := by decide +kernel
theorem dX12_sell_1 : decode cX12_sell 1 = .ok (.getfield 34, 3) := by decide +kernel
theorem dX12_sell_4 : decode cX12_sell 4 = .ok (.iconst 3, 1) := by decide +kernel
theorem dX12_sell_5 : decode cX12_sell 5 = .ok (.iload_n 1, 1) := by decide +kernel
theorem dX12_sell_6 : decode cX12_sell 6 = .ok (.imul, 1) := by decide +kernel
theorem dX12_sell_7 : decode cX12_sell 7 = .ok (.iload_n 3, 1) := by decide +kernel
theorem dX12_sell_8 : decode cX12_sell 8 = .ok (.iadd, 1) := by decide +kernel
theorem dX12_sell_9 : decode cX12_sell 9 = .ok (.dup2, 1) := by decide +kernel
theorem dX12_sell_10 : decode cX12_sell 10 = .ok (.iaload, 1) := by decide +kernel
theorem dX12_sell_11 : decode cX12_sell 11 = .ok (.iconst 1, 1) := by decide +kernel
theorem dX12_sell_12 : decode cX12_sell 12 = .ok (.isub, 1) := by decide +kernel
theorem dX12_sell_13 : decode cX12_sell 13 = .ok (.iastore, 1) := by decide +kernel
theorem dX12_sell_14 : decode cX12_sell 14 = .ok (.aload_n 0, 1) := by decide +kernel
theorem dX12_sell_15 : decode cX12_sell 15 = .ok (.getfield 34, 3) := by decide +kernel
theorem dX12_sell_18 : decode cX12_sell 18 = .ok (.iconst 3, 1) := by decide +kernel
theorem dX12_sell_19 : decode cX12_sell 19 = .ok (.iload_n 2, 1) := by decide +kernel
theorem dX12_sell_20 : decode cX12_sell 20 = .ok (.imul, 1) := by decide +kernel
theorem dX12_sell_21 : decode cX12_sell 21 = .ok (.iload_n 3, 1) := by decide +kernel
theorem dX12_sell_22 : decode cX12_sell 22 = .ok (.iadd, 1) := by decide +kernel
theorem dX12_sell_23 : decode cX12_sell 23 = .ok (.dup2, 1) := by decide +kernel
theorem dX12_sell_24 : decode cX12_sell 24 = .ok (.iaload, 1) := by decide +kernel
theorem dX12_sell_25 : decode cX12_sell 25 = .ok (.iconst 1, 1) := by decide +kernel
theorem dX12_sell_26 : decode cX12_sell 26 = .ok (.iadd, 1) := by decide +kernel
theorem dX12_sell_27 : decode cX12_sell 27 = .ok (.iastore, 1) := by decide +kernel
theorem dX12_sell_28 : decode cX12_sell 28 = .ok (.aload_n 0, 1) := by decide +kernel
theorem dX12_sell_29 : decode cX12_sell 29 = .ok (.getfield 31, 3) := by decide +kernel
theorem dX12_sell_32 : decode cX12_sell 32 = .ok (.iload_n 1, 1) := by decide +kernel
theorem dX12_sell_33 : decode cX12_sell 33 = .ok (.dup2, 1) := by decide +kernel
theorem dX12_sell_34 : decode cX12_sell 34 = .ok (.iaload, 1) := by decide +kernel
theorem dX12_sell_35 : decode cX12_sell 35 = .ok (.aload_n 0, 1) := by decide +kernel
theorem dX12_sell_36 : decode cX12_sell 36 = .ok (.getfield 40, 3) := by decide +kernel
theorem dX12_sell_39 : decode cX12_sell 39 = .ok (.iload_n 3, 1) := by decide +kernel
theorem dX12_sell_40 : decode cX12_sell 40 = .ok (.iaload, 1) := by decide +kernel
theorem dX12_sell_41 : decode cX12_sell 41 = .ok (.iadd, 1) := by decide +kernel
theorem dX12_sell_42 : decode cX12_sell 42 = .ok (.iastore, 1) := by decide +kernel
theorem dX12_sell_43 : decode cX12_sell 43 = .ok (.aload_n 0, 1) := by decide +kernel
theorem dX12_sell_44 : decode cX12_sell 44 = .ok (.getfield 31, 3) := by decide +kernel
theorem dX12_sell_47 : decode cX12_sell 47 = .ok (.iload_n 2, 1) := by decide +kernel
theorem dX12_sell_48 : decode cX12_sell 48 = .ok (.dup2, 1) := by decide +kernel
theorem dX12_sell_49 : decode cX12_sell 49 = .ok (.iaload, 1) := by decide +kernel
theorem dX12_sell_50 : decode cX12_sell 50 = .ok (.aload_n 0, 1) := by decide +kernel
theorem dX12_sell_51 : decode cX12_sell 51 = .ok (.getfield 40, 3) := by decide +kernel
theorem dX12_sell_54 : decode cX12_sell 54 = .ok (.iload_n 3, 1) := by decide +kernel
theorem dX12_sell_55 : decode cX12_sell 55 = .ok (.iaload, 1) := by decide +kernel
theorem dX12_sell_56 : decode cX12_sell 56 = .ok (.isub, 1) := by decide +kernel
theorem dX12_sell_57 : decode cX12_sell 57 = .ok (.iastore, 1) := by decide +kernel
theorem dX12_sell_58 : decode cX12_sell 58 = .ok (.return_, 1) := by decide +kernel
theorem dX12_wants_0 : decode cX12_wants 0 = .ok (.aload_n 0, 1) := by decide +kernel
theorem dX12_wants_1 : decode cX12_wants 1 = .ok (.getfield 25, 3) := by decide +kernel
theorem dX12_wants_4 : decode cX12_wants 4 = .ok (.iload_n 1, 1) := by decide +kernel
theorem dX12_wants_5 : decode cX12_wants 5 = .ok (.iaload, 1) := by decide +kernel
theorem dX12_wants_6 : decode cX12_wants 6 = .ok (.iload_n 2, 1) := by decide +kernel
theorem dX12_wants_7 : decode cX12_wants 7 = .ok (.if_icmp .ne 16, 3) := by decide +kernel
theorem dX12_wants_10 : decode cX12_wants 10 = .ok (.aload_n 0, 1) := by decide +kernel
theorem dX12_wants_11 : decode cX12_wants 11 = .ok (.getfield 28, 3) := by decide +kernel
theorem dX12_wants_14 : decode cX12_wants 14 = .ok (.iload_n 1, 1) := by decide +kernel
theorem dX12_wants_15 : decode cX12_wants 15 = .ok (.iaload, 1) := by decide +kernel
theorem dX12_wants_16 : decode cX12_wants 16 = .ok (.ifCond .le 7, 3) := by decide +kernel
theorem dX12_wants_19 : decode cX12_wants 19 = .ok (.iconst 1, 1) := by decide +kernel
theorem dX12_wants_20 : decode cX12_wants 20 = .ok (.goto 4, 3) := by decide +kernel
theorem dX12_wants_23 : decode cX12_wants 23 = .ok (.iconst 0, 1) := by decide +kernel
theorem dX12_wants_24 : decode cX12_wants 24 = .ok (.ireturn, 1) := by decide +kernel
theorem dX12_buyFor_0 : decode cX12_buyFor 0 = .ok (.aload_n 0, 1) := by decide +kernel
theorem dX12_buyFor_1 : decode cX12_buyFor 1 = .ok (.getfield 25, 3) := by decide +kernel
theorem dX12_buyFor_4 : decode cX12_buyFor 4 = .ok (.iload_n 1, 1) := by decide +kernel
theorem dX12_buyFor_5 : decode cX12_buyFor 5 = .ok (.iaload, 1) := by decide +kernel
theorem dX12_buyFor_6 : decode cX12_buyFor 6 = .ok (.istore_n 2, 1) := by decide +kernel
theorem dX12_buyFor_7 : decode cX12_buyFor 7 = .ok (.iconst 1, 1) := by decide +kernel
theorem dX12_buyFor_8 : decode cX12_buyFor 8 = .ok (.istore_n 3, 1) := by decide +kernel
theorem dX12_buyFor_9 : decode cX12_buyFor 9 = .ok (.iload_n 3, 1) := by decide +kernel
theorem dX12_buyFor_10 : decode cX12_buyFor 10 = .ok (.ifCond .eq 151, 3) := by decide +kernel
theorem dX12_buyFor_13 : decode cX12_buyFor 13 = .ok (.aload_n 0, 1) := by decide +kernel
theorem dX12_buyFor_14 : decode cX12_buyFor 14 = .ok (.getfield 34, 3) := by decide +kernel
theorem dX12_buyFor_17 : decode cX12_buyFor 17 = .ok (.iconst 3, 1) := by decide +kernel
theorem dX12_buyFor_18 : decode cX12_buyFor 18 = .ok (.iload_n 1, 1) := by decide +kernel
theorem dX12_buyFor_19 : decode cX12_buyFor 19 = .ok (.imul, 1) := by decide +kernel
theorem dX12_buyFor_20 : decode cX12_buyFor 20 = .ok (.iload_n 2, 1) := by decide +kernel
theorem dX12_buyFor_21 : decode cX12_buyFor 21 = .ok (.iadd, 1) := by decide +kernel
theorem dX12_buyFor_22 : decode cX12_buyFor 22 = .ok (.iaload, 1) := by decide +kernel
theorem dX12_buyFor_23 : decode cX12_buyFor 23 = .ok (.aload_n 0, 1) := by decide +kernel
theorem dX12_buyFor_24 : decode cX12_buyFor 24 = .ok (.getfield 28, 3) := by decide +kernel
theorem dX12_buyFor_27 : decode cX12_buyFor 27 = .ok (.iload_n 1, 1) := by decide +kernel
theorem dX12_buyFor_28 : decode cX12_buyFor 28 = .ok (.iaload, 1) := by decide +kernel
theorem dX12_buyFor_29 : decode cX12_buyFor 29 = .ok (.if_icmp .ge 132, 3) := by decide +kernel
theorem dX12_buyFor_32 : decode cX12_buyFor 32 = .ok (.iconst (-1), 1) := by decide +kernel
theorem dX12_buyFor_33 : decode cX12_buyFor 33 = .ok (.istore 4, 2) := by decide +kernel
theorem dX12_buyFor_35 : decode cX12_buyFor 35 = .ok (.iconst 0, 1) := by decide +kernel
theorem dX12_buyFor_36 : decode cX12_buyFor 36 = .ok (.istore 5, 2) := by decide +kernel
theorem dX12_buyFor_38 : decode cX12_buyFor 38 = .ok (.iload 5, 2) := by decide +kernel
theorem dX12_buyFor_40 : decode cX12_buyFor 40 = .ok (.aload_n 0, 1) := by decide +kernel
theorem dX12_buyFor_41 : decode cX12_buyFor 41 = .ok (.getfield 77, 3) := by decide +kernel
theorem dX12_buyFor_44 : decode cX12_buyFor 44 = .ok (.if_icmp .ge 81, 3) := by decide +kernel
theorem dX12_buyFor_47 : decode cX12_buyFor 47 = .ok (.aload_n 0, 1) := by decide +kernel
theorem dX12_buyFor_48 : decode cX12_buyFor 48 = .ok (.iload 5, 2) := by decide +kernel
theorem dX12_buyFor_50 : decode cX12_buyFor 50 = .ok (.iload_n 2, 1) := by decide +kernel
theorem dX12_buyFor_51 : decode cX12_buyFor 51 = .ok (.invokevirtual 104, 3) := by decide +kernel
theorem dX12_buyFor_54 : decode cX12_buyFor 54 = .ok (.ifCond .ne 18, 3) := by decide +kernel
theorem dX12_buyFor_57 : decode cX12_buyFor 57 = .ok (.aload_n 0, 1) := by decide +kernel
theorem dX12_buyFor_58 : decode cX12_buyFor 58 = .ok (.iload 5, 2) := by decide +kernel
theorem dX12_buyFor_60 : decode cX12_buyFor 60 = .ok (.iload_n 1, 1) := by decide +kernel
theorem dX12_buyFor_61 : decode cX12_buyFor 61 = .ok (.iload_n 2, 1) := by decide +kernel
theorem dX12_buyFor_62 : decode cX12_buyFor 62 = .ok (.invokevirtual 107, 3) := by decide +kernel
theorem dX12_buyFor_65 : decode cX12_buyFor 65 = .ok (.ifCond .eq 7, 3) := by decide +kernel
theorem dX12_buyFor_68 : decode cX12_buyFor 68 = .ok (.iconst 1, 1) := by decide +kernel
theorem dX12_buyFor_69 : decode cX12_buyFor 69 = .ok (.goto 4, 3) := by decide +kernel
theorem dX12_buyFor_72 : decode cX12_buyFor 72 = .ok (.iconst 0, 1) := by decide +kernel
theorem dX12_buyFor_73 : decode cX12_buyFor 73 = .ok (.istore 6, 2) := by decide +kernel
theorem dX12_buyFor_75 : decode cX12_buyFor 75 = .ok (.iload 6, 2) := by decide +kernel
theorem dX12_buyFor_77 : decode cX12_buyFor 77 = .ok (.ifCond .eq 38, 3) := by decide +kernel
theorem dX12_buyFor_80 : decode cX12_buyFor 80 = .ok (.iload 4, 2) := by decide +kernel
theorem dX12_buyFor_82 : decode cX12_buyFor 82 = .ok (.ifCond .lt 28, 3) := by decide +kernel
theorem dX12_buyFor_85 : decode cX12_buyFor 85 = .ok (.aload_n 0, 1) := by decide +kernel
theorem dX12_buyFor_86 : decode cX12_buyFor 86 = .ok (.getfield 34, 3) := by decide +kernel
theorem dX12_buyFor_89 : decode cX12_buyFor 89 = .ok (.iconst 3, 1) := by decide +kernel
theorem dX12_buyFor_90 : decode cX12_buyFor 90 = .ok (.iload 5, 2) := by decide +kernel
theorem dX12_buyFor_92 : decode cX12_buyFor 92 = .ok (.imul, 1) := by decide +kernel
theorem dX12_buyFor_93 : decode cX12_buyFor 93 = .ok (.iload_n 2, 1) := by decide +kernel
theorem dX12_buyFor_94 : decode cX12_buyFor 94 = .ok (.iadd, 1) := by decide +kernel
theorem dX12_buyFor_95 : decode cX12_buyFor 95 = .ok (.iaload, 1) := by decide +kernel
theorem dX12_buyFor_96 : decode cX12_buyFor 96 = .ok (.aload_n 0, 1) := by decide +kernel
theorem dX12_buyFor_97 : decode cX12_buyFor 97 = .ok (.getfield 34, 3) := by decide +kernel
theorem dX12_buyFor_100 : decode cX12_buyFor 100 = .ok (.iconst 3, 1) := by decide +kernel
theorem dX12_buyFor_101 : decode cX12_buyFor 101 = .ok (.iload 4, 2) := by decide +kernel
theorem dX12_buyFor_103 : decode cX12_buyFor 103 = .ok (.imul, 1) := by decide +kernel
theorem dX12_buyFor_104 : decode cX12_buyFor 104 = .ok (.iload_n 2, 1) := by decide +kernel
theorem dX12_buyFor_105 : decode cX12_buyFor 105 = .ok (.iadd, 1) := by decide +kernel
theorem dX12_buyFor_106 : decode cX12_buyFor 106 = .ok (.iaload, 1) := by decide +kernel
theorem dX12_buyFor_107 : decode cX12_buyFor 107 = .ok (.if_icmp .le 8, 3) := by decide +kernel
theorem dX12_buyFor_110 : decode cX12_buyFor 110 = .ok (.iload 5, 2) := by decide +kernel
theorem dX12_buyFor_112 : decode cX12_buyFor 112 = .ok (.goto 5, 3) := by decide +kernel
theorem dX12_buyFor_115 : decode cX12_buyFor 115 = .ok (.iload 4, 2) := by decide +kernel
theorem dX12_buyFor_117 : decode cX12_buyFor 117 = .ok (.istore 4, 2) := by decide +kernel
theorem dX12_buyFor_119 : decode cX12_buyFor 119 = .ok (.iinc 5 1, 3) := by decide +kernel
theorem dX12_buyFor_122 : decode cX12_buyFor 122 = .ok (.goto (-84), 3) := by decide +kernel
theorem dX12_buyFor_125 : decode cX12_buyFor 125 = .ok (.iload 4, 2) := by decide +kernel
theorem dX12_buyFor_127 : decode cX12_buyFor 127 = .ok (.ifCond .lt 7, 3) := by decide +kernel
theorem dX12_buyFor_130 : decode cX12_buyFor 130 = .ok (.iconst 1, 1) := by decide +kernel
theorem dX12_buyFor_131 : decode cX12_buyFor 131 = .ok (.goto 4, 3) := by decide +kernel
theorem dX12_buyFor_134 : decode cX12_buyFor 134 = .ok (.iconst 0, 1) := by decide +kernel
theorem dX12_buyFor_135 : decode cX12_buyFor 135 = .ok (.istore_n 3, 1) := by decide +kernel
theorem dX12_buyFor_136 : decode cX12_buyFor 136 = .ok (.iload_n 3, 1) := by decide +kernel
theorem dX12_buyFor_137 : decode cX12_buyFor 137 = .ok (.ifCond .eq 21, 3) := by decide +kernel
theorem dX12_buyFor_140 : decode cX12_buyFor 140 = .ok (.aload_n 0, 1) := by decide +kernel
theorem dX12_buyFor_141 : decode cX12_buyFor 141 = .ok (.iload 4, 2) := by decide +kernel
theorem dX12_buyFor_143 : decode cX12_buyFor 143 = .ok (.iload_n 1, 1) := by decide +kernel
theorem dX12_buyFor_144 : decode cX12_buyFor 144 = .ok (.iload_n 2, 1) := by decide +kernel
theorem dX12_buyFor_145 : decode cX12_buyFor 145 = .ok (.invokevirtual 111, 3) := by decide +kernel
theorem dX12_buyFor_148 : decode cX12_buyFor 148 = .ok (.aload_n 0, 1) := by decide +kernel
theorem dX12_buyFor_149 : decode cX12_buyFor 149 = .ok (.dup, 1) := by decide +kernel
theorem dX12_buyFor_150 : decode cX12_buyFor 150 = .ok (.getfield 115, 3) := by decide +kernel
theorem dX12_buyFor_153 : decode cX12_buyFor 153 = .ok (.iconst 1, 1) := by decide +kernel
theorem dX12_buyFor_154 : decode cX12_buyFor 154 = .ok (.iadd, 1) := by decide +kernel
theorem dX12_buyFor_155 : decode cX12_buyFor 155 = .ok (.putfield 115, 3) := by decide +kernel
theorem dX12_buyFor_158 : decode cX12_buyFor 158 = .ok (.goto (-149), 3) := by decide +kernel
theorem dX12_buyFor_161 : decode cX12_buyFor 161 = .ok (.return_, 1) := by decide +kernel
theorem dX12_weekOn_0 : decode cX12_weekOn 0 = .ok (.aload_n 0, 1) := by decide +kernel
theorem dX12_weekOn_1 : decode cX12_weekOn 1 = .ok (.iconst 0, 1) := by decide +kernel
theorem dX12_weekOn_2 : decode cX12_weekOn 2 = .ok (.putfield 115, 3) := by decide +kernel
theorem dX12_weekOn_5 : decode cX12_weekOn 5 = .ok (.iconst 0, 1) := by decide +kernel
theorem dX12_weekOn_6 : decode cX12_weekOn 6 = .ok (.istore_n 1, 1) := by decide +kernel
theorem dX12_weekOn_7 : decode cX12_weekOn 7 = .ok (.iload_n 1, 1) := by decide +kernel
theorem dX12_weekOn_8 : decode cX12_weekOn 8 = .ok (.aload_n 0, 1) := by decide +kernel
theorem dX12_weekOn_9 : decode cX12_weekOn 9 = .ok (.getfield 77, 3) := by decide +kernel
theorem dX12_weekOn_12 : decode cX12_weekOn 12 = .ok (.if_icmp .ge 62, 3) := by decide +kernel
theorem dX12_weekOn_15 : decode cX12_weekOn 15 = .ok (.iconst 3, 1) := by decide +kernel
theorem dX12_weekOn_16 : decode cX12_weekOn 16 = .ok (.iload_n 1, 1) := by decide +kernel
theorem dX12_weekOn_17 : decode cX12_weekOn 17 = .ok (.imul, 1) := by decide +kernel
theorem dX12_weekOn_18 : decode cX12_weekOn 18 = .ok (.aload_n 0, 1) := by decide +kernel
theorem dX12_weekOn_19 : decode cX12_weekOn 19 = .ok (.getfield 19, 3) := by decide +kernel
theorem dX12_weekOn_22 : decode cX12_weekOn 22 = .ok (.iload_n 1, 1) := by decide +kernel
theorem dX12_weekOn_23 : decode cX12_weekOn 23 = .ok (.iaload, 1) := by decide +kernel
theorem dX12_weekOn_24 : decode cX12_weekOn 24 = .ok (.iadd, 1) := by decide +kernel
theorem dX12_weekOn_25 : decode cX12_weekOn 25 = .ok (.istore_n 2, 1) := by decide +kernel
theorem dX12_weekOn_26 : decode cX12_weekOn 26 = .ok (.aload_n 0, 1) := by decide +kernel
theorem dX12_weekOn_27 : decode cX12_weekOn 27 = .ok (.getfield 34, 3) := by decide +kernel
theorem dX12_weekOn_30 : decode cX12_weekOn 30 = .ok (.iload_n 2, 1) := by decide +kernel
theorem dX12_weekOn_31 : decode cX12_weekOn 31 = .ok (.aload_n 0, 1) := by decide +kernel
theorem dX12_weekOn_32 : decode cX12_weekOn 32 = .ok (.getfield 34, 3) := by decide +kernel
theorem dX12_weekOn_35 : decode cX12_weekOn 35 = .ok (.iload_n 2, 1) := by decide +kernel
theorem dX12_weekOn_36 : decode cX12_weekOn 36 = .ok (.iaload, 1) := by decide +kernel
theorem dX12_weekOn_37 : decode cX12_weekOn 37 = .ok (.aload_n 0, 1) := by decide +kernel
theorem dX12_weekOn_38 : decode cX12_weekOn 38 = .ok (.getfield 22, 3) := by decide +kernel
theorem dX12_weekOn_41 : decode cX12_weekOn 41 = .ok (.iload_n 1, 1) := by decide +kernel
theorem dX12_weekOn_42 : decode cX12_weekOn 42 = .ok (.iaload, 1) := by decide +kernel
theorem dX12_weekOn_43 : decode cX12_weekOn 43 = .ok (.iadd, 1) := by decide +kernel
theorem dX12_weekOn_44 : decode cX12_weekOn 44 = .ok (.bipush 99, 2) := by decide +kernel
theorem dX12_weekOn_46 : decode cX12_weekOn 46 = .ok (.if_icmp .le 8, 3) := by decide +kernel
theorem dX12_weekOn_49 : decode cX12_weekOn 49 = .ok (.bipush 99, 2) := by decide +kernel
theorem dX12_weekOn_51 : decode cX12_weekOn 51 = .ok (.goto 16, 3) := by decide +kernel
theorem dX12_weekOn_54 : decode cX12_weekOn 54 = .ok (.aload_n 0, 1) := by decide +kernel
theorem dX12_weekOn_55 : decode cX12_weekOn 55 = .ok (.getfield 34, 3) := by decide +kernel
theorem dX12_weekOn_58 : decode cX12_weekOn 58 = .ok (.iload_n 2, 1) := by decide +kernel
theorem dX12_weekOn_59 : decode cX12_weekOn 59 = .ok (.iaload, 1) := by decide +kernel
theorem dX12_weekOn_60 : decode cX12_weekOn 60 = .ok (.aload_n 0, 1) := by decide +kernel
theorem dX12_weekOn_61 : decode cX12_weekOn 61 = .ok (.getfield 22, 3) := by decide +kernel
theorem dX12_weekOn_64 : decode cX12_weekOn 64 = .ok (.iload_n 1, 1) := by decide +kernel
theorem dX12_weekOn_65 : decode cX12_weekOn 65 = .ok (.iaload, 1) := by decide +kernel
theorem dX12_weekOn_66 : decode cX12_weekOn 66 = .ok (.iadd, 1) := by decide +kernel
theorem dX12_weekOn_67 : decode cX12_weekOn 67 = .ok (.iastore, 1) := by decide +kernel
theorem dX12_weekOn_68 : decode cX12_weekOn 68 = .ok (.iinc 1 1, 3) := by decide +kernel
theorem dX12_weekOn_71 : decode cX12_weekOn 71 = .ok (.goto (-64), 3) := by decide +kernel
theorem dX12_weekOn_74 : decode cX12_weekOn 74 = .ok (.iconst 0, 1) := by decide +kernel
theorem dX12_weekOn_75 : decode cX12_weekOn 75 = .ok (.istore_n 1, 1) := by decide +kernel
theorem dX12_weekOn_76 : decode cX12_weekOn 76 = .ok (.iload_n 1, 1) := by decide +kernel
theorem dX12_weekOn_77 : decode cX12_weekOn 77 = .ok (.aload_n 0, 1) := by decide +kernel
theorem dX12_weekOn_78 : decode cX12_weekOn 78 = .ok (.getfield 77, 3) := by decide +kernel
theorem dX12_weekOn_81 : decode cX12_weekOn 81 = .ok (.if_icmp .ge 14, 3) := by decide +kernel
theorem dX12_weekOn_84 : decode cX12_weekOn 84 = .ok (.aload_n 0, 1) := by decide +kernel
theorem dX12_weekOn_85 : decode cX12_weekOn 85 = .ok (.iload_n 1, 1) := by decide +kernel
theorem dX12_weekOn_86 : decode cX12_weekOn 86 = .ok (.invokevirtual 118, 3) := by decide +kernel
theorem dX12_weekOn_89 : decode cX12_weekOn 89 = .ok (.iinc 1 1, 3) := by decide +kernel
theorem dX12_weekOn_92 : decode cX12_weekOn 92 = .ok (.goto (-16), 3) := by decide +kernel
theorem dX12_weekOn_95 : decode cX12_weekOn 95 = .ok (.iconst 0, 1) := by decide +kernel
theorem dX12_weekOn_96 : decode cX12_weekOn 96 = .ok (.istore_n 1, 1) := by decide +kernel
theorem dX12_weekOn_97 : decode cX12_weekOn 97 = .ok (.iconst 0, 1) := by decide +kernel
theorem dX12_weekOn_98 : decode cX12_weekOn 98 = .ok (.istore_n 2, 1) := by decide +kernel
theorem dX12_weekOn_99 : decode cX12_weekOn 99 = .ok (.iload_n 2, 1) := by decide +kernel
theorem dX12_weekOn_100 : decode cX12_weekOn 100 = .ok (.aload_n 0, 1) := by decide +kernel
theorem dX12_weekOn_101 : decode cX12_weekOn 101 = .ok (.getfield 77, 3) := by decide +kernel
theorem dX12_weekOn_104 : decode cX12_weekOn 104 = .ok (.if_icmp .ge 79, 3) := by decide +kernel
theorem dX12_weekOn_107 : decode cX12_weekOn 107 = .ok (.iconst 3, 1) := by decide +kernel
theorem dX12_weekOn_108 : decode cX12_weekOn 108 = .ok (.iload_n 2, 1) := by decide +kernel
theorem dX12_weekOn_109 : decode cX12_weekOn 109 = .ok (.imul, 1) := by decide +kernel
theorem dX12_weekOn_110 : decode cX12_weekOn 110 = .ok (.aload_n 0, 1) := by decide +kernel
theorem dX12_weekOn_111 : decode cX12_weekOn 111 = .ok (.getfield 25, 3) := by decide +kernel
theorem dX12_weekOn_114 : decode cX12_weekOn 114 = .ok (.iload_n 2, 1) := by decide +kernel
theorem dX12_weekOn_115 : decode cX12_weekOn 115 = .ok (.iaload, 1) := by decide +kernel
theorem dX12_weekOn_116 : decode cX12_weekOn 116 = .ok (.iadd, 1) := by decide +kernel
theorem dX12_weekOn_117 : decode cX12_weekOn 117 = .ok (.istore_n 3, 1) := by decide +kernel
theorem dX12_weekOn_118 : decode cX12_weekOn 118 = .ok (.aload_n 0, 1) := by decide +kernel
theorem dX12_weekOn_119 : decode cX12_weekOn 119 = .ok (.getfield 34, 3) := by decide +kernel
theorem dX12_weekOn_122 : decode cX12_weekOn 122 = .ok (.iload_n 3, 1) := by decide +kernel
theorem dX12_weekOn_123 : decode cX12_weekOn 123 = .ok (.iaload, 1) := by decide +kernel
theorem dX12_weekOn_124 : decode cX12_weekOn 124 = .ok (.aload_n 0, 1) := by decide +kernel
theorem dX12_weekOn_125 : decode cX12_weekOn 125 = .ok (.getfield 28, 3) := by decide +kernel
theorem dX12_weekOn_128 : decode cX12_weekOn 128 = .ok (.iload_n 2, 1) := by decide +kernel
theorem dX12_weekOn_129 : decode cX12_weekOn 129 = .ok (.iaload, 1) := by decide +kernel
theorem dX12_weekOn_130 : decode cX12_weekOn 130 = .ok (.if_icmp .ge 12, 3) := by decide +kernel
theorem dX12_weekOn_133 : decode cX12_weekOn 133 = .ok (.aload_n 0, 1) := by decide +kernel
theorem dX12_weekOn_134 : decode cX12_weekOn 134 = .ok (.getfield 34, 3) := by decide +kernel
theorem dX12_weekOn_137 : decode cX12_weekOn 137 = .ok (.iload_n 3, 1) := by decide +kernel
theorem dX12_weekOn_138 : decode cX12_weekOn 138 = .ok (.iaload, 1) := by decide +kernel
theorem dX12_weekOn_139 : decode cX12_weekOn 139 = .ok (.goto 9, 3) := by decide +kernel
theorem dX12_weekOn_142 : decode cX12_weekOn 142 = .ok (.aload_n 0, 1) := by decide +kernel
theorem dX12_weekOn_143 : decode cX12_weekOn 143 = .ok (.getfield 28, 3) := by decide +kernel
theorem dX12_weekOn_146 : decode cX12_weekOn 146 = .ok (.iload_n 2, 1) := by decide +kernel
theorem dX12_weekOn_147 : decode cX12_weekOn 147 = .ok (.iaload, 1) := by decide +kernel
theorem dX12_weekOn_148 : decode cX12_weekOn 148 = .ok (.istore 4, 2) := by decide +kernel
theorem dX12_weekOn_150 : decode cX12_weekOn 150 = .ok (.aload_n 0, 1) := by decide +kernel
theorem dX12_weekOn_151 : decode cX12_weekOn 151 = .ok (.getfield 34, 3) := by decide +kernel
theorem dX12_weekOn_154 : decode cX12_weekOn 154 = .ok (.iload_n 3, 1) := by decide +kernel
theorem dX12_weekOn_155 : decode cX12_weekOn 155 = .ok (.dup2, 1) := by decide +kernel
theorem dX12_weekOn_156 : decode cX12_weekOn 156 = .ok (.iaload, 1) := by decide +kernel
theorem dX12_weekOn_157 : decode cX12_weekOn 157 = .ok (.iload 4, 2) := by decide +kernel
theorem dX12_weekOn_159 : decode cX12_weekOn 159 = .ok (.isub, 1) := by decide +kernel
theorem dX12_weekOn_160 : decode cX12_weekOn 160 = .ok (.iastore, 1) := by decide +kernel
theorem dX12_weekOn_161 : decode cX12_weekOn 161 = .ok (.aload_n 0, 1) := by decide +kernel
theorem dX12_weekOn_162 : decode cX12_weekOn 162 = .ok (.getfield 46, 3) := by decide +kernel
theorem dX12_weekOn_165 : decode cX12_weekOn 165 = .ok (.iload_n 2, 1) := by decide +kernel
theorem dX12_weekOn_166 : decode cX12_weekOn 166 = .ok (.dup2, 1) := by decide +kernel
theorem dX12_weekOn_167 : decode cX12_weekOn 167 = .ok (.iaload, 1) := by decide +kernel
theorem dX12_weekOn_168 : decode cX12_weekOn 168 = .ok (.iload 4, 2) := by decide +kernel
theorem dX12_weekOn_170 : decode cX12_weekOn 170 = .ok (.iadd, 1) := by decide +kernel
theorem dX12_weekOn_171 : decode cX12_weekOn 171 = .ok (.iastore, 1) := by decide +kernel
theorem dX12_weekOn_172 : decode cX12_weekOn 172 = .ok (.iload_n 1, 1) := by decide +kernel
theorem dX12_weekOn_173 : decode cX12_weekOn 173 = .ok (.iload 4, 2) := by decide +kernel
theorem dX12_weekOn_175 : decode cX12_weekOn 175 = .ok (.iadd, 1) := by decide +kernel
theorem dX12_weekOn_176 : decode cX12_weekOn 176 = .ok (.istore_n 1, 1) := by decide +kernel
theorem dX12_weekOn_177 : decode cX12_weekOn 177 = .ok (.iinc 2 1, 3) := by decide +kernel
theorem dX12_weekOn_180 : decode cX12_weekOn 180 = .ok (.goto (-81), 3) := by decide +kernel
theorem dX12_weekOn_183 : decode cX12_weekOn 183 = .ok (.aload_n 0, 1) := by decide +kernel
theorem dX12_weekOn_184 : decode cX12_weekOn 184 = .ok (.dup, 1) := by decide +kernel
theorem dX12_weekOn_185 : decode cX12_weekOn 185 = .ok (.getfield 122, 3) := by decide +kernel
theorem dX12_weekOn_188 : decode cX12_weekOn 188 = .ok (.iconst 1, 1) := by decide +kernel
theorem dX12_weekOn_189 : decode cX12_weekOn 189 = .ok (.iadd, 1) := by decide +kernel
theorem dX12_weekOn_190 : decode cX12_weekOn 190 = .ok (.putfield 122, 3) := by decide +kernel
theorem dX12_weekOn_193 : decode cX12_weekOn 193 = .ok (.iload_n 1, 1) := by decide +kernel
theorem dX12_weekOn_194 : decode cX12_weekOn 194 = .ok (.ireturn, 1) := by decide +kernel
theorem dX12_debt_0 : decode cX12_debt 0 = .ok (.aload_n 0, 1) := by decide +kernel
theorem dX12_debt_1 : decode cX12_debt 1 = .ok (.getfield 37, 3) := by decide +kernel
theorem dX12_debt_4 : decode cX12_debt 4 = .ok (.bipush 6, 2) := by decide +kernel
theorem dX12_debt_6 : decode cX12_debt 6 = .ok (.iload_n 1, 1) := by decide +kernel
theorem dX12_debt_7 : decode cX12_debt 7 = .ok (.imul, 1) := by decide +kernel
theorem dX12_debt_8 : decode cX12_debt 8 = .ok (.iload_n 2, 1) := by decide +kernel
theorem dX12_debt_9 : decode cX12_debt 9 = .ok (.iadd, 1) := by decide +kernel
theorem dX12_debt_10 : decode cX12_debt 10 = .ok (.iaload, 1) := by decide +kernel
theorem dX12_debt_11 : decode cX12_debt 11 = .ok (.ireturn, 1) := by decide +kernel
theorem dX12_lessen_0 : decode cX12_lessen 0 = .ok (.iload_n 3, 1) := by decide +kernel
theorem dX12_lessen_1 : decode cX12_lessen 1 = .ok (.ifCond .lt 7, 3) := by decide +kernel
theorem dX12_lessen_4 : decode cX12_lessen 4 = .ok (.iconst 1, 1) := by decide +kernel
theorem dX12_lessen_5 : decode cX12_lessen 5 = .ok (.goto 4, 3) := by decide +kernel
theorem dX12_lessen_8 : decode cX12_lessen 8 = .ok (.iconst 0, 1) := by decide +kernel
theorem dX12_lessen_9 : decode cX12_lessen 9 = .ok (.istore 4, 2) := by decide +kernel
theorem dX12_lessen_11 : decode cX12_lessen 11 = .ok (.aload_n 0, 1) := by decide +kernel
theorem dX12_lessen_12 : decode cX12_lessen 12 = .ok (.iload_n 1, 1) := by decide +kernel
theorem dX12_lessen_13 : decode cX12_lessen 13 = .ok (.iload_n 2, 1) := by decide +kernel
theorem dX12_lessen_14 : decode cX12_lessen 14 = .ok (.invokevirtual 125, 3) := by decide +kernel
theorem dX12_lessen_17 : decode cX12_lessen 17 = .ok (.iload 4, 2) := by decide +kernel
theorem dX12_lessen_19 : decode cX12_lessen 19 = .ok (.ifCond .eq 12, 3) := by decide +kernel
theorem dX12_lessen_22 : decode cX12_lessen 22 = .ok (.aload_n 0, 1) := by decide +kernel
theorem dX12_lessen_23 : decode cX12_lessen 23 = .ok (.iload_n 2, 1) := by decide +kernel
theorem dX12_lessen_24 : decode cX12_lessen 24 = .ok (.iload_n 3, 1) := by decide +kernel
theorem dX12_lessen_25 : decode cX12_lessen 25 = .ok (.invokevirtual 125, 3) := by decide +kernel
theorem dX12_lessen_28 : decode cX12_lessen 28 = .ok (.goto 9, 3) := by decide +kernel
theorem dX12_lessen_31 : decode cX12_lessen 31 = .ok (.aload_n 0, 1) := by decide +kernel
theorem dX12_lessen_32 : decode cX12_lessen 32 = .ok (.iload_n 2, 1) := by decide +kernel
theorem dX12_lessen_33 : decode cX12_lessen 33 = .ok (.iload_n 1, 1) := by decide +kernel
theorem dX12_lessen_34 : decode cX12_lessen 34 = .ok (.invokevirtual 125, 3) := by decide +kernel
theorem dX12_lessen_37 : decode cX12_lessen 37 = .ok (.if_icmp .ge 12, 3) := by decide +kernel
theorem dX12_lessen_40 : decode cX12_lessen 40 = .ok (.aload_n 0, 1) := by decide +kernel
theorem dX12_lessen_41 : decode cX12_lessen 41 = .ok (.iload_n 1, 1) := by decide +kernel
theorem dX12_lessen_42 : decode cX12_lessen 42 = .ok (.iload_n 2, 1) := by decide +kernel
theorem dX12_lessen_43 : decode cX12_lessen 43 = .ok (.invokevirtual 125, 3) := by decide +kernel
theorem dX12_lessen_46 : decode cX12_lessen 46 = .ok (.goto 23, 3) := by decide +kernel
theorem dX12_lessen_49 : decode cX12_lessen 49 = .ok (.iload 4, 2) := by decide +kernel
theorem dX12_lessen_51 : decode cX12_lessen 51 = .ok (.ifCond .eq 12, 3) := by decide +kernel
theorem dX12_lessen_54 : decode cX12_lessen 54 = .ok (.aload_n 0, 1) := by decide +kernel
theorem dX12_lessen_55 : decode cX12_lessen 55 = .ok (.iload_n 2, 1) := by decide +kernel
theorem dX12_lessen_56 : decode cX12_lessen 56 = .ok (.iload_n 3, 1) := by decide +kernel
theorem dX12_lessen_57 : decode cX12_lessen 57 = .ok (.invokevirtual 125, 3) := by decide +kernel
theorem dX12_lessen_60 : decode cX12_lessen 60 = .ok (.goto 9, 3) := by decide +kernel
theorem dX12_lessen_63 : decode cX12_lessen 63 = .ok (.aload_n 0, 1) := by decide +kernel
theorem dX12_lessen_64 : decode cX12_lessen 64 = .ok (.iload_n 2, 1) := by decide +kernel
theorem dX12_lessen_65 : decode cX12_lessen 65 = .ok (.iload_n 1, 1) := by decide +kernel
theorem dX12_lessen_66 : decode cX12_lessen 66 = .ok (.invokevirtual 125, 3) := by decide +kernel
theorem dX12_lessen_69 : decode cX12_lessen 69 = .ok (.istore 5, 2) := by decide +kernel
theorem dX12_lessen_71 : decode cX12_lessen 71 = .ok (.iload 4, 2) := by decide +kernel
theorem dX12_lessen_73 : decode cX12_lessen 73 = .ok (.ifCond .eq 23, 3) := by decide +kernel
theorem dX12_lessen_76 : decode cX12_lessen 76 = .ok (.aload_n 0, 1) := by decide +kernel
theorem dX12_lessen_77 : decode cX12_lessen 77 = .ok (.iload_n 3, 1) := by decide +kernel
theorem dX12_lessen_78 : decode cX12_lessen 78 = .ok (.iload_n 1, 1) := by decide +kernel
theorem dX12_lessen_79 : decode cX12_lessen 79 = .ok (.invokevirtual 125, 3) := by decide +kernel
theorem dX12_lessen_82 : decode cX12_lessen 82 = .ok (.iload 5, 2) := by decide +kernel
theorem dX12_lessen_84 : decode cX12_lessen 84 = .ok (.if_icmp .ge 12, 3) := by decide +kernel
theorem dX12_lessen_87 : decode cX12_lessen 87 = .ok (.aload_n 0, 1) := by decide +kernel
theorem dX12_lessen_88 : decode cX12_lessen 88 = .ok (.iload_n 3, 1) := by decide +kernel
theorem dX12_lessen_89 : decode cX12_lessen 89 = .ok (.iload_n 1, 1) := by decide +kernel
theorem dX12_lessen_90 : decode cX12_lessen 90 = .ok (.invokevirtual 125, 3) := by decide +kernel
theorem dX12_lessen_93 : decode cX12_lessen 93 = .ok (.goto 5, 3) := by decide +kernel
theorem dX12_lessen_96 : decode cX12_lessen 96 = .ok (.iload 5, 2) := by decide +kernel
theorem dX12_lessen_98 : decode cX12_lessen 98 = .ok (.istore 5, 2) := by decide +kernel
theorem dX12_lessen_100 : decode cX12_lessen 100 = .ok (.aload_n 0, 1) := by decide +kernel
theorem dX12_lessen_101 : decode cX12_lessen 101 = .ok (.getfield 37, 3) := by decide +kernel
theorem dX12_lessen_104 : decode cX12_lessen 104 = .ok (.bipush 6, 2) := by decide +kernel
theorem dX12_lessen_106 : decode cX12_lessen 106 = .ok (.iload_n 1, 1) := by decide +kernel
theorem dX12_lessen_107 : decode cX12_lessen 107 = .ok (.imul, 1) := by decide +kernel
theorem dX12_lessen_108 : decode cX12_lessen 108 = .ok (.iload_n 2, 1) := by decide +kernel
theorem dX12_lessen_109 : decode cX12_lessen 109 = .ok (.iadd, 1) := by decide +kernel
theorem dX12_lessen_110 : decode cX12_lessen 110 = .ok (.dup2, 1) := by decide +kernel
theorem dX12_lessen_111 : decode cX12_lessen 111 = .ok (.iaload, 1) := by decide +kernel
theorem dX12_lessen_112 : decode cX12_lessen 112 = .ok (.iload 5, 2) := by decide +kernel
theorem dX12_lessen_114 : decode cX12_lessen 114 = .ok (.isub, 1) := by decide +kernel
theorem dX12_lessen_115 : decode cX12_lessen 115 = .ok (.iastore, 1) := by decide +kernel
theorem dX12_lessen_116 : decode cX12_lessen 116 = .ok (.iload 4, 2) := by decide +kernel
theorem dX12_lessen_118 : decode cX12_lessen 118 = .ok (.ifCond .eq 38, 3) := by decide +kernel
theorem dX12_lessen_121 : decode cX12_lessen 121 = .ok (.aload_n 0, 1) := by decide +kernel
theorem dX12_lessen_122 : decode cX12_lessen 122 = .ok (.getfield 37, 3) := by decide +kernel
theorem dX12_lessen_125 : decode cX12_lessen 125 = .ok (.bipush 6, 2) := by decide +kernel
theorem dX12_lessen_127 : decode cX12_lessen 127 = .ok (.iload_n 2, 1) := by decide +kernel
theorem dX12_lessen_128 : decode cX12_lessen 128 = .ok (.imul, 1) := by decide +kernel
theorem dX12_lessen_129 : decode cX12_lessen 129 = .ok (.iload_n 3, 1) := by decide +kernel
theorem dX12_lessen_130 : decode cX12_lessen 130 = .ok (.iadd, 1) := by decide +kernel
theorem dX12_lessen_131 : decode cX12_lessen 131 = .ok (.dup2, 1) := by decide +kernel
theorem dX12_lessen_132 : decode cX12_lessen 132 = .ok (.iaload, 1) := by decide +kernel
theorem dX12_lessen_133 : decode cX12_lessen 133 = .ok (.iload 5, 2) := by decide +kernel
theorem dX12_lessen_135 : decode cX12_lessen 135 = .ok (.isub, 1) := by decide +kernel
theorem dX12_lessen_136 : decode cX12_lessen 136 = .ok (.iastore, 1) := by decide +kernel
theorem dX12_lessen_137 : decode cX12_lessen 137 = .ok (.aload_n 0, 1) := by decide +kernel
theorem dX12_lessen_138 : decode cX12_lessen 138 = .ok (.getfield 37, 3) := by decide +kernel
theorem dX12_lessen_141 : decode cX12_lessen 141 = .ok (.bipush 6, 2) := by decide +kernel
theorem dX12_lessen_143 : decode cX12_lessen 143 = .ok (.iload_n 3, 1) := by decide +kernel
theorem dX12_lessen_144 : decode cX12_lessen 144 = .ok (.imul, 1) := by decide +kernel
theorem dX12_lessen_145 : decode cX12_lessen 145 = .ok (.iload_n 1, 1) := by decide +kernel
theorem dX12_lessen_146 : decode cX12_lessen 146 = .ok (.iadd, 1) := by decide +kernel
theorem dX12_lessen_147 : decode cX12_lessen 147 = .ok (.dup2, 1) := by decide +kernel
theorem dX12_lessen_148 : decode cX12_lessen 148 = .ok (.iaload, 1) := by decide +kernel
theorem dX12_lessen_149 : decode cX12_lessen 149 = .ok (.iload 5, 2) := by decide +kernel
theorem dX12_lessen_151 : decode cX12_lessen 151 = .ok (.isub, 1) := by decide +kernel
theorem dX12_lessen_152 : decode cX12_lessen 152 = .ok (.iastore, 1) := by decide +kernel
theorem dX12_lessen_153 : decode cX12_lessen 153 = .ok (.goto 19, 3) := by decide +kernel
theorem dX12_lessen_156 : decode cX12_lessen 156 = .ok (.aload_n 0, 1) := by decide +kernel
theorem dX12_lessen_157 : decode cX12_lessen 157 = .ok (.getfield 37, 3) := by decide +kernel
theorem dX12_lessen_160 : decode cX12_lessen 160 = .ok (.bipush 6, 2) := by decide +kernel
theorem dX12_lessen_162 : decode cX12_lessen 162 = .ok (.iload_n 2, 1) := by decide +kernel
theorem dX12_lessen_163 : decode cX12_lessen 163 = .ok (.imul, 1) := by decide +kernel
theorem dX12_lessen_164 : decode cX12_lessen 164 = .ok (.iload_n 1, 1) := by decide +kernel
theorem dX12_lessen_165 : decode cX12_lessen 165 = .ok (.iadd, 1) := by decide +kernel
theorem dX12_lessen_166 : decode cX12_lessen 166 = .ok (.dup2, 1) := by decide +kernel
theorem dX12_lessen_167 : decode cX12_lessen 167 = .ok (.iaload, 1) := by decide +kernel
theorem dX12_lessen_168 : decode cX12_lessen 168 = .ok (.iload 5, 2) := by decide +kernel
theorem dX12_lessen_170 : decode cX12_lessen 170 = .ok (.isub, 1) := by decide +kernel
theorem dX12_lessen_171 : decode cX12_lessen 171 = .ok (.iastore, 1) := by decide +kernel
theorem dX12_lessen_172 : decode cX12_lessen 172 = .ok (.iload 5, 2) := by decide +kernel
theorem dX12_lessen_174 : decode cX12_lessen 174 = .ok (.ireturn, 1) := by decide +kernel
theorem dX12_strikeOne_0 : decode cX12_strikeOne 0 = .ok (.iconst 0, 1) := by decide +kernel
theorem dX12_strikeOne_1 : decode cX12_strikeOne 1 = .ok (.istore_n 1, 1) := by decide +kernel
theorem dX12_strikeOne_2 : decode cX12_strikeOne 2 = .ok (.iload_n 1, 1) := by decide +kernel
theorem dX12_strikeOne_3 : decode cX12_strikeOne 3 = .ok (.aload_n 0, 1) := by decide +kernel
theorem dX12_strikeOne_4 : decode cX12_strikeOne 4 = .ok (.getfield 77, 3) := by decide +kernel
theorem dX12_strikeOne_7 : decode cX12_strikeOne 7 = .ok (.if_icmp .ge 53, 3) := by decide +kernel
theorem dX12_strikeOne_10 : decode cX12_strikeOne 10 = .ok (.iload_n 1, 1) := by decide +kernel
theorem dX12_strikeOne_11 : decode cX12_strikeOne 11 = .ok (.iconst 1, 1) := by decide +kernel
theorem dX12_strikeOne_12 : decode cX12_strikeOne 12 = .ok (.iadd, 1) := by decide +kernel
theorem dX12_strikeOne_13 : decode cX12_strikeOne 13 = .ok (.istore_n 2, 1) := by decide +kernel
theorem dX12_strikeOne_14 : decode cX12_strikeOne 14 = .ok (.iload_n 2, 1) := by decide +kernel
theorem dX12_strikeOne_15 : decode cX12_strikeOne 15 = .ok (.aload_n 0, 1) := by decide +kernel
theorem dX12_strikeOne_16 : decode cX12_strikeOne 16 = .ok (.getfield 77, 3) := by decide +kernel
theorem dX12_strikeOne_19 : decode cX12_strikeOne 19 = .ok (.if_icmp .ge 35, 3) := by decide +kernel
theorem dX12_strikeOne_22 : decode cX12_strikeOne 22 = .ok (.aload_n 0, 1) := by decide +kernel
theorem dX12_strikeOne_23 : decode cX12_strikeOne 23 = .ok (.iload_n 1, 1) := by decide +kernel
theorem dX12_strikeOne_24 : decode cX12_strikeOne 24 = .ok (.iload_n 2, 1) := by decide +kernel
theorem dX12_strikeOne_25 : decode cX12_strikeOne 25 = .ok (.iconst (-1), 1) := by decide +kernel
theorem dX12_strikeOne_26 : decode cX12_strikeOne 26 = .ok (.invokevirtual 129, 3) := by decide +kernel
theorem dX12_strikeOne_29 : decode cX12_strikeOne 29 = .ok (.istore_n 3, 1) := by decide +kernel
theorem dX12_strikeOne_30 : decode cX12_strikeOne 30 = .ok (.iload_n 3, 1) := by decide +kernel
theorem dX12_strikeOne_31 : decode cX12_strikeOne 31 = .ok (.ifCond .le 17, 3) := by decide +kernel
theorem dX12_strikeOne_34 : decode cX12_strikeOne 34 = .ok (.aload_n 0, 1) := by decide +kernel
theorem dX12_strikeOne_35 : decode cX12_strikeOne 35 = .ok (.dup, 1) := by decide +kernel
theorem dX12_strikeOne_36 : decode cX12_strikeOne 36 = .ok (.getfield 133, 3) := by decide +kernel
theorem dX12_strikeOne_39 : decode cX12_strikeOne 39 = .ok (.iconst 2, 1) := by decide +kernel
theorem dX12_strikeOne_40 : decode cX12_strikeOne 40 = .ok (.iload_n 3, 1) := by decide +kernel
theorem dX12_strikeOne_41 : decode cX12_strikeOne 41 = .ok (.imul, 1) := by decide +kernel
theorem dX12_strikeOne_42 : decode cX12_strikeOne 42 = .ok (.iadd, 1) := by decide +kernel
theorem dX12_strikeOne_43 : decode cX12_strikeOne 43 = .ok (.putfield 133, 3) := by decide +kernel
theorem dX12_strikeOne_46 : decode cX12_strikeOne 46 = .ok (.iconst 1, 1) := by decide +kernel
theorem dX12_strikeOne_47 : decode cX12_strikeOne 47 = .ok (.ireturn, 1) := by decide +kernel
theorem dX12_strikeOne_48 : decode cX12_strikeOne 48 = .ok (.iinc 2 1, 3) := by decide +kernel
theorem dX12_strikeOne_51 : decode cX12_strikeOne 51 = .ok (.goto (-37), 3) := by decide +kernel
theorem dX12_strikeOne_54 : decode cX12_strikeOne 54 = .ok (.iinc 1 1, 3) := by decide +kernel
theorem dX12_strikeOne_57 : decode cX12_strikeOne 57 = .ok (.goto (-55), 3) := by decide +kernel
theorem dX12_strikeOne_60 : decode cX12_strikeOne 60 = .ok (.iconst 0, 1) := by decide +kernel
theorem dX12_strikeOne_61 : decode cX12_strikeOne 61 = .ok (.istore_n 1, 1) := by decide +kernel
theorem dX12_strikeOne_62 : decode cX12_strikeOne 62 = .ok (.iload_n 1, 1) := by decide +kernel
theorem dX12_strikeOne_63 : decode cX12_strikeOne 63 = .ok (.aload_n 0, 1) := by decide +kernel
theorem dX12_strikeOne_64 : decode cX12_strikeOne 64 = .ok (.getfield 77, 3) := by decide +kernel
theorem dX12_strikeOne_67 : decode cX12_strikeOne 67 = .ok (.if_icmp .ge 96, 3) := by decide +kernel
theorem dX12_strikeOne_70 : decode cX12_strikeOne 70 = .ok (.iconst 0, 1) := by decide +kernel
theorem dX12_strikeOne_71 : decode cX12_strikeOne 71 = .ok (.istore_n 2, 1) := by decide +kernel
theorem dX12_strikeOne_72 : decode cX12_strikeOne 72 = .ok (.iload_n 2, 1) := by decide +kernel
theorem dX12_strikeOne_73 : decode cX12_strikeOne 73 = .ok (.aload_n 0, 1) := by decide +kernel
theorem dX12_strikeOne_74 : decode cX12_strikeOne 74 = .ok (.getfield 77, 3) := by decide +kernel
theorem dX12_strikeOne_77 : decode cX12_strikeOne 77 = .ok (.aload_n 0, 1) := by decide +kernel
theorem dX12_strikeOne_78 : decode cX12_strikeOne 78 = .ok (.getfield 77, 3) := by decide +kernel
theorem dX12_strikeOne_81 : decode cX12_strikeOne 81 = .ok (.imul, 1) := by decide +kernel
theorem dX12_strikeOne_82 : decode cX12_strikeOne 82 = .ok (.if_icmp .ge 75, 3) := by decide +kernel
theorem dX12_strikeOne_85 : decode cX12_strikeOne 85 = .ok (.iload_n 2, 1) := by decide +kernel
theorem dX12_strikeOne_86 : decode cX12_strikeOne 86 = .ok (.aload_n 0, 1) := by decide +kernel
theorem dX12_strikeOne_87 : decode cX12_strikeOne 87 = .ok (.getfield 77, 3) := by decide +kernel
theorem dX12_strikeOne_90 : decode cX12_strikeOne 90 = .ok (.idiv, 1) := by decide +kernel
theorem dX12_strikeOne_91 : decode cX12_strikeOne 91 = .ok (.istore_n 3, 1) := by decide +kernel
theorem dX12_strikeOne_92 : decode cX12_strikeOne 92 = .ok (.iload_n 2, 1) := by decide +kernel
theorem dX12_strikeOne_93 : decode cX12_strikeOne 93 = .ok (.aload_n 0, 1) := by decide +kernel
theorem dX12_strikeOne_94 : decode cX12_strikeOne 94 = .ok (.getfield 77, 3) := by decide +kernel
theorem dX12_strikeOne_97 : decode cX12_strikeOne 97 = .ok (.irem, 1) := by decide +kernel
theorem dX12_strikeOne_98 : decode cX12_strikeOne 98 = .ok (.istore 4, 2) := by decide +kernel
theorem dX12_strikeOne_100 : decode cX12_strikeOne 100 = .ok (.iload_n 3, 1) := by decide +kernel
theorem dX12_strikeOne_101 : decode cX12_strikeOne 101 = .ok (.iload_n 1, 1) := by decide +kernel
theorem dX12_strikeOne_102 : decode cX12_strikeOne 102 = .ok (.if_icmp .le 26, 3) := by decide +kernel
theorem dX12_strikeOne_105 : decode cX12_strikeOne 105 = .ok (.iload 4, 2) := by decide +kernel
theorem dX12_strikeOne_107 : decode cX12_strikeOne 107 = .ok (.iload_n 1, 1) := by decide +kernel
theorem dX12_strikeOne_108 : decode cX12_strikeOne 108 = .ok (.if_icmp .le 20, 3) := by decide +kernel
theorem dX12_strikeOne_111 : decode cX12_strikeOne 111 = .ok (.iload_n 3, 1) := by decide +kernel
theorem dX12_strikeOne_112 : decode cX12_strikeOne 112 = .ok (.iload 4, 2) := by decide +kernel
theorem dX12_strikeOne_114 : decode cX12_strikeOne 114 = .ok (.if_icmp .eq 14, 3) := by decide +kernel
theorem dX12_strikeOne_117 : decode cX12_strikeOne 117 = .ok (.aload_n 0, 1) := by decide +kernel
theorem dX12_strikeOne_118 : decode cX12_strikeOne 118 = .ok (.iload_n 1, 1) := by decide +kernel
theorem dX12_strikeOne_119 : decode cX12_strikeOne 119 = .ok (.iload_n 3, 1) := by decide +kernel
theorem dX12_strikeOne_120 : decode cX12_strikeOne 120 = .ok (.iload 4, 2) := by decide +kernel
theorem dX12_strikeOne_122 : decode cX12_strikeOne 122 = .ok (.invokevirtual 129, 3) := by decide +kernel
theorem dX12_strikeOne_125 : decode cX12_strikeOne 125 = .ok (.goto 4, 3) := by decide +kernel
theorem dX12_strikeOne_128 : decode cX12_strikeOne 128 = .ok (.iconst 0, 1) := by decide +kernel
theorem dX12_strikeOne_129 : decode cX12_strikeOne 129 = .ok (.istore 5, 2) := by decide +kernel
theorem dX12_strikeOne_131 : decode cX12_strikeOne 131 = .ok (.iload 5, 2) := by decide +kernel
theorem dX12_strikeOne_133 : decode cX12_strikeOne 133 = .ok (.ifCond .le 18, 3) := by decide +kernel
theorem dX12_strikeOne_136 : decode cX12_strikeOne 136 = .ok (.aload_n 0, 1) := by decide +kernel
theorem dX12_strikeOne_137 : decode cX12_strikeOne 137 = .ok (.dup, 1) := by decide +kernel
theorem dX12_strikeOne_138 : decode cX12_strikeOne 138 = .ok (.getfield 133, 3) := by decide +kernel
theorem dX12_strikeOne_141 : decode cX12_strikeOne 141 = .ok (.iconst 3, 1) := by decide +kernel
theorem dX12_strikeOne_142 : decode cX12_strikeOne 142 = .ok (.iload 5, 2) := by decide +kernel
theorem dX12_strikeOne_144 : decode cX12_strikeOne 144 = .ok (.imul, 1) := by decide +kernel
theorem dX12_strikeOne_145 : decode cX12_strikeOne 145 = .ok (.iadd, 1) := by decide +kernel
theorem dX12_strikeOne_146 : decode cX12_strikeOne 146 = .ok (.putfield 133, 3) := by decide +kernel
theorem dX12_strikeOne_149 : decode cX12_strikeOne 149 = .ok (.iconst 1, 1) := by decide +kernel
theorem dX12_strikeOne_150 : decode cX12_strikeOne 150 = .ok (.ireturn, 1) := by decide +kernel
theorem dX12_strikeOne_151 : decode cX12_strikeOne 151 = .ok (.iinc 2 1, 3) := by decide +kernel
theorem dX12_strikeOne_154 : decode cX12_strikeOne 154 = .ok (.goto (-82), 3) := by decide +kernel
theorem dX12_strikeOne_157 : decode cX12_strikeOne 157 = .ok (.iinc 1 1, 3) := by decide +kernel
theorem dX12_strikeOne_160 : decode cX12_strikeOne 160 = .ok (.goto (-98), 3) := by decide +kernel
theorem dX12_strikeOne_163 : decode cX12_strikeOne 163 = .ok (.iconst 0, 1) := by decide +kernel
theorem dX12_strikeOne_164 : decode cX12_strikeOne 164 = .ok (.ireturn, 1) := by decide +kernel
theorem dX12_strikeAll_0 : decode cX12_strikeAll 0 = .ok (.aload_n 0, 1) := by decide +kernel
theorem dX12_strikeAll_1 : decode cX12_strikeAll 1 = .ok (.iconst 0, 1) := by decide +kernel
theorem dX12_strikeAll_2 : decode cX12_strikeAll 2 = .ok (.putfield 133, 3) := by decide +kernel
theorem dX12_strikeAll_5 : decode cX12_strikeAll 5 = .ok (.iconst 0, 1) := by decide +kernel
theorem dX12_strikeAll_6 : decode cX12_strikeAll 6 = .ok (.istore_n 1, 1) := by decide +kernel
theorem dX12_strikeAll_7 : decode cX12_strikeAll 7 = .ok (.aload_n 0, 1) := by decide +kernel
theorem dX12_strikeAll_8 : decode cX12_strikeAll 8 = .ok (.invokevirtual 136, 3) := by decide +kernel
theorem dX12_strikeAll_11 : decode cX12_strikeAll 11 = .ok (.ifCond .eq 9, 3) := by decide +kernel
theorem dX12_strikeAll_14 : decode cX12_strikeAll 14 = .ok (.iinc 1 1, 3) := by decide +kernel
theorem dX12_strikeAll_17 : decode cX12_strikeAll 17 = .ok (.goto (-10), 3) := by decide +kernel
theorem dX12_strikeAll_20 : decode cX12_strikeAll 20 = .ok (.iload_n 1, 1) := by decide +kernel
theorem dX12_strikeAll_21 : decode cX12_strikeAll 21 = .ok (.ireturn, 1) := by decide +kernel
theorem dX12_carry_0 : decode cX12_carry 0 = .ok (.aload_n 0, 1) := by decide +kernel
theorem dX12_carry_1 : decode cX12_carry 1 = .ok (.getfield 140, 3) := by decide +kernel
theorem dX12_carry_4 : decode cX12_carry 4 = .ok (.ifCond .eq 13, 3) := by decide +kernel
theorem dX12_carry_7 : decode cX12_carry 7 = .ok (.aload_n 0, 1) := by decide +kernel
theorem dX12_carry_8 : decode cX12_carry 8 = .ok (.getfield 144, 3) := by decide +kernel
theorem dX12_carry_11 : decode cX12_carry 11 = .ok (.aload_n 0, 1) := by decide +kernel
theorem dX12_carry_12 : decode cX12_carry 12 = .ok (.getfield 147, 3) := by decide +kernel
theorem dX12_carry_15 : decode cX12_carry 15 = .ok (.iload_n 1, 1) := by decide +kernel
theorem dX12_carry_16 : decode cX12_carry 16 = .ok (.iastore, 1) := by decide +kernel
theorem dX12_carry_17 : decode cX12_carry 17 = .ok (.aload_n 0, 1) := by decide +kernel
theorem dX12_carry_18 : decode cX12_carry 18 = .ok (.dup, 1) := by decide +kernel
theorem dX12_carry_19 : decode cX12_carry 19 = .ok (.getfield 147, 3) := by decide +kernel
theorem dX12_carry_22 : decode cX12_carry 22 = .ok (.iconst 1, 1) := by decide +kernel
theorem dX12_carry_23 : decode cX12_carry 23 = .ok (.iadd, 1) := by decide +kernel
theorem dX12_carry_24 : decode cX12_carry 24 = .ok (.putfield 147, 3) := by decide +kernel
theorem dX12_carry_27 : decode cX12_carry 27 = .ok (.aload_n 0, 1) := by decide +kernel
theorem dX12_carry_28 : decode cX12_carry 28 = .ok (.getfield 144, 3) := by decide +kernel
theorem dX12_carry_31 : decode cX12_carry 31 = .ok (.aload_n 0, 1) := by decide +kernel
theorem dX12_carry_32 : decode cX12_carry 32 = .ok (.getfield 147, 3) := by decide +kernel
theorem dX12_carry_35 : decode cX12_carry 35 = .ok (.iconst 1, 1) := by decide +kernel
theorem dX12_carry_36 : decode cX12_carry 36 = .ok (.isub, 1) := by decide +kernel
theorem dX12_carry_37 : decode cX12_carry 37 = .ok (.iaload, 1) := by decide +kernel
theorem dX12_carry_38 : decode cX12_carry 38 = .ok (.ireturn, 1) := by decide +kernel
theorem dX12_carryAll_0 : decode cX12_carryAll 0 = .ok (.aload_n 0, 1) := by decide +kernel
theorem dX12_carryAll_1 : decode cX12_carryAll 1 = .ok (.aload_n 1, 1) := by decide +kernel
theorem dX12_carryAll_2 : decode cX12_carryAll 2 = .ok (.putfield 144, 3) := by decide +kernel
theorem dX12_carryAll_5 : decode cX12_carryAll 5 = .ok (.aload_n 0, 1) := by decide +kernel
theorem dX12_carryAll_6 : decode cX12_carryAll 6 = .ok (.iload_n 2, 1) := by decide +kernel
theorem dX12_carryAll_7 : decode cX12_carryAll 7 = .ok (.putfield 140, 3) := by decide +kernel
theorem dX12_carryAll_10 : decode cX12_carryAll 10 = .ok (.aload_n 0, 1) := by decide +kernel
theorem dX12_carryAll_11 : decode cX12_carryAll 11 = .ok (.iconst 0, 1) := by decide +kernel
theorem dX12_carryAll_12 : decode cX12_carryAll 12 = .ok (.putfield 147, 3) := by decide +kernel
theorem dX12_carryAll_15 : decode cX12_carryAll 15 = .ok (.aload_n 0, 1) := by decide +kernel
theorem dX12_carryAll_16 : decode cX12_carryAll 16 = .ok (.aload_n 0, 1) := by decide +kernel
theorem dX12_carryAll_17 : decode cX12_carryAll 17 = .ok (.aload_n 0, 1) := by decide +kernel
theorem dX12_carryAll_18 : decode cX12_carryAll 18 = .ok (.getfield 77, 3) := by decide +kernel
theorem dX12_carryAll_21 : decode cX12_carryAll 21 = .ok (.invokevirtual 150, 3) := by decide +kernel
theorem dX12_carryAll_24 : decode cX12_carryAll 24 = .ok (.putfield 77, 3) := by decide +kernel
theorem dX12_carryAll_27 : decode cX12_carryAll 27 = .ok (.aload_n 0, 1) := by decide +kernel
theorem dX12_carryAll_28 : decode cX12_carryAll 28 = .ok (.aload_n 0, 1) := by decide +kernel
theorem dX12_carryAll_29 : decode cX12_carryAll 29 = .ok (.aload_n 0, 1) := by decide +kernel
theorem dX12_carryAll_30 : decode cX12_carryAll 30 = .ok (.getfield 97, 3) := by decide +kernel
theorem dX12_carryAll_33 : decode cX12_carryAll 33 = .ok (.invokevirtual 150, 3) := by decide +kernel
theorem dX12_carryAll_36 : decode cX12_carryAll 36 = .ok (.putfield 97, 3) := by decide +kernel
theorem dX12_carryAll_39 : decode cX12_carryAll 39 = .ok (.aload_n 0, 1) := by decide +kernel
theorem dX12_carryAll_40 : decode cX12_carryAll 40 = .ok (.aload_n 0, 1) := by decide +kernel
theorem dX12_carryAll_41 : decode cX12_carryAll 41 = .ok (.aload_n 0, 1) := by decide +kernel
theorem dX12_carryAll_42 : decode cX12_carryAll 42 = .ok (.getfield 122, 3) := by decide +kernel
theorem dX12_carryAll_45 : decode cX12_carryAll 45 = .ok (.invokevirtual 150, 3) := by decide +kernel
theorem dX12_carryAll_48 : decode cX12_carryAll 48 = .ok (.putfield 122, 3) := by decide +kernel
theorem dX12_carryAll_51 : decode cX12_carryAll 51 = .ok (.aload_n 0, 1) := by decide +kernel
theorem dX12_carryAll_52 : decode cX12_carryAll 52 = .ok (.aload_n 0, 1) := by decide +kernel
theorem dX12_carryAll_53 : decode cX12_carryAll 53 = .ok (.aload_n 0, 1) := by decide +kernel
theorem dX12_carryAll_54 : decode cX12_carryAll 54 = .ok (.getfield 153, 3) := by decide +kernel
theorem dX12_carryAll_57 : decode cX12_carryAll 57 = .ok (.invokevirtual 150, 3) := by decide +kernel
theorem dX12_carryAll_60 : decode cX12_carryAll 60 = .ok (.putfield 153, 3) := by decide +kernel
theorem dX12_carryAll_63 : decode cX12_carryAll 63 = .ok (.iconst 0, 1) := by decide +kernel
theorem dX12_carryAll_64 : decode cX12_carryAll 64 = .ok (.istore_n 3, 1) := by decide +kernel
theorem dX12_carryAll_65 : decode cX12_carryAll 65 = .ok (.iload_n 3, 1) := by decide +kernel
theorem dX12_carryAll_66 : decode cX12_carryAll 66 = .ok (.bipush 6, 2) := by decide +kernel
theorem dX12_carryAll_68 : decode cX12_carryAll 68 = .ok (.if_icmp .ge 137, 3) := by decide +kernel
theorem dX12_carryAll_71 : decode cX12_carryAll 71 = .ok (.aload_n 0, 1) := by decide +kernel
theorem dX12_carryAll_72 : decode cX12_carryAll 72 = .ok (.getfield 7, 3) := by decide +kernel
theorem dX12_carryAll_75 : decode cX12_carryAll 75 = .ok (.iload_n 3, 1) := by decide +kernel
theorem dX12_carryAll_76 : decode cX12_carryAll 76 = .ok (.aload_n 0, 1) := by decide +kernel
theorem dX12_carryAll_77 : decode cX12_carryAll 77 = .ok (.aload_n 0, 1) := by decide +kernel
theorem dX12_carryAll_78 : decode cX12_carryAll 78 = .ok (.getfield 7, 3) := by decide +kernel
theorem dX12_carryAll_81 : decode cX12_carryAll 81 = .ok (.iload_n 3, 1) := by decide +kernel
theorem dX12_carryAll_82 : decode cX12_carryAll 82 = .ok (.iaload, 1) := by decide +kernel
theorem dX12_carryAll_83 : decode cX12_carryAll 83 = .ok (.invokevirtual 150, 3) := by decide +kernel
theorem dX12_carryAll_86 : decode cX12_carryAll 86 = .ok (.iastore, 1) := by decide +kernel
theorem dX12_carryAll_87 : decode cX12_carryAll 87 = .ok (.aload_n 0, 1) := by decide +kernel
theorem dX12_carryAll_88 : decode cX12_carryAll 88 = .ok (.getfield 13, 3) := by decide +kernel
theorem dX12_carryAll_91 : decode cX12_carryAll 91 = .ok (.iload_n 3, 1) := by decide +kernel
theorem dX12_carryAll_92 : decode cX12_carryAll 92 = .ok (.aload_n 0, 1) := by decide +kernel
theorem dX12_carryAll_93 : decode cX12_carryAll 93 = .ok (.aload_n 0, 1) := by decide +kernel
theorem dX12_carryAll_94 : decode cX12_carryAll 94 = .ok (.getfield 13, 3) := by decide +kernel
theorem dX12_carryAll_97 : decode cX12_carryAll 97 = .ok (.iload_n 3, 1) := by decide +kernel
theorem dX12_carryAll_98 : decode cX12_carryAll 98 = .ok (.iaload, 1) := by decide +kernel
theorem dX12_carryAll_99 : decode cX12_carryAll 99 = .ok (.invokevirtual 150, 3) := by decide +kernel
theorem dX12_carryAll_102 : decode cX12_carryAll 102 = .ok (.iastore, 1) := by decide +kernel
theorem dX12_carryAll_103 : decode cX12_carryAll 103 = .ok (.aload_n 0, 1) := by decide +kernel
theorem dX12_carryAll_104 : decode cX12_carryAll 104 = .ok (.getfield 16, 3) := by decide +kernel
theorem dX12_carryAll_107 : decode cX12_carryAll 107 = .ok (.iload_n 3, 1) := by decide +kernel
theorem dX12_carryAll_108 : decode cX12_carryAll 108 = .ok (.aload_n 0, 1) := by decide +kernel
theorem dX12_carryAll_109 : decode cX12_carryAll 109 = .ok (.aload_n 0, 1) := by decide +kernel
theorem dX12_carryAll_110 : decode cX12_carryAll 110 = .ok (.getfield 16, 3) := by decide +kernel
theorem dX12_carryAll_113 : decode cX12_carryAll 113 = .ok (.iload_n 3, 1) := by decide +kernel
theorem dX12_carryAll_114 : decode cX12_carryAll 114 = .ok (.iaload, 1) := by decide +kernel
theorem dX12_carryAll_115 : decode cX12_carryAll 115 = .ok (.invokevirtual 150, 3) := by decide +kernel
theorem dX12_carryAll_118 : decode cX12_carryAll 118 = .ok (.iastore, 1) := by decide +kernel
theorem dX12_carryAll_119 : decode cX12_carryAll 119 = .ok (.aload_n 0, 1) := by decide +kernel
theorem dX12_carryAll_120 : decode cX12_carryAll 120 = .ok (.getfield 19, 3) := by decide +kernel
theorem dX12_carryAll_123 : decode cX12_carryAll 123 = .ok (.iload_n 3, 1) := by decide +kernel
theorem dX12_carryAll_124 : decode cX12_carryAll 124 = .ok (.aload_n 0, 1) := by decide +kernel
theorem dX12_carryAll_125 : decode cX12_carryAll 125 = .ok (.aload_n 0, 1) := by decide +kernel
theorem dX12_carryAll_126 : decode cX12_carryAll 126 = .ok (.getfield 19, 3) := by decide +kernel
theorem dX12_carryAll_129 : decode cX12_carryAll 129 = .ok (.iload_n 3, 1) := by decide +kernel
theorem dX12_carryAll_130 : decode cX12_carryAll 130 = .ok (.iaload, 1) := by decide +kernel
theorem dX12_carryAll_131 : decode cX12_carryAll 131 = .ok (.invokevirtual 150, 3) := by decide +kernel
theorem dX12_carryAll_134 : decode cX12_carryAll 134 = .ok (.iastore, 1) := by decide +kernel
theorem dX12_carryAll_135 : decode cX12_carryAll 135 = .ok (.aload_n 0, 1) := by decide +kernel
theorem dX12_carryAll_136 : decode cX12_carryAll 136 = .ok (.getfield 22, 3) := by decide +kernel
theorem dX12_carryAll_139 : decode cX12_carryAll 139 = .ok (.iload_n 3, 1) := by decide +kernel
theorem dX12_carryAll_140 : decode cX12_carryAll 140 = .ok (.aload_n 0, 1) := by decide +kernel
theorem dX12_carryAll_141 : decode cX12_carryAll 141 = .ok (.aload_n 0, 1) := by decide +kernel
theorem dX12_carryAll_142 : decode cX12_carryAll 142 = .ok (.getfield 22, 3) := by decide +kernel
theorem dX12_carryAll_145 : decode cX12_carryAll 145 = .ok (.iload_n 3, 1) := by decide +kernel
theorem dX12_carryAll_146 : decode cX12_carryAll 146 = .ok (.iaload, 1) := by decide +kernel
theorem dX12_carryAll_147 : decode cX12_carryAll 147 = .ok (.invokevirtual 150, 3) := by decide +kernel
theorem dX12_carryAll_150 : decode cX12_carryAll 150 = .ok (.iastore, 1) := by decide +kernel
theorem dX12_carryAll_151 : decode cX12_carryAll 151 = .ok (.aload_n 0, 1) := by decide +kernel
theorem dX12_carryAll_152 : decode cX12_carryAll 152 = .ok (.getfield 25, 3) := by decide +kernel
theorem dX12_carryAll_155 : decode cX12_carryAll 155 = .ok (.iload_n 3, 1) := by decide +kernel
theorem dX12_carryAll_156 : decode cX12_carryAll 156 = .ok (.aload_n 0, 1) := by decide +kernel
theorem dX12_carryAll_157 : decode cX12_carryAll 157 = .ok (.aload_n 0, 1) := by decide +kernel
theorem dX12_carryAll_158 : decode cX12_carryAll 158 = .ok (.getfield 25, 3) := by decide +kernel
theorem dX12_carryAll_161 : decode cX12_carryAll 161 = .ok (.iload_n 3, 1) := by decide +kernel
theorem dX12_carryAll_162 : decode cX12_carryAll 162 = .ok (.iaload, 1) := by decide +kernel
theorem dX12_carryAll_163 : decode cX12_carryAll 163 = .ok (.invokevirtual 150, 3) := by decide +kernel
theorem dX12_carryAll_166 : decode cX12_carryAll 166 = .ok (.iastore, 1) := by decide +kernel
theorem dX12_carryAll_167 : decode cX12_carryAll 167 = .ok (.aload_n 0, 1) := by decide +kernel
theorem dX12_carryAll_168 : decode cX12_carryAll 168 = .ok (.getfield 28, 3) := by decide +kernel
theorem dX12_carryAll_171 : decode cX12_carryAll 171 = .ok (.iload_n 3, 1) := by decide +kernel
theorem dX12_carryAll_172 : decode cX12_carryAll 172 = .ok (.aload_n 0, 1) := by decide +kernel
theorem dX12_carryAll_173 : decode cX12_carryAll 173 = .ok (.aload_n 0, 1) := by decide +kernel
theorem dX12_carryAll_174 : decode cX12_carryAll 174 = .ok (.getfield 28, 3) := by decide +kernel
theorem dX12_carryAll_177 : decode cX12_carryAll 177 = .ok (.iload_n 3, 1) := by decide +kernel
theorem dX12_carryAll_178 : decode cX12_carryAll 178 = .ok (.iaload, 1) := by decide +kernel
theorem dX12_carryAll_179 : decode cX12_carryAll 179 = .ok (.invokevirtual 150, 3) := by decide +kernel
theorem dX12_carryAll_182 : decode cX12_carryAll 182 = .ok (.iastore, 1) := by decide +kernel
theorem dX12_carryAll_183 : decode cX12_carryAll 183 = .ok (.aload_n 0, 1) := by decide +kernel
theorem dX12_carryAll_184 : decode cX12_carryAll 184 = .ok (.getfield 31, 3) := by decide +kernel
theorem dX12_carryAll_187 : decode cX12_carryAll 187 = .ok (.iload_n 3, 1) := by decide +kernel
theorem dX12_carryAll_188 : decode cX12_carryAll 188 = .ok (.aload_n 0, 1) := by decide +kernel
theorem dX12_carryAll_189 : decode cX12_carryAll 189 = .ok (.aload_n 0, 1) := by decide +kernel
theorem dX12_carryAll_190 : decode cX12_carryAll 190 = .ok (.getfield 31, 3) := by decide +kernel
theorem dX12_carryAll_193 : decode cX12_carryAll 193 = .ok (.iload_n 3, 1) := by decide +kernel
theorem dX12_carryAll_194 : decode cX12_carryAll 194 = .ok (.iaload, 1) := by decide +kernel
theorem dX12_carryAll_195 : decode cX12_carryAll 195 = .ok (.invokevirtual 150, 3) := by decide +kernel
theorem dX12_carryAll_198 : decode cX12_carryAll 198 = .ok (.iastore, 1) := by decide +kernel
theorem dX12_carryAll_199 : decode cX12_carryAll 199 = .ok (.iinc 3 1, 3) := by decide +kernel
theorem dX12_carryAll_202 : decode cX12_carryAll 202 = .ok (.goto (-137), 3) := by decide +kernel
theorem dX12_carryAll_205 : decode cX12_carryAll 205 = .ok (.iconst 0, 1) := by decide +kernel
theorem dX12_carryAll_206 : decode cX12_carryAll 206 = .ok (.istore_n 3, 1) := by decide +kernel
theorem dX12_carryAll_207 : decode cX12_carryAll 207 = .ok (.iload_n 3, 1) := by decide +kernel
theorem dX12_carryAll_208 : decode cX12_carryAll 208 = .ok (.bipush 36, 2) := by decide +kernel
theorem dX12_carryAll_210 : decode cX12_carryAll 210 = .ok (.if_icmp .ge 25, 3) := by decide +kernel
theorem dX12_carryAll_213 : decode cX12_carryAll 213 = .ok (.aload_n 0, 1) := by decide +kernel
theorem dX12_carryAll_214 : decode cX12_carryAll 214 = .ok (.getfield 37, 3) := by decide +kernel
theorem dX12_carryAll_217 : decode cX12_carryAll 217 = .ok (.iload_n 3, 1) := by decide +kernel
theorem dX12_carryAll_218 : decode cX12_carryAll 218 = .ok (.aload_n 0, 1) := by decide +kernel
theorem dX12_carryAll_219 : decode cX12_carryAll 219 = .ok (.aload_n 0, 1) := by decide +kernel
theorem dX12_carryAll_220 : decode cX12_carryAll 220 = .ok (.getfield 37, 3) := by decide +kernel
theorem dX12_carryAll_223 : decode cX12_carryAll 223 = .ok (.iload_n 3, 1) := by decide +kernel
theorem dX12_carryAll_224 : decode cX12_carryAll 224 = .ok (.iaload, 1) := by decide +kernel
theorem dX12_carryAll_225 : decode cX12_carryAll 225 = .ok (.invokevirtual 150, 3) := by decide +kernel
theorem dX12_carryAll_228 : decode cX12_carryAll 228 = .ok (.iastore, 1) := by decide +kernel
theorem dX12_carryAll_229 : decode cX12_carryAll 229 = .ok (.iinc 3 1, 3) := by decide +kernel
theorem dX12_carryAll_232 : decode cX12_carryAll 232 = .ok (.goto (-25), 3) := by decide +kernel
theorem dX12_carryAll_235 : decode cX12_carryAll 235 = .ok (.iconst 0, 1) := by decide +kernel
theorem dX12_carryAll_236 : decode cX12_carryAll 236 = .ok (.istore_n 3, 1) := by decide +kernel
theorem dX12_carryAll_237 : decode cX12_carryAll 237 = .ok (.iload_n 3, 1) := by decide +kernel
theorem dX12_carryAll_238 : decode cX12_carryAll 238 = .ok (.bipush 18, 2) := by decide +kernel
theorem dX12_carryAll_240 : decode cX12_carryAll 240 = .ok (.if_icmp .ge 25, 3) := by decide +kernel
theorem dX12_carryAll_243 : decode cX12_carryAll 243 = .ok (.aload_n 0, 1) := by decide +kernel
theorem dX12_carryAll_244 : decode cX12_carryAll 244 = .ok (.getfield 34, 3) := by decide +kernel
theorem dX12_carryAll_247 : decode cX12_carryAll 247 = .ok (.iload_n 3, 1) := by decide +kernel
theorem dX12_carryAll_248 : decode cX12_carryAll 248 = .ok (.aload_n 0, 1) := by decide +kernel
theorem dX12_carryAll_249 : decode cX12_carryAll 249 = .ok (.aload_n 0, 1) := by decide +kernel
theorem dX12_carryAll_250 : decode cX12_carryAll 250 = .ok (.getfield 34, 3) := by decide +kernel
theorem dX12_carryAll_253 : decode cX12_carryAll 253 = .ok (.iload_n 3, 1) := by decide +kernel
theorem dX12_carryAll_254 : decode cX12_carryAll 254 = .ok (.iaload, 1) := by decide +kernel
theorem dX12_carryAll_255 : decode cX12_carryAll 255 = .ok (.invokevirtual 150, 3) := by decide +kernel
theorem dX12_carryAll_258 : decode cX12_carryAll 258 = .ok (.iastore, 1) := by decide +kernel
theorem dX12_carryAll_259 : decode cX12_carryAll 259 = .ok (.iinc 3 1, 3) := by decide +kernel
theorem dX12_carryAll_262 : decode cX12_carryAll 262 = .ok (.goto (-25), 3) := by decide +kernel
theorem dX12_carryAll_265 : decode cX12_carryAll 265 = .ok (.iconst 0, 1) := by decide +kernel
theorem dX12_carryAll_266 : decode cX12_carryAll 266 = .ok (.istore_n 3, 1) := by decide +kernel
theorem dX12_carryAll_267 : decode cX12_carryAll 267 = .ok (.iload_n 3, 1) := by decide +kernel
theorem dX12_carryAll_268 : decode cX12_carryAll 268 = .ok (.iconst 3, 1) := by decide +kernel
theorem dX12_carryAll_269 : decode cX12_carryAll 269 = .ok (.if_icmp .ge 25, 3) := by decide +kernel
theorem dX12_carryAll_272 : decode cX12_carryAll 272 = .ok (.aload_n 0, 1) := by decide +kernel
theorem dX12_carryAll_273 : decode cX12_carryAll 273 = .ok (.getfield 40, 3) := by decide +kernel
theorem dX12_carryAll_276 : decode cX12_carryAll 276 = .ok (.iload_n 3, 1) := by decide +kernel
theorem dX12_carryAll_277 : decode cX12_carryAll 277 = .ok (.aload_n 0, 1) := by decide +kernel
theorem dX12_carryAll_278 : decode cX12_carryAll 278 = .ok (.aload_n 0, 1) := by decide +kernel
theorem dX12_carryAll_279 : decode cX12_carryAll 279 = .ok (.getfield 40, 3) := by decide +kernel
theorem dX12_carryAll_282 : decode cX12_carryAll 282 = .ok (.iload_n 3, 1) := by decide +kernel
theorem dX12_carryAll_283 : decode cX12_carryAll 283 = .ok (.iaload, 1) := by decide +kernel
theorem dX12_carryAll_284 : decode cX12_carryAll 284 = .ok (.invokevirtual 150, 3) := by decide +kernel
theorem dX12_carryAll_287 : decode cX12_carryAll 287 = .ok (.iastore, 1) := by decide +kernel
theorem dX12_carryAll_288 : decode cX12_carryAll 288 = .ok (.iinc 3 1, 3) := by decide +kernel
theorem dX12_carryAll_291 : decode cX12_carryAll 291 = .ok (.goto (-24), 3) := by decide +kernel
theorem dX12_carryAll_294 : decode cX12_carryAll 294 = .ok (.return_, 1) := by decide +kernel
theorem dX12_open_0 : decode cX12_open 0 = .ok (.aload_n 0, 1) := by decide +kernel
theorem dX12_open_1 : decode cX12_open 1 = .ok (.aload_n 0, 1) := by decide +kernel
theorem dX12_open_2 : decode cX12_open 2 = .ok (.getfield 49, 3) := by decide +kernel
theorem dX12_open_5 : decode cX12_open 5 = .ok (.iconst 1, 1) := by decide +kernel
theorem dX12_open_6 : decode cX12_open 6 = .ok (.invokevirtual 156, 3) := by decide +kernel
theorem dX12_open_9 : decode cX12_open 9 = .ok (.iconst 0, 1) := by decide +kernel
theorem dX12_open_10 : decode cX12_open 10 = .ok (.istore_n 1, 1) := by decide +kernel
theorem dX12_open_11 : decode cX12_open 11 = .ok (.iload_n 1, 1) := by decide +kernel
theorem dX12_open_12 : decode cX12_open 12 = .ok (.bipush 6, 2) := by decide +kernel
theorem dX12_open_14 : decode cX12_open 14 = .ok (.if_icmp .ge 16, 3) := by decide +kernel
theorem dX12_open_17 : decode cX12_open 17 = .ok (.aload_n 0, 1) := by decide +kernel
theorem dX12_open_18 : decode cX12_open 18 = .ok (.getfield 46, 3) := by decide +kernel
theorem dX12_open_21 : decode cX12_open 21 = .ok (.iload_n 1, 1) := by decide +kernel
theorem dX12_open_22 : decode cX12_open 22 = .ok (.iconst 0, 1) := by decide +kernel
theorem dX12_open_23 : decode cX12_open 23 = .ok (.iastore, 1) := by decide +kernel
theorem dX12_open_24 : decode cX12_open 24 = .ok (.iinc 1 1, 3) := by decide +kernel
theorem dX12_open_27 : decode cX12_open 27 = .ok (.goto (-16), 3) := by decide +kernel
theorem dX12_open_30 : decode cX12_open 30 = .ok (.return_, 1) := by decide +kernel
theorem dX12_close_0 : decode cX12_close 0 = .ok (.aload_n 0, 1) := by decide +kernel
theorem dX12_close_1 : decode cX12_close 1 = .ok (.aload_n 0, 1) := by decide +kernel
theorem dX12_close_2 : decode cX12_close 2 = .ok (.getfield 49, 3) := by decide +kernel
theorem dX12_close_5 : decode cX12_close 5 = .ok (.iconst 0, 1) := by decide +kernel
theorem dX12_close_6 : decode cX12_close 6 = .ok (.invokevirtual 156, 3) := by decide +kernel
theorem dX12_close_9 : decode cX12_close 9 = .ok (.return_, 1) := by decide +kernel
theorem dX12_image_0 : decode cX12_image 0 = .ok (.aload_n 0, 1) := by decide +kernel
theorem dX12_image_1 : decode cX12_image 1 = .ok (.iconst 0, 1) := by decide +kernel
theorem dX12_image_2 : decode cX12_image 2 = .ok (.putfield 73, 3) := by decide +kernel
theorem dX12_image_5 : decode cX12_image 5 = .ok (.aload_n 0, 1) := by decide +kernel
theorem dX12_image_6 : decode cX12_image 6 = .ok (.iconst 1, 1) := by decide +kernel
theorem dX12_image_7 : decode cX12_image 7 = .ok (.putfield 160, 3) := by decide +kernel
theorem dX12_image_10 : decode cX12_image 10 = .ok (.aload_n 0, 1) := by decide +kernel
theorem dX12_image_11 : decode cX12_image 11 = .ok (.aload_n 0, 1) := by decide +kernel
theorem dX12_image_12 : decode cX12_image 12 = .ok (.getfield 52, 3) := by decide +kernel
theorem dX12_image_15 : decode cX12_image 15 = .ok (.iconst 1, 1) := by decide +kernel
theorem dX12_image_16 : decode cX12_image 16 = .ok (.invokevirtual 156, 3) := by decide +kernel
theorem dX12_image_19 : decode cX12_image 19 = .ok (.aload_n 0, 1) := by decide +kernel
theorem dX12_image_20 : decode cX12_image 20 = .ok (.getfield 122, 3) := by decide +kernel
theorem dX12_image_23 : decode cX12_image 23 = .ok (.ireturn, 1) := by decide +kernel
theorem dX12_restore_0 : decode cX12_restore 0 = .ok (.aload_n 0, 1) := by decide +kernel
theorem dX12_restore_1 : decode cX12_restore 1 = .ok (.iconst 0, 1) := by decide +kernel
theorem dX12_restore_2 : decode cX12_restore 2 = .ok (.putfield 73, 3) := by decide +kernel
theorem dX12_restore_5 : decode cX12_restore 5 = .ok (.aload_n 0, 1) := by decide +kernel
theorem dX12_restore_6 : decode cX12_restore 6 = .ok (.getfield 160, 3) := by decide +kernel
theorem dX12_restore_9 : decode cX12_restore 9 = .ok (.ifCond .ne 10, 3) := by decide +kernel
theorem dX12_restore_12 : decode cX12_restore 12 = .ok (.aload_n 0, 1) := by decide +kernel
theorem dX12_restore_13 : decode cX12_restore 13 = .ok (.bipush (-3), 2) := by decide +kernel
theorem dX12_restore_15 : decode cX12_restore 15 = .ok (.invokevirtual 163, 3) := by decide +kernel
theorem dX12_restore_18 : decode cX12_restore 18 = .ok (.ireturn, 1) := by decide +kernel
theorem dX12_restore_19 : decode cX12_restore 19 = .ok (.aload_n 0, 1) := by decide +kernel
theorem dX12_restore_20 : decode cX12_restore 20 = .ok (.aload_n 0, 1) := by decide +kernel
theorem dX12_restore_21 : decode cX12_restore 21 = .ok (.getfield 52, 3) := by decide +kernel
theorem dX12_restore_24 : decode cX12_restore 24 = .ok (.iconst 0, 1) := by decide +kernel
theorem dX12_restore_25 : decode cX12_restore 25 = .ok (.invokevirtual 156, 3) := by decide +kernel
theorem dX12_restore_28 : decode cX12_restore 28 = .ok (.aload_n 0, 1) := by decide +kernel
theorem dX12_restore_29 : decode cX12_restore 29 = .ok (.getfield 122, 3) := by decide +kernel
theorem dX12_restore_32 : decode cX12_restore 32 = .ok (.ireturn, 1) := by decide +kernel
theorem dX12_feed_0 : decode cX12_feed 0 = .ok (.aload_n 0, 1) := by decide +kernel
theorem dX12_feed_1 : decode cX12_feed 1 = .ok (.iconst 0, 1) := by decide +kernel
theorem dX12_feed_2 : decode cX12_feed 2 = .ok (.putfield 73, 3) := by decide +kernel
theorem dX12_feed_5 : decode cX12_feed 5 = .ok (.iload_n 1, 1) := by decide +kernel
theorem dX12_feed_6 : decode cX12_feed 6 = .ok (.ifCond .ge 10, 3) := by decide +kernel
theorem dX12_feed_9 : decode cX12_feed 9 = .ok (.aload_n 0, 1) := by decide +kernel
theorem dX12_feed_10 : decode cX12_feed 10 = .ok (.bipush (-4), 2) := by decide +kernel
theorem dX12_feed_12 : decode cX12_feed 12 = .ok (.invokevirtual 163, 3) := by decide +kernel
theorem dX12_feed_15 : decode cX12_feed 15 = .ok (.ireturn, 1) := by decide +kernel
theorem dX12_feed_16 : decode cX12_feed 16 = .ok (.iload_n 1, 1) := by decide +kernel
theorem dX12_feed_17 : decode cX12_feed 17 = .ok (.sipush 255, 3) := by decide +kernel
theorem dX12_feed_20 : decode cX12_feed 20 = .ok (.if_icmp .gt 12, 3) := by decide +kernel
theorem dX12_feed_23 : decode cX12_feed 23 = .ok (.aload_n 0, 1) := by decide +kernel
theorem dX12_feed_24 : decode cX12_feed 24 = .ok (.getfield 166, 3) := by decide +kernel
theorem dX12_feed_27 : decode cX12_feed 27 = .ok (.bipush 96, 2) := by decide +kernel
theorem dX12_feed_29 : decode cX12_feed 29 = .ok (.if_icmp .ne 10, 3) := by decide +kernel
theorem dX12_feed_32 : decode cX12_feed 32 = .ok (.aload_n 0, 1) := by decide +kernel
theorem dX12_feed_33 : decode cX12_feed 33 = .ok (.bipush (-6), 2) := by decide +kernel
theorem dX12_feed_35 : decode cX12_feed 35 = .ok (.invokevirtual 163, 3) := by decide +kernel
theorem dX12_feed_38 : decode cX12_feed 38 = .ok (.ireturn, 1) := by decide +kernel
theorem dX12_feed_39 : decode cX12_feed 39 = .ok (.aload_n 0, 1) := by decide +kernel
theorem dX12_feed_40 : decode cX12_feed 40 = .ok (.getfield 55, 3) := by decide +kernel
theorem dX12_feed_43 : decode cX12_feed 43 = .ok (.aload_n 0, 1) := by decide +kernel
theorem dX12_feed_44 : decode cX12_feed 44 = .ok (.getfield 166, 3) := by decide +kernel
theorem dX12_feed_47 : decode cX12_feed 47 = .ok (.iload_n 1, 1) := by decide +kernel
theorem dX12_feed_48 : decode cX12_feed 48 = .ok (.iastore, 1) := by decide +kernel
theorem dX12_feed_49 : decode cX12_feed 49 = .ok (.aload_n 0, 1) := by decide +kernel
theorem dX12_feed_50 : decode cX12_feed 50 = .ok (.dup, 1) := by decide +kernel
theorem dX12_feed_51 : decode cX12_feed 51 = .ok (.getfield 166, 3) := by decide +kernel
theorem dX12_feed_54 : decode cX12_feed 54 = .ok (.iconst 1, 1) := by decide +kernel
theorem dX12_feed_55 : decode cX12_feed 55 = .ok (.iadd, 1) := by decide +kernel
theorem dX12_feed_56 : decode cX12_feed 56 = .ok (.putfield 166, 3) := by decide +kernel
theorem dX12_feed_59 : decode cX12_feed 59 = .ok (.aload_n 0, 1) := by decide +kernel
theorem dX12_feed_60 : decode cX12_feed 60 = .ok (.getfield 166, 3) := by decide +kernel
theorem dX12_feed_63 : decode cX12_feed 63 = .ok (.ireturn, 1) := by decide +kernel
theorem dX12_here_0 : decode cX12_here 0 = .ok (.aload_n 0, 1) := by decide +kernel
theorem dX12_here_1 : decode cX12_here 1 = .ok (.getfield 169, 3) := by decide +kernel
theorem dX12_here_4 : decode cX12_here 4 = .ok (.aload_n 0, 1) := by decide +kernel
theorem dX12_here_5 : decode cX12_here 5 = .ok (.getfield 166, 3) := by decide +kernel
theorem dX12_here_8 : decode cX12_here 8 = .ok (.if_icmp .ge 15, 3) := by decide +kernel
theorem dX12_here_11 : decode cX12_here 11 = .ok (.aload_n 0, 1) := by decide +kernel
theorem dX12_here_12 : decode cX12_here 12 = .ok (.getfield 55, 3) := by decide +kernel
theorem dX12_here_15 : decode cX12_here 15 = .ok (.aload_n 0, 1) := by decide +kernel
theorem dX12_here_16 : decode cX12_here 16 = .ok (.getfield 169, 3) := by decide +kernel
theorem dX12_here_19 : decode cX12_here 19 = .ok (.iaload, 1) := by decide +kernel
theorem dX12_here_20 : decode cX12_here 20 = .ok (.goto 4, 3) := by decide +kernel
theorem dX12_here_23 : decode cX12_here 23 = .ok (.iconst (-1), 1) := by decide +kernel
theorem dX12_here_24 : decode cX12_here 24 = .ok (.ireturn, 1) := by decide +kernel
theorem dX12_readDigit_0 : decode cX12_readDigit 0 = .ok (.aload_n 0, 1) := by decide +kernel
theorem dX12_readDigit_1 : decode cX12_readDigit 1 = .ok (.aload_n 0, 1) := by decide +kernel
theorem dX12_readDigit_2 : decode cX12_readDigit 2 = .ok (.getfield 172, 3) := by decide +kernel
theorem dX12_readDigit_5 : decode cX12_readDigit 5 = .ok (.ifCond .ne 20, 3) := by decide +kernel
theorem dX12_readDigit_8 : decode cX12_readDigit 8 = .ok (.aload_n 0, 1) := by decide +kernel
theorem dX12_readDigit_9 : decode cX12_readDigit 9 = .ok (.invokevirtual 175, 3) := by decide +kernel
theorem dX12_readDigit_12 : decode cX12_readDigit 12 = .ok (.i2l, 1) := by decide +kernel
theorem dX12_readDigit_13 : decode cX12_readDigit 13 = .ok (.ldc2_w 179, 3) := by decide +kernel
theorem dX12_readDigit_16 : decode cX12_readDigit 16 = .ok (.ldc2_w 181, 3) := by decide +kernel
theorem dX12_readDigit_19 : decode cX12_readDigit 19 = .ok (.invokestatic 80, 3) := by decide +kernel
theorem dX12_readDigit_22 : decode cX12_readDigit 22 = .ok (.ifCond .ne 7, 3) := by decide +kernel
theorem dX12_readDigit_25 : decode cX12_readDigit 25 = .ok (.iconst 1, 1) := by decide +kernel
theorem dX12_readDigit_26 : decode cX12_readDigit 26 = .ok (.goto 4, 3) := by decide +kernel
theorem dX12_readDigit_29 : decode cX12_readDigit 29 = .ok (.iconst 0, 1) := by decide +kernel
theorem dX12_readDigit_30 : decode cX12_readDigit 30 = .ok (.putfield 172, 3) := by decide +kernel
theorem dX12_readDigit_33 : decode cX12_readDigit 33 = .ok (.aload_n 0, 1) := by decide +kernel
theorem dX12_readDigit_34 : decode cX12_readDigit 34 = .ok (.getfield 172, 3) := by decide +kernel
theorem dX12_readDigit_37 : decode cX12_readDigit 37 = .ok (.ifCond .eq 5, 3) := by decide +kernel
theorem dX12_readDigit_40 : decode cX12_readDigit 40 = .ok (.iconst 0, 1) := by decide +kernel
theorem dX12_readDigit_41 : decode cX12_readDigit 41 = .ok (.ireturn, 1) := by decide +kernel
theorem dX12_readDigit_42 : decode cX12_readDigit 42 = .ok (.aload_n 0, 1) := by decide +kernel
theorem dX12_readDigit_43 : decode cX12_readDigit 43 = .ok (.dup, 1) := by decide +kernel
theorem dX12_readDigit_44 : decode cX12_readDigit 44 = .ok (.getfield 169, 3) := by decide +kernel
theorem dX12_readDigit_47 : decode cX12_readDigit 47 = .ok (.iconst 1, 1) := by decide +kernel
theorem dX12_readDigit_48 : decode cX12_readDigit 48 = .ok (.iadd, 1) := by decide +kernel
theorem dX12_readDigit_49 : decode cX12_readDigit 49 = .ok (.putfield 169, 3) := by decide +kernel
theorem dX12_readDigit_52 : decode cX12_readDigit 52 = .ok (.aload_n 0, 1) := by decide +kernel
theorem dX12_readDigit_53 : decode cX12_readDigit 53 = .ok (.getfield 55, 3) := by decide +kernel
theorem dX12_readDigit_56 : decode cX12_readDigit 56 = .ok (.aload_n 0, 1) := by decide +kernel
theorem dX12_readDigit_57 : decode cX12_readDigit 57 = .ok (.getfield 169, 3) := by decide +kernel
theorem dX12_readDigit_60 : decode cX12_readDigit 60 = .ok (.iconst 1, 1) := by decide +kernel
theorem dX12_readDigit_61 : decode cX12_readDigit 61 = .ok (.isub, 1) := by decide +kernel
theorem dX12_readDigit_62 : decode cX12_readDigit 62 = .ok (.iaload, 1) := by decide +kernel
theorem dX12_readDigit_63 : decode cX12_readDigit 63 = .ok (.bipush 48, 2) := by decide +kernel
theorem dX12_readDigit_65 : decode cX12_readDigit 65 = .ok (.isub, 1) := by decide +kernel
theorem dX12_readDigit_66 : decode cX12_readDigit 66 = .ok (.ireturn, 1) := by decide +kernel
theorem dX12_readNumber_0 : decode cX12_readNumber 0 = .ok (.aload_n 0, 1) := by decide +kernel
theorem dX12_readNumber_1 : decode cX12_readNumber 1 = .ok (.invokevirtual 183, 3) := by decide +kernel
theorem dX12_readNumber_4 : decode cX12_readNumber 4 = .ok (.istore_n 2, 1) := by decide +kernel
theorem dX12_readNumber_5 : decode cX12_readNumber 5 = .ok (.iconst 1, 1) := by decide +kernel
theorem dX12_readNumber_6 : decode cX12_readNumber 6 = .ok (.istore_n 3, 1) := by decide +kernel
theorem dX12_readNumber_7 : decode cX12_readNumber 7 = .ok (.iload_n 3, 1) := by decide +kernel
theorem dX12_readNumber_8 : decode cX12_readNumber 8 = .ok (.iload_n 1, 1) := by decide +kernel
theorem dX12_readNumber_9 : decode cX12_readNumber 9 = .ok (.if_icmp .ge 43, 3) := by decide +kernel
theorem dX12_readNumber_12 : decode cX12_readNumber 12 = .ok (.aload_n 0, 1) := by decide +kernel
theorem dX12_readNumber_13 : decode cX12_readNumber 13 = .ok (.getfield 172, 3) := by decide +kernel
theorem dX12_readNumber_16 : decode cX12_readNumber 16 = .ok (.ifCond .ne 36, 3) := by decide +kernel
theorem dX12_readNumber_19 : decode cX12_readNumber 19 = .ok (.aload_n 0, 1) := by decide +kernel
theorem dX12_readNumber_20 : decode cX12_readNumber 20 = .ok (.invokevirtual 175, 3) := by decide +kernel
theorem dX12_readNumber_23 : decode cX12_readNumber 23 = .ok (.i2l, 1) := by decide +kernel
theorem dX12_readNumber_24 : decode cX12_readNumber 24 = .ok (.ldc2_w 179, 3) := by decide +kernel
theorem dX12_readNumber_27 : decode cX12_readNumber 27 = .ok (.ldc2_w 181, 3) := by decide +kernel
theorem dX12_readNumber_30 : decode cX12_readNumber 30 = .ok (.invokestatic 80, 3) := by decide +kernel
theorem dX12_readNumber_33 : decode cX12_readNumber 33 = .ok (.ifCond .eq 19, 3) := by decide +kernel
theorem dX12_readNumber_36 : decode cX12_readNumber 36 = .ok (.bipush 10, 2) := by decide +kernel
theorem dX12_readNumber_38 : decode cX12_readNumber 38 = .ok (.iload_n 2, 1) := by decide +kernel
theorem dX12_readNumber_39 : decode cX12_readNumber 39 = .ok (.imul, 1) := by decide +kernel
theorem dX12_readNumber_40 : decode cX12_readNumber 40 = .ok (.aload_n 0, 1) := by decide +kernel
theorem dX12_readNumber_41 : decode cX12_readNumber 41 = .ok (.invokevirtual 183, 3) := by decide +kernel
theorem dX12_readNumber_44 : decode cX12_readNumber 44 = .ok (.iadd, 1) := by decide +kernel
theorem dX12_readNumber_45 : decode cX12_readNumber 45 = .ok (.istore_n 2, 1) := by decide +kernel
theorem dX12_readNumber_46 : decode cX12_readNumber 46 = .ok (.iinc 3 1, 3) := by decide +kernel
theorem dX12_readNumber_49 : decode cX12_readNumber 49 = .ok (.goto (-42), 3) := by decide +kernel
theorem dX12_readNumber_52 : decode cX12_readNumber 52 = .ok (.iload_n 2, 1) := by decide +kernel
theorem dX12_readNumber_53 : decode cX12_readNumber 53 = .ok (.ireturn, 1) := by decide +kernel
theorem dX12_readStatement_0 : decode cX12_readStatement 0 = .ok (.aload_n 0, 1) := by decide +kernel
theorem dX12_readStatement_1 : decode cX12_readStatement 1 = .ok (.getfield 186, 3) := by decide +kernel
theorem dX12_readStatement_4 : decode cX12_readStatement 4 = .ok (.istore_n 1, 1) := by decide +kernel
theorem dX12_readStatement_5 : decode cX12_readStatement 5 = .ok (.aload_n 0, 1) := by decide +kernel
theorem dX12_readStatement_6 : decode cX12_readStatement 6 = .ok (.invokevirtual 175, 3) := by decide +kernel
theorem dX12_readStatement_9 : decode cX12_readStatement 9 = .ok (.istore_n 2, 1) := by decide +kernel
theorem dX12_readStatement_10 : decode cX12_readStatement 10 = .ok (.aload_n 0, 1) := by decide +kernel
theorem dX12_readStatement_11 : decode cX12_readStatement 11 = .ok (.getfield 58, 3) := by decide +kernel
theorem dX12_readStatement_14 : decode cX12_readStatement 14 = .ok (.iload_n 1, 1) := by decide +kernel
theorem dX12_readStatement_15 : decode cX12_readStatement 15 = .ok (.aload_n 0, 1) := by decide +kernel
theorem dX12_readStatement_16 : decode cX12_readStatement 16 = .ok (.getfield 169, 3) := by decide +kernel
theorem dX12_readStatement_19 : decode cX12_readStatement 19 = .ok (.iastore, 1) := by decide +kernel
theorem dX12_readStatement_20 : decode cX12_readStatement 20 = .ok (.aload_n 0, 1) := by decide +kernel
theorem dX12_readStatement_21 : decode cX12_readStatement 21 = .ok (.getfield 61, 3) := by decide +kernel
theorem dX12_readStatement_24 : decode cX12_readStatement 24 = .ok (.iload_n 1, 1) := by decide +kernel
theorem dX12_readStatement_25 : decode cX12_readStatement 25 = .ok (.iload_n 2, 1) := by decide +kernel
theorem dX12_readStatement_26 : decode cX12_readStatement 26 = .ok (.iastore, 1) := by decide +kernel
theorem dX12_readStatement_27 : decode cX12_readStatement 27 = .ok (.aload_n 0, 1) := by decide +kernel
theorem dX12_readStatement_28 : decode cX12_readStatement 28 = .ok (.aload_n 0, 1) := by decide +kernel
theorem dX12_readStatement_29 : decode cX12_readStatement 29 = .ok (.getfield 172, 3) := by decide +kernel
theorem dX12_readStatement_32 : decode cX12_readStatement 32 = .ok (.ifCond .ne 27, 3) := by decide +kernel
theorem dX12_readStatement_35 : decode cX12_readStatement 35 = .ok (.iload_n 2, 1) := by decide +kernel
theorem dX12_readStatement_36 : decode cX12_readStatement 36 = .ok (.bipush 104, 2) := by decide +kernel
theorem dX12_readStatement_38 : decode cX12_readStatement 38 = .ok (.if_icmp .eq 25, 3) := by decide +kernel
theorem dX12_readStatement_41 : decode cX12_readStatement 41 = .ok (.iload_n 2, 1) := by decide +kernel
theorem dX12_readStatement_42 : decode cX12_readStatement 42 = .ok (.bipush 112, 2) := by decide +kernel
theorem dX12_readStatement_44 : decode cX12_readStatement 44 = .ok (.if_icmp .eq 19, 3) := by decide +kernel
theorem dX12_readStatement_47 : decode cX12_readStatement 47 = .ok (.iload_n 2, 1) := by decide +kernel
theorem dX12_readStatement_48 : decode cX12_readStatement 48 = .ok (.bipush 108, 2) := by decide +kernel
theorem dX12_readStatement_50 : decode cX12_readStatement 50 = .ok (.if_icmp .eq 13, 3) := by decide +kernel
theorem dX12_readStatement_53 : decode cX12_readStatement 53 = .ok (.iload_n 2, 1) := by decide +kernel
theorem dX12_readStatement_54 : decode cX12_readStatement 54 = .ok (.bipush 100, 2) := by decide +kernel
theorem dX12_readStatement_56 : decode cX12_readStatement 56 = .ok (.if_icmp .eq 7, 3) := by decide +kernel
theorem dX12_readStatement_59 : decode cX12_readStatement 59 = .ok (.iconst 1, 1) := by decide +kernel
theorem dX12_readStatement_60 : decode cX12_readStatement 60 = .ok (.goto 4, 3) := by decide +kernel
theorem dX12_readStatement_63 : decode cX12_readStatement 63 = .ok (.iconst 0, 1) := by decide +kernel
theorem dX12_readStatement_64 : decode cX12_readStatement 64 = .ok (.putfield 172, 3) := by decide +kernel
theorem dX12_readStatement_67 : decode cX12_readStatement 67 = .ok (.aload_n 0, 1) := by decide +kernel
theorem dX12_readStatement_68 : decode cX12_readStatement 68 = .ok (.dup, 1) := by decide +kernel
theorem dX12_readStatement_69 : decode cX12_readStatement 69 = .ok (.getfield 169, 3) := by decide +kernel
theorem dX12_readStatement_72 : decode cX12_readStatement 72 = .ok (.aload_n 0, 1) := by decide +kernel
theorem dX12_readStatement_73 : decode cX12_readStatement 73 = .ok (.getfield 172, 3) := by decide +kernel
theorem dX12_readStatement_76 : decode cX12_readStatement 76 = .ok (.ifCond .eq 7, 3) := by decide +kernel
theorem dX12_readStatement_79 : decode cX12_readStatement 79 = .ok (.iconst 0, 1) := by decide +kernel
theorem dX12_readStatement_80 : decode cX12_readStatement 80 = .ok (.goto 4, 3) := by decide +kernel
theorem dX12_readStatement_83 : decode cX12_readStatement 83 = .ok (.iconst 1, 1) := by decide +kernel
theorem dX12_readStatement_84 : decode cX12_readStatement 84 = .ok (.iadd, 1) := by decide +kernel
theorem dX12_readStatement_85 : decode cX12_readStatement 85 = .ok (.putfield 169, 3) := by decide +kernel
theorem dX12_readStatement_88 : decode cX12_readStatement 88 = .ok (.iload_n 2, 1) := by decide +kernel
theorem dX12_readStatement_89 : decode cX12_readStatement 89 = .ok (.bipush 104, 2) := by decide +kernel
theorem dX12_readStatement_91 : decode cX12_readStatement 91 = .ok (.if_icmp .ne 8, 3) := by decide +kernel
theorem dX12_readStatement_94 : decode cX12_readStatement 94 = .ok (.bipush 8, 2) := by decide +kernel
theorem dX12_readStatement_96 : decode cX12_readStatement 96 = .ok (.goto 14, 3) := by decide +kernel
theorem dX12_readStatement_99 : decode cX12_readStatement 99 = .ok (.iload_n 2, 1) := by decide +kernel
theorem dX12_readStatement_100 : decode cX12_readStatement 100 = .ok (.bipush 108, 2) := by decide +kernel
theorem dX12_readStatement_102 : decode cX12_readStatement 102 = .ok (.if_icmp .ne 7, 3) := by decide +kernel
theorem dX12_readStatement_105 : decode cX12_readStatement 105 = .ok (.iconst 1, 1) := by decide +kernel
theorem dX12_readStatement_106 : decode cX12_readStatement 106 = .ok (.goto 4, 3) := by decide +kernel
theorem dX12_readStatement_109 : decode cX12_readStatement 109 = .ok (.iconst 2, 1) := by decide +kernel
theorem dX12_readStatement_110 : decode cX12_readStatement 110 = .ok (.istore_n 3, 1) := by decide +kernel
theorem dX12_readStatement_111 : decode cX12_readStatement 111 = .ok (.iconst 0, 1) := by decide +kernel
theorem dX12_readStatement_112 : decode cX12_readStatement 112 = .ok (.istore 4, 2) := by decide +kernel
theorem dX12_readStatement_114 : decode cX12_readStatement 114 = .ok (.iload 4, 2) := by decide +kernel
theorem dX12_readStatement_116 : decode cX12_readStatement 116 = .ok (.iload_n 3, 1) := by decide +kernel
theorem dX12_readStatement_117 : decode cX12_readStatement 117 = .ok (.if_icmp .ge 25, 3) := by decide +kernel
theorem dX12_readStatement_120 : decode cX12_readStatement 120 = .ok (.aload_n 0, 1) := by decide +kernel
theorem dX12_readStatement_121 : decode cX12_readStatement 121 = .ok (.getfield 64, 3) := by decide +kernel
theorem dX12_readStatement_124 : decode cX12_readStatement 124 = .ok (.bipush 9, 2) := by decide +kernel
theorem dX12_readStatement_126 : decode cX12_readStatement 126 = .ok (.iload_n 1, 1) := by decide +kernel
theorem dX12_readStatement_127 : decode cX12_readStatement 127 = .ok (.imul, 1) := by decide +kernel
theorem dX12_readStatement_128 : decode cX12_readStatement 128 = .ok (.iload 4, 2) := by decide +kernel
theorem dX12_readStatement_130 : decode cX12_readStatement 130 = .ok (.iadd, 1) := by decide +kernel
theorem dX12_readStatement_131 : decode cX12_readStatement 131 = .ok (.aload_n 0, 1) := by decide +kernel
theorem dX12_readStatement_132 : decode cX12_readStatement 132 = .ok (.invokevirtual 183, 3) := by decide +kernel
theorem dX12_readStatement_135 : decode cX12_readStatement 135 = .ok (.iastore, 1) := by decide +kernel
theorem dX12_readStatement_136 : decode cX12_readStatement 136 = .ok (.iinc 4 1, 3) := by decide +kernel
theorem dX12_readStatement_139 : decode cX12_readStatement 139 = .ok (.goto (-25), 3) := by decide +kernel
theorem dX12_readStatement_142 : decode cX12_readStatement 142 = .ok (.iload_n 2, 1) := by decide +kernel
theorem dX12_readStatement_143 : decode cX12_readStatement 143 = .ok (.bipush 104, 2) := by decide +kernel
theorem dX12_readStatement_145 : decode cX12_readStatement 145 = .ok (.if_icmp .eq 9, 3) := by decide +kernel
theorem dX12_readStatement_148 : decode cX12_readStatement 148 = .ok (.iload_n 2, 1) := by decide +kernel
theorem dX12_readStatement_149 : decode cX12_readStatement 149 = .ok (.bipush 100, 2) := by decide +kernel
theorem dX12_readStatement_151 : decode cX12_readStatement 151 = .ok (.if_icmp .ne 29, 3) := by decide +kernel
theorem dX12_readStatement_154 : decode cX12_readStatement 154 = .ok (.aload_n 0, 1) := by decide +kernel
theorem dX12_readStatement_155 : decode cX12_readStatement 155 = .ok (.getfield 64, 3) := by decide +kernel
theorem dX12_readStatement_158 : decode cX12_readStatement 158 = .ok (.bipush 9, 2) := by decide +kernel
theorem dX12_readStatement_160 : decode cX12_readStatement 160 = .ok (.iload_n 1, 1) := by decide +kernel
theorem dX12_readStatement_161 : decode cX12_readStatement 161 = .ok (.imul, 1) := by decide +kernel
theorem dX12_readStatement_162 : decode cX12_readStatement 162 = .ok (.iload_n 3, 1) := by decide +kernel
theorem dX12_readStatement_163 : decode cX12_readStatement 163 = .ok (.iadd, 1) := by decide +kernel
theorem dX12_readStatement_164 : decode cX12_readStatement 164 = .ok (.aload_n 0, 1) := by decide +kernel
theorem dX12_readStatement_165 : decode cX12_readStatement 165 = .ok (.iload_n 2, 1) := by decide +kernel
theorem dX12_readStatement_166 : decode cX12_readStatement 166 = .ok (.bipush 104, 2) := by decide +kernel
theorem dX12_readStatement_168 : decode cX12_readStatement 168 = .ok (.if_icmp .ne 7, 3) := by decide +kernel
theorem dX12_readStatement_171 : decode cX12_readStatement 171 = .ok (.iconst 3, 1) := by decide +kernel
theorem dX12_readStatement_172 : decode cX12_readStatement 172 = .ok (.goto 4, 3) := by decide +kernel
theorem dX12_readStatement_175 : decode cX12_readStatement 175 = .ok (.iconst 2, 1) := by decide +kernel
theorem dX12_readStatement_176 : decode cX12_readStatement 176 = .ok (.invokevirtual 189, 3) := by decide +kernel
theorem dX12_readStatement_179 : decode cX12_readStatement 179 = .ok (.iastore, 1) := by decide +kernel
theorem dX12_readStatement_180 : decode cX12_readStatement 180 = .ok (.aload_n 0, 1) := by decide +kernel
theorem dX12_readStatement_181 : decode cX12_readStatement 181 = .ok (.aload_n 0, 1) := by decide +kernel
theorem dX12_readStatement_182 : decode cX12_readStatement 182 = .ok (.getfield 172, 3) := by decide +kernel
theorem dX12_readStatement_185 : decode cX12_readStatement 185 = .ok (.ifCond .ne 12, 3) := by decide +kernel
theorem dX12_readStatement_188 : decode cX12_readStatement 188 = .ok (.aload_n 0, 1) := by decide +kernel
theorem dX12_readStatement_189 : decode cX12_readStatement 189 = .ok (.invokevirtual 175, 3) := by decide +kernel
theorem dX12_readStatement_192 : decode cX12_readStatement 192 = .ok (.bipush 59, 2) := by decide +kernel
theorem dX12_readStatement_194 : decode cX12_readStatement 194 = .ok (.if_icmp .eq 7, 3) := by decide +kernel
theorem dX12_readStatement_197 : decode cX12_readStatement 197 = .ok (.iconst 1, 1) := by decide +kernel
theorem dX12_readStatement_198 : decode cX12_readStatement 198 = .ok (.goto 4, 3) := by decide +kernel
theorem dX12_readStatement_201 : decode cX12_readStatement 201 = .ok (.iconst 0, 1) := by decide +kernel
theorem dX12_readStatement_202 : decode cX12_readStatement 202 = .ok (.putfield 172, 3) := by decide +kernel
theorem dX12_readStatement_205 : decode cX12_readStatement 205 = .ok (.aload_n 0, 1) := by decide +kernel
theorem dX12_readStatement_206 : decode cX12_readStatement 206 = .ok (.dup, 1) := by decide +kernel
theorem dX12_readStatement_207 : decode cX12_readStatement 207 = .ok (.getfield 169, 3) := by decide +kernel
theorem dX12_readStatement_210 : decode cX12_readStatement 210 = .ok (.aload_n 0, 1) := by decide +kernel
theorem dX12_readStatement_211 : decode cX12_readStatement 211 = .ok (.getfield 172, 3) := by decide +kernel
theorem dX12_readStatement_214 : decode cX12_readStatement 214 = .ok (.ifCond .eq 7, 3) := by decide +kernel
theorem dX12_readStatement_217 : decode cX12_readStatement 217 = .ok (.iconst 0, 1) := by decide +kernel
theorem dX12_readStatement_218 : decode cX12_readStatement 218 = .ok (.goto 4, 3) := by decide +kernel
theorem dX12_readStatement_221 : decode cX12_readStatement 221 = .ok (.iconst 1, 1) := by decide +kernel
theorem dX12_readStatement_222 : decode cX12_readStatement 222 = .ok (.iadd, 1) := by decide +kernel
theorem dX12_readStatement_223 : decode cX12_readStatement 223 = .ok (.putfield 169, 3) := by decide +kernel
theorem dX12_readStatement_226 : decode cX12_readStatement 226 = .ok (.aload_n 0, 1) := by decide +kernel
theorem dX12_readStatement_227 : decode cX12_readStatement 227 = .ok (.dup, 1) := by decide +kernel
theorem dX12_readStatement_228 : decode cX12_readStatement 228 = .ok (.getfield 186, 3) := by decide +kernel
theorem dX12_readStatement_231 : decode cX12_readStatement 231 = .ok (.iconst 1, 1) := by decide +kernel
theorem dX12_readStatement_232 : decode cX12_readStatement 232 = .ok (.iadd, 1) := by decide +kernel
theorem dX12_readStatement_233 : decode cX12_readStatement 233 = .ok (.putfield 186, 3) := by decide +kernel
theorem dX12_readStatement_236 : decode cX12_readStatement 236 = .ok (.return_, 1) := by decide +kernel
theorem dX12_houseComes_0 : decode cX12_houseComes 0 = .ok (.bipush 9, 2) := by decide +kernel
theorem dX12_houseComes_2 : decode cX12_houseComes 2 = .ok (.iload_n 1, 1) := by decide +kernel
theorem dX12_houseComes_3 : decode cX12_houseComes 3 = .ok (.imul, 1) := by decide +kernel
theorem dX12_houseComes_4 : decode cX12_houseComes 4 = .ok (.istore_n 2, 1) := by decide +kernel
theorem dX12_houseComes_5 : decode cX12_houseComes 5 = .ok (.aload_n 0, 1) := by decide +kernel
theorem dX12_houseComes_6 : decode cX12_houseComes 6 = .ok (.getfield 64, 3) := by decide +kernel
theorem dX12_houseComes_9 : decode cX12_houseComes 9 = .ok (.iload_n 2, 1) := by decide +kernel
theorem dX12_houseComes_10 : decode cX12_houseComes 10 = .ok (.iaload, 1) := by decide +kernel
theorem dX12_houseComes_11 : decode cX12_houseComes 11 = .ok (.iconst 5, 1) := by decide +kernel
theorem dX12_houseComes_12 : decode cX12_houseComes 12 = .ok (.if_icmp .gt 37, 3) := by decide +kernel
theorem dX12_houseComes_15 : decode cX12_houseComes 15 = .ok (.aload_n 0, 1) := by decide +kernel
theorem dX12_houseComes_16 : decode cX12_houseComes 16 = .ok (.getfield 64, 3) := by decide +kernel
theorem dX12_houseComes_19 : decode cX12_houseComes 19 = .ok (.iload_n 2, 1) := by decide +kernel
theorem dX12_houseComes_20 : decode cX12_houseComes 20 = .ok (.iconst 4, 1) := by decide +kernel
theorem dX12_houseComes_21 : decode cX12_houseComes 21 = .ok (.iadd, 1) := by decide +kernel
theorem dX12_houseComes_22 : decode cX12_houseComes 22 = .ok (.iaload, 1) := by decide +kernel
theorem dX12_houseComes_23 : decode cX12_houseComes 23 = .ok (.iconst 2, 1) := by decide +kernel
theorem dX12_houseComes_24 : decode cX12_houseComes 24 = .ok (.if_icmp .gt 25, 3) := by decide +kernel
theorem dX12_houseComes_27 : decode cX12_houseComes 27 = .ok (.aload_n 0, 1) := by decide +kernel
theorem dX12_houseComes_28 : decode cX12_houseComes 28 = .ok (.getfield 64, 3) := by decide +kernel
theorem dX12_houseComes_31 : decode cX12_houseComes 31 = .ok (.iload_n 2, 1) := by decide +kernel
theorem dX12_houseComes_32 : decode cX12_houseComes 32 = .ok (.bipush 6, 2) := by decide +kernel
theorem dX12_houseComes_34 : decode cX12_houseComes 34 = .ok (.iadd, 1) := by decide +kernel
theorem dX12_houseComes_35 : decode cX12_houseComes 35 = .ok (.iaload, 1) := by decide +kernel
theorem dX12_houseComes_36 : decode cX12_houseComes 36 = .ok (.iconst 2, 1) := by decide +kernel
theorem dX12_houseComes_37 : decode cX12_houseComes 37 = .ok (.if_icmp .gt 12, 3) := by decide +kernel
theorem dX12_houseComes_40 : decode cX12_houseComes 40 = .ok (.aload_n 0, 1) := by decide +kernel
theorem dX12_houseComes_41 : decode cX12_houseComes 41 = .ok (.getfield 77, 3) := by decide +kernel
theorem dX12_houseComes_44 : decode cX12_houseComes 44 = .ok (.bipush 6, 2) := by decide +kernel
theorem dX12_houseComes_46 : decode cX12_houseComes 46 = .ok (.if_icmp .ne 5, 3) := by decide +kernel
theorem dX12_houseComes_49 : decode cX12_houseComes 49 = .ok (.iconst 0, 1) := by decide +kernel
theorem dX12_houseComes_50 : decode cX12_houseComes 50 = .ok (.ireturn, 1) := by decide +kernel
theorem dX12_houseComes_51 : decode cX12_houseComes 51 = .ok (.aload_n 0, 1) := by decide +kernel
theorem dX12_houseComes_52 : decode cX12_houseComes 52 = .ok (.getfield 77, 3) := by decide +kernel
theorem dX12_houseComes_55 : decode cX12_houseComes 55 = .ok (.istore_n 3, 1) := by decide +kernel
theorem dX12_houseComes_56 : decode cX12_houseComes 56 = .ok (.aload_n 0, 1) := by decide +kernel
theorem dX12_houseComes_57 : decode cX12_houseComes 57 = .ok (.getfield 7, 3) := by decide +kernel
theorem dX12_houseComes_60 : decode cX12_houseComes 60 = .ok (.iload_n 3, 1) := by decide +kernel
theorem dX12_houseComes_61 : decode cX12_houseComes 61 = .ok (.aload_n 0, 1) := by decide +kernel
theorem dX12_houseComes_62 : decode cX12_houseComes 62 = .ok (.getfield 64, 3) := by decide +kernel
theorem dX12_houseComes_65 : decode cX12_houseComes 65 = .ok (.iload_n 2, 1) := by decide +kernel
theorem dX12_houseComes_66 : decode cX12_houseComes 66 = .ok (.iaload, 1) := by decide +kernel
theorem dX12_houseComes_67 : decode cX12_houseComes 67 = .ok (.iastore, 1) := by decide +kernel
theorem dX12_houseComes_68 : decode cX12_houseComes 68 = .ok (.aload_n 0, 1) := by decide +kernel
theorem dX12_houseComes_69 : decode cX12_houseComes 69 = .ok (.getfield 13, 3) := by decide +kernel
theorem dX12_houseComes_72 : decode cX12_houseComes 72 = .ok (.iload_n 3, 1) := by decide +kernel
theorem dX12_houseComes_73 : decode cX12_houseComes 73 = .ok (.aload_n 0, 1) := by decide +kernel
theorem dX12_houseComes_74 : decode cX12_houseComes 74 = .ok (.getfield 64, 3) := by decide +kernel
theorem dX12_houseComes_77 : decode cX12_houseComes 77 = .ok (.iload_n 2, 1) := by decide +kernel
theorem dX12_houseComes_78 : decode cX12_houseComes 78 = .ok (.iconst 1, 1) := by decide +kernel
theorem dX12_houseComes_79 : decode cX12_houseComes 79 = .ok (.iadd, 1) := by decide +kernel
theorem dX12_houseComes_80 : decode cX12_houseComes 80 = .ok (.iaload, 1) := by decide +kernel
theorem dX12_houseComes_81 : decode cX12_houseComes 81 = .ok (.iastore, 1) := by decide +kernel
theorem dX12_houseComes_82 : decode cX12_houseComes 82 = .ok (.aload_n 0, 1) := by decide +kernel
theorem dX12_houseComes_83 : decode cX12_houseComes 83 = .ok (.getfield 16, 3) := by decide +kernel
theorem dX12_houseComes_86 : decode cX12_houseComes 86 = .ok (.iload_n 3, 1) := by decide +kernel
theorem dX12_houseComes_87 : decode cX12_houseComes 87 = .ok (.bipush 10, 2) := by decide +kernel
theorem dX12_houseComes_89 : decode cX12_houseComes 89 = .ok (.aload_n 0, 1) := by decide +kernel
theorem dX12_houseComes_90 : decode cX12_houseComes 90 = .ok (.getfield 64, 3) := by decide +kernel
theorem dX12_houseComes_93 : decode cX12_houseComes 93 = .ok (.iload_n 2, 1) := by decide +kernel
theorem dX12_houseComes_94 : decode cX12_houseComes 94 = .ok (.iconst 2, 1) := by decide +kernel
theorem dX12_houseComes_95 : decode cX12_houseComes 95 = .ok (.iadd, 1) := by decide +kernel
theorem dX12_houseComes_96 : decode cX12_houseComes 96 = .ok (.iaload, 1) := by decide +kernel
theorem dX12_houseComes_97 : decode cX12_houseComes 97 = .ok (.imul, 1) := by decide +kernel
theorem dX12_houseComes_98 : decode cX12_houseComes 98 = .ok (.aload_n 0, 1) := by decide +kernel
theorem dX12_houseComes_99 : decode cX12_houseComes 99 = .ok (.getfield 64, 3) := by decide +kernel
theorem dX12_houseComes_102 : decode cX12_houseComes 102 = .ok (.iload_n 2, 1) := by decide +kernel
theorem dX12_houseComes_103 : decode cX12_houseComes 103 = .ok (.iconst 3, 1) := by decide +kernel
theorem dX12_houseComes_104 : decode cX12_houseComes 104 = .ok (.iadd, 1) := by decide +kernel
theorem dX12_houseComes_105 : decode cX12_houseComes 105 = .ok (.iaload, 1) := by decide +kernel
theorem dX12_houseComes_106 : decode cX12_houseComes 106 = .ok (.iadd, 1) := by decide +kernel
theorem dX12_houseComes_107 : decode cX12_houseComes 107 = .ok (.iastore, 1) := by decide +kernel
theorem dX12_houseComes_108 : decode cX12_houseComes 108 = .ok (.aload_n 0, 1) := by decide +kernel
theorem dX12_houseComes_109 : decode cX12_houseComes 109 = .ok (.getfield 19, 3) := by decide +kernel
theorem dX12_houseComes_112 : decode cX12_houseComes 112 = .ok (.iload_n 3, 1) := by decide +kernel
theorem dX12_houseComes_113 : decode cX12_houseComes 113 = .ok (.aload_n 0, 1) := by decide +kernel
theorem dX12_houseComes_114 : decode cX12_houseComes 114 = .ok (.getfield 64, 3) := by decide +kernel
theorem dX12_houseComes_117 : decode cX12_houseComes 117 = .ok (.iload_n 2, 1) := by decide +kernel
theorem dX12_houseComes_118 : decode cX12_houseComes 118 = .ok (.iconst 4, 1) := by decide +kernel
theorem dX12_houseComes_119 : decode cX12_houseComes 119 = .ok (.iadd, 1) := by decide +kernel
theorem dX12_houseComes_120 : decode cX12_houseComes 120 = .ok (.iaload, 1) := by decide +kernel
theorem dX12_houseComes_121 : decode cX12_houseComes 121 = .ok (.iastore, 1) := by decide +kernel
theorem dX12_houseComes_122 : decode cX12_houseComes 122 = .ok (.aload_n 0, 1) := by decide +kernel
theorem dX12_houseComes_123 : decode cX12_houseComes 123 = .ok (.getfield 22, 3) := by decide +kernel
theorem dX12_houseComes_126 : decode cX12_houseComes 126 = .ok (.iload_n 3, 1) := by decide +kernel
theorem dX12_houseComes_127 : decode cX12_houseComes 127 = .ok (.aload_n 0, 1) := by decide +kernel
theorem dX12_houseComes_128 : decode cX12_houseComes 128 = .ok (.getfield 64, 3) := by decide +kernel
theorem dX12_houseComes_131 : decode cX12_houseComes 131 = .ok (.iload_n 2, 1) := by decide +kernel
theorem dX12_houseComes_132 : decode cX12_houseComes 132 = .ok (.iconst 5, 1) := by decide +kernel
theorem dX12_houseComes_133 : decode cX12_houseComes 133 = .ok (.iadd, 1) := by decide +kernel
theorem dX12_houseComes_134 : decode cX12_houseComes 134 = .ok (.iaload, 1) := by decide +kernel
theorem dX12_houseComes_135 : decode cX12_houseComes 135 = .ok (.iastore, 1) := by decide +kernel
theorem dX12_houseComes_136 : decode cX12_houseComes 136 = .ok (.aload_n 0, 1) := by decide +kernel
theorem dX12_houseComes_137 : decode cX12_houseComes 137 = .ok (.getfield 25, 3) := by decide +kernel
theorem dX12_houseComes_140 : decode cX12_houseComes 140 = .ok (.iload_n 3, 1) := by decide +kernel
theorem dX12_houseComes_141 : decode cX12_houseComes 141 = .ok (.aload_n 0, 1) := by decide +kernel
theorem dX12_houseComes_142 : decode cX12_houseComes 142 = .ok (.getfield 64, 3) := by decide +kernel
theorem dX12_houseComes_145 : decode cX12_houseComes 145 = .ok (.iload_n 2, 1) := by decide +kernel
theorem dX12_houseComes_146 : decode cX12_houseComes 146 = .ok (.bipush 6, 2) := by decide +kernel
theorem dX12_houseComes_148 : decode cX12_houseComes 148 = .ok (.iadd, 1) := by decide +kernel
theorem dX12_houseComes_149 : decode cX12_houseComes 149 = .ok (.iaload, 1) := by decide +kernel
theorem dX12_houseComes_150 : decode cX12_houseComes 150 = .ok (.iastore, 1) := by decide +kernel
theorem dX12_houseComes_151 : decode cX12_houseComes 151 = .ok (.aload_n 0, 1) := by decide +kernel
theorem dX12_houseComes_152 : decode cX12_houseComes 152 = .ok (.getfield 28, 3) := by decide +kernel
theorem dX12_houseComes_155 : decode cX12_houseComes 155 = .ok (.iload_n 3, 1) := by decide +kernel
theorem dX12_houseComes_156 : decode cX12_houseComes 156 = .ok (.aload_n 0, 1) := by decide +kernel
theorem dX12_houseComes_157 : decode cX12_houseComes 157 = .ok (.getfield 64, 3) := by decide +kernel
theorem dX12_houseComes_160 : decode cX12_houseComes 160 = .ok (.iload_n 2, 1) := by decide +kernel
theorem dX12_houseComes_161 : decode cX12_houseComes 161 = .ok (.bipush 7, 2) := by decide +kernel
theorem dX12_houseComes_163 : decode cX12_houseComes 163 = .ok (.iadd, 1) := by decide +kernel
theorem dX12_houseComes_164 : decode cX12_houseComes 164 = .ok (.iaload, 1) := by decide +kernel
theorem dX12_houseComes_165 : decode cX12_houseComes 165 = .ok (.iastore, 1) := by decide +kernel
theorem dX12_houseComes_166 : decode cX12_houseComes 166 = .ok (.aload_n 0, 1) := by decide +kernel
theorem dX12_houseComes_167 : decode cX12_houseComes 167 = .ok (.getfield 31, 3) := by decide +kernel
theorem dX12_houseComes_170 : decode cX12_houseComes 170 = .ok (.iload_n 3, 1) := by decide +kernel
theorem dX12_houseComes_171 : decode cX12_houseComes 171 = .ok (.aload_n 0, 1) := by decide +kernel
theorem dX12_houseComes_172 : decode cX12_houseComes 172 = .ok (.getfield 64, 3) := by decide +kernel
theorem dX12_houseComes_175 : decode cX12_houseComes 175 = .ok (.iload_n 2, 1) := by decide +kernel
theorem dX12_houseComes_176 : decode cX12_houseComes 176 = .ok (.bipush 8, 2) := by decide +kernel
theorem dX12_houseComes_178 : decode cX12_houseComes 178 = .ok (.iadd, 1) := by decide +kernel
theorem dX12_houseComes_179 : decode cX12_houseComes 179 = .ok (.iaload, 1) := by decide +kernel
theorem dX12_houseComes_180 : decode cX12_houseComes 180 = .ok (.iastore, 1) := by decide +kernel
theorem dX12_houseComes_181 : decode cX12_houseComes 181 = .ok (.iconst 0, 1) := by decide +kernel
theorem dX12_houseComes_182 : decode cX12_houseComes 182 = .ok (.istore 4, 2) := by decide +kernel
theorem dX12_houseComes_184 : decode cX12_houseComes 184 = .ok (.iload 4, 2) := by decide +kernel
theorem dX12_houseComes_186 : decode cX12_houseComes 186 = .ok (.iconst 3, 1) := by decide +kernel
theorem dX12_houseComes_187 : decode cX12_houseComes 187 = .ok (.if_icmp .ge 21, 3) := by decide +kernel
theorem dX12_houseComes_190 : decode cX12_houseComes 190 = .ok (.aload_n 0, 1) := by decide +kernel
theorem dX12_houseComes_191 : decode cX12_houseComes 191 = .ok (.getfield 34, 3) := by decide +kernel
theorem dX12_houseComes_194 : decode cX12_houseComes 194 = .ok (.iconst 3, 1) := by decide +kernel
theorem dX12_houseComes_195 : decode cX12_houseComes 195 = .ok (.iload_n 3, 1) := by decide +kernel
theorem dX12_houseComes_196 : decode cX12_houseComes 196 = .ok (.imul, 1) := by decide +kernel
theorem dX12_houseComes_197 : decode cX12_houseComes 197 = .ok (.iload 4, 2) := by decide +kernel
theorem dX12_houseComes_199 : decode cX12_houseComes 199 = .ok (.iadd, 1) := by decide +kernel
theorem dX12_houseComes_200 : decode cX12_houseComes 200 = .ok (.iconst 0, 1) := by decide +kernel
theorem dX12_houseComes_201 : decode cX12_houseComes 201 = .ok (.iastore, 1) := by decide +kernel
theorem dX12_houseComes_202 : decode cX12_houseComes 202 = .ok (.iinc 4 1, 3) := by decide +kernel
theorem dX12_houseComes_205 : decode cX12_houseComes 205 = .ok (.goto (-21), 3) := by decide +kernel
theorem dX12_houseComes_208 : decode cX12_houseComes 208 = .ok (.iconst 0, 1) := by decide +kernel
theorem dX12_houseComes_209 : decode cX12_houseComes 209 = .ok (.istore 4, 2) := by decide +kernel
theorem dX12_houseComes_211 : decode cX12_houseComes 211 = .ok (.iload 4, 2) := by decide +kernel
theorem dX12_houseComes_213 : decode cX12_houseComes 213 = .ok (.bipush 6, 2) := by decide +kernel
theorem dX12_houseComes_215 : decode cX12_houseComes 215 = .ok (.if_icmp .ge 35, 3) := by decide +kernel
theorem dX12_houseComes_218 : decode cX12_houseComes 218 = .ok (.aload_n 0, 1) := by decide +kernel
theorem dX12_houseComes_219 : decode cX12_houseComes 219 = .ok (.getfield 37, 3) := by decide +kernel
theorem dX12_houseComes_222 : decode cX12_houseComes 222 = .ok (.bipush 6, 2) := by decide +kernel
theorem dX12_houseComes_224 : decode cX12_houseComes 224 = .ok (.iload_n 3, 1) := by decide +kernel
theorem dX12_houseComes_225 : decode cX12_houseComes 225 = .ok (.imul, 1) := by decide +kernel
theorem dX12_houseComes_226 : decode cX12_houseComes 226 = .ok (.iload 4, 2) := by decide +kernel
theorem dX12_houseComes_228 : decode cX12_houseComes 228 = .ok (.iadd, 1) := by decide +kernel
theorem dX12_houseComes_229 : decode cX12_houseComes 229 = .ok (.iconst 0, 1) := by decide +kernel
theorem dX12_houseComes_230 : decode cX12_houseComes 230 = .ok (.iastore, 1) := by decide +kernel
theorem dX12_houseComes_231 : decode cX12_houseComes 231 = .ok (.aload_n 0, 1) := by decide +kernel
theorem dX12_houseComes_232 : decode cX12_houseComes 232 = .ok (.getfield 37, 3) := by decide +kernel
theorem dX12_houseComes_235 : decode cX12_houseComes 235 = .ok (.bipush 6, 2) := by decide +kernel
theorem dX12_houseComes_237 : decode cX12_houseComes 237 = .ok (.iload 4, 2) := by decide +kernel
theorem dX12_houseComes_239 : decode cX12_houseComes 239 = .ok (.imul, 1) := by decide +kernel
theorem dX12_houseComes_240 : decode cX12_houseComes 240 = .ok (.iload_n 3, 1) := by decide +kernel
theorem dX12_houseComes_241 : decode cX12_houseComes 241 = .ok (.iadd, 1) := by decide +kernel
theorem dX12_houseComes_242 : decode cX12_houseComes 242 = .ok (.iconst 0, 1) := by decide +kernel
theorem dX12_houseComes_243 : decode cX12_houseComes 243 = .ok (.iastore, 1) := by decide +kernel
theorem dX12_houseComes_244 : decode cX12_houseComes 244 = .ok (.iinc 4 1, 3) := by decide +kernel
theorem dX12_houseComes_247 : decode cX12_houseComes 247 = .ok (.goto (-36), 3) := by decide +kernel
theorem dX12_houseComes_250 : decode cX12_houseComes 250 = .ok (.aload_n 0, 1) := by decide +kernel
theorem dX12_houseComes_251 : decode cX12_houseComes 251 = .ok (.dup, 1) := by decide +kernel
theorem dX12_houseComes_252 : decode cX12_houseComes 252 = .ok (.getfield 77, 3) := by decide +kernel
theorem dX12_houseComes_255 : decode cX12_houseComes 255 = .ok (.iconst 1, 1) := by decide +kernel
theorem dX12_houseComes_256 : decode cX12_houseComes 256 = .ok (.iadd, 1) := by decide +kernel
theorem dX12_houseComes_257 : decode cX12_houseComes 257 = .ok (.putfield 77, 3) := by decide +kernel
theorem dX12_houseComes_260 : decode cX12_houseComes 260 = .ok (.iconst 1, 1) := by decide +kernel
theorem dX12_houseComes_261 : decode cX12_houseComes 261 = .ok (.ireturn, 1) := by decide +kernel
theorem dX12_comes_0 : decode cX12_comes 0 = .ok (.aload_n 0, 1) := by decide +kernel
theorem dX12_comes_1 : decode cX12_comes 1 = .ok (.getfield 64, 3) := by decide +kernel
theorem dX12_comes_4 : decode cX12_comes 4 = .ok (.bipush 9, 2) := by decide +kernel
theorem dX12_comes_6 : decode cX12_comes 6 = .ok (.iload_n 1, 1) := by decide +kernel
theorem dX12_comes_7 : decode cX12_comes 7 = .ok (.imul, 1) := by decide +kernel
theorem dX12_comes_8 : decode cX12_comes 8 = .ok (.iaload, 1) := by decide +kernel
theorem dX12_comes_9 : decode cX12_comes 9 = .ok (.istore_n 2, 1) := by decide +kernel
theorem dX12_comes_10 : decode cX12_comes 10 = .ok (.aload_n 0, 1) := by decide +kernel
theorem dX12_comes_11 : decode cX12_comes 11 = .ok (.getfield 64, 3) := by decide +kernel
theorem dX12_comes_14 : decode cX12_comes 14 = .ok (.bipush 9, 2) := by decide +kernel
theorem dX12_comes_16 : decode cX12_comes 16 = .ok (.iload_n 1, 1) := by decide +kernel
theorem dX12_comes_17 : decode cX12_comes 17 = .ok (.imul, 1) := by decide +kernel
theorem dX12_comes_18 : decode cX12_comes 18 = .ok (.iconst 1, 1) := by decide +kernel
theorem dX12_comes_19 : decode cX12_comes 19 = .ok (.iadd, 1) := by decide +kernel
theorem dX12_comes_20 : decode cX12_comes 20 = .ok (.iaload, 1) := by decide +kernel
theorem dX12_comes_21 : decode cX12_comes 21 = .ok (.istore_n 3, 1) := by decide +kernel
theorem dX12_comes_22 : decode cX12_comes 22 = .ok (.aload_n 0, 1) := by decide +kernel
theorem dX12_comes_23 : decode cX12_comes 23 = .ok (.getfield 61, 3) := by decide +kernel
theorem dX12_comes_26 : decode cX12_comes 26 = .ok (.iload_n 1, 1) := by decide +kernel
theorem dX12_comes_27 : decode cX12_comes 27 = .ok (.iaload, 1) := by decide +kernel
theorem dX12_comes_28 : decode cX12_comes 28 = .ok (.bipush 104, 2) := by decide +kernel
theorem dX12_comes_30 : decode cX12_comes 30 = .ok (.if_icmp .ne 9, 3) := by decide +kernel
theorem dX12_comes_33 : decode cX12_comes 33 = .ok (.aload_n 0, 1) := by decide +kernel
theorem dX12_comes_34 : decode cX12_comes 34 = .ok (.iload_n 1, 1) := by decide +kernel
theorem dX12_comes_35 : decode cX12_comes 35 = .ok (.invokevirtual 192, 3) := by decide +kernel
theorem dX12_comes_38 : decode cX12_comes 38 = .ok (.ireturn, 1) := by decide +kernel
theorem dX12_comes_39 : decode cX12_comes 39 = .ok (.aload_n 0, 1) := by decide +kernel
theorem dX12_comes_40 : decode cX12_comes 40 = .ok (.getfield 61, 3) := by decide +kernel
theorem dX12_comes_43 : decode cX12_comes 43 = .ok (.iload_n 1, 1) := by decide +kernel
theorem dX12_comes_44 : decode cX12_comes 44 = .ok (.iaload, 1) := by decide +kernel
theorem dX12_comes_45 : decode cX12_comes 45 = .ok (.bipush 112, 2) := by decide +kernel
theorem dX12_comes_47 : decode cX12_comes 47 = .ok (.if_icmp .ne 52, 3) := by decide +kernel
theorem dX12_comes_50 : decode cX12_comes 50 = .ok (.iload_n 2, 1) := by decide +kernel
theorem dX12_comes_51 : decode cX12_comes 51 = .ok (.iconst 3, 1) := by decide +kernel
theorem dX12_comes_52 : decode cX12_comes 52 = .ok (.if_icmp .ge 11, 3) := by decide +kernel
theorem dX12_comes_55 : decode cX12_comes 55 = .ok (.iload_n 3, 1) := by decide +kernel
theorem dX12_comes_56 : decode cX12_comes 56 = .ok (.ifCond .le 7, 3) := by decide +kernel
theorem dX12_comes_59 : decode cX12_comes 59 = .ok (.iconst 1, 1) := by decide +kernel
theorem dX12_comes_60 : decode cX12_comes 60 = .ok (.goto 4, 3) := by decide +kernel
theorem dX12_comes_63 : decode cX12_comes 63 = .ok (.iconst 0, 1) := by decide +kernel
theorem dX12_comes_64 : decode cX12_comes 64 = .ok (.istore 4, 2) := by decide +kernel
theorem dX12_comes_66 : decode cX12_comes 66 = .ok (.aload_n 0, 1) := by decide +kernel
theorem dX12_comes_67 : decode cX12_comes 67 = .ok (.getfield 40, 3) := by decide +kernel
theorem dX12_comes_70 : decode cX12_comes 70 = .ok (.iload 4, 2) := by decide +kernel
theorem dX12_comes_72 : decode cX12_comes 72 = .ok (.ifCond .eq 7, 3) := by decide +kernel
theorem dX12_comes_75 : decode cX12_comes 75 = .ok (.iload_n 2, 1) := by decide +kernel
theorem dX12_comes_76 : decode cX12_comes 76 = .ok (.goto 4, 3) := by decide +kernel
theorem dX12_comes_79 : decode cX12_comes 79 = .ok (.iconst 0, 1) := by decide +kernel
theorem dX12_comes_80 : decode cX12_comes 80 = .ok (.iload 4, 2) := by decide +kernel
theorem dX12_comes_82 : decode cX12_comes 82 = .ok (.ifCond .eq 7, 3) := by decide +kernel
theorem dX12_comes_85 : decode cX12_comes 85 = .ok (.iload_n 3, 1) := by decide +kernel
theorem dX12_comes_86 : decode cX12_comes 86 = .ok (.goto 9, 3) := by decide +kernel
theorem dX12_comes_89 : decode cX12_comes 89 = .ok (.aload_n 0, 1) := by decide +kernel
theorem dX12_comes_90 : decode cX12_comes 90 = .ok (.getfield 40, 3) := by decide +kernel
theorem dX12_comes_93 : decode cX12_comes 93 = .ok (.iconst 0, 1) := by decide +kernel
theorem dX12_comes_94 : decode cX12_comes 94 = .ok (.iaload, 1) := by decide +kernel
theorem dX12_comes_95 : decode cX12_comes 95 = .ok (.iastore, 1) := by decide +kernel
theorem dX12_comes_96 : decode cX12_comes 96 = .ok (.iload 4, 2) := by decide +kernel
theorem dX12_comes_98 : decode cX12_comes 98 = .ok (.ireturn, 1) := by decide +kernel
theorem dX12_comes_99 : decode cX12_comes 99 = .ok (.aload_n 0, 1) := by decide +kernel
theorem dX12_comes_100 : decode cX12_comes 100 = .ok (.getfield 61, 3) := by decide +kernel
theorem dX12_comes_103 : decode cX12_comes 103 = .ok (.iload_n 1, 1) := by decide +kernel
theorem dX12_comes_104 : decode cX12_comes 104 = .ok (.iaload, 1) := by decide +kernel
theorem dX12_comes_105 : decode cX12_comes 105 = .ok (.bipush 108, 2) := by decide +kernel
theorem dX12_comes_107 : decode cX12_comes 107 = .ok (.if_icmp .ne 19, 3) := by decide +kernel
theorem dX12_comes_110 : decode cX12_comes 110 = .ok (.aload_n 0, 1) := by decide +kernel
theorem dX12_comes_111 : decode cX12_comes 111 = .ok (.iload_n 2, 1) := by decide +kernel
theorem dX12_comes_112 : decode cX12_comes 112 = .ok (.putfield 97, 3) := by decide +kernel
theorem dX12_comes_115 : decode cX12_comes 115 = .ok (.iload_n 2, 1) := by decide +kernel
theorem dX12_comes_116 : decode cX12_comes 116 = .ok (.iconst 3, 1) := by decide +kernel
theorem dX12_comes_117 : decode cX12_comes 117 = .ok (.if_icmp .ge 7, 3) := by decide +kernel
theorem dX12_comes_120 : decode cX12_comes 120 = .ok (.iconst 1, 1) := by decide +kernel
theorem dX12_comes_121 : decode cX12_comes 121 = .ok (.goto 4, 3) := by decide +kernel
theorem dX12_comes_124 : decode cX12_comes 124 = .ok (.iconst 0, 1) := by decide +kernel
theorem dX12_comes_125 : decode cX12_comes 125 = .ok (.ireturn, 1) := by decide +kernel
theorem dX12_comes_126 : decode cX12_comes 126 = .ok (.aload_n 0, 1) := by decide +kernel
theorem dX12_comes_127 : decode cX12_comes 127 = .ok (.iload_n 2, 1) := by decide +kernel
theorem dX12_comes_128 : decode cX12_comes 128 = .ok (.iload_n 3, 1) := by decide +kernel
theorem dX12_comes_129 : decode cX12_comes 129 = .ok (.invokevirtual 195, 3) := by decide +kernel
theorem dX12_comes_132 : decode cX12_comes 132 = .ok (.istore 4, 2) := by decide +kernel
theorem dX12_comes_134 : decode cX12_comes 134 = .ok (.iload 4, 2) := by decide +kernel
theorem dX12_comes_136 : decode cX12_comes 136 = .ok (.ifCond .eq 25, 3) := by decide +kernel
theorem dX12_comes_139 : decode cX12_comes 139 = .ok (.aload_n 0, 1) := by decide +kernel
theorem dX12_comes_140 : decode cX12_comes 140 = .ok (.getfield 37, 3) := by decide +kernel
theorem dX12_comes_143 : decode cX12_comes 143 = .ok (.bipush 6, 2) := by decide +kernel
theorem dX12_comes_145 : decode cX12_comes 145 = .ok (.iload_n 2, 1) := by decide +kernel
theorem dX12_comes_146 : decode cX12_comes 146 = .ok (.imul, 1) := by decide +kernel
theorem dX12_comes_147 : decode cX12_comes 147 = .ok (.iload_n 3, 1) := by decide +kernel
theorem dX12_comes_148 : decode cX12_comes 148 = .ok (.iadd, 1) := by decide +kernel
theorem dX12_comes_149 : decode cX12_comes 149 = .ok (.aload_n 0, 1) := by decide +kernel
theorem dX12_comes_150 : decode cX12_comes 150 = .ok (.getfield 64, 3) := by decide +kernel
theorem dX12_comes_153 : decode cX12_comes 153 = .ok (.bipush 9, 2) := by decide +kernel
theorem dX12_comes_155 : decode cX12_comes 155 = .ok (.iload_n 1, 1) := by decide +kernel
theorem dX12_comes_156 : decode cX12_comes 156 = .ok (.imul, 1) := by decide +kernel
theorem dX12_comes_157 : decode cX12_comes 157 = .ok (.iconst 2, 1) := by decide +kernel
theorem dX12_comes_158 : decode cX12_comes 158 = .ok (.iadd, 1) := by decide +kernel
theorem dX12_comes_159 : decode cX12_comes 159 = .ok (.iaload, 1) := by decide +kernel
theorem dX12_comes_160 : decode cX12_comes 160 = .ok (.iastore, 1) := by decide +kernel
theorem dX12_comes_161 : decode cX12_comes 161 = .ok (.iload 4, 2) := by decide +kernel
theorem dX12_comes_163 : decode cX12_comes 163 = .ok (.ireturn, 1) := by decide +kernel
theorem dX12_mountain_0 : decode cX12_mountain 0 = .ok (.aload_n 0, 1) := by decide +kernel
theorem dX12_mountain_1 : decode cX12_mountain 1 = .ok (.iconst 0, 1) := by decide +kernel
theorem dX12_mountain_2 : decode cX12_mountain 2 = .ok (.putfield 73, 3) := by decide +kernel
theorem dX12_mountain_5 : decode cX12_mountain 5 = .ok (.aload_n 0, 1) := by decide +kernel
theorem dX12_mountain_6 : decode cX12_mountain 6 = .ok (.iconst 0, 1) := by decide +kernel
theorem dX12_mountain_7 : decode cX12_mountain 7 = .ok (.putfield 169, 3) := by decide +kernel
theorem dX12_mountain_10 : decode cX12_mountain 10 = .ok (.aload_n 0, 1) := by decide +kernel
theorem dX12_mountain_11 : decode cX12_mountain 11 = .ok (.iconst 0, 1) := by decide +kernel
theorem dX12_mountain_12 : decode cX12_mountain 12 = .ok (.putfield 172, 3) := by decide +kernel
theorem dX12_mountain_15 : decode cX12_mountain 15 = .ok (.aload_n 0, 1) := by decide +kernel
theorem dX12_mountain_16 : decode cX12_mountain 16 = .ok (.iconst 0, 1) := by decide +kernel
theorem dX12_mountain_17 : decode cX12_mountain 17 = .ok (.putfield 186, 3) := by decide +kernel
theorem dX12_mountain_20 : decode cX12_mountain 20 = .ok (.aload_n 0, 1) := by decide +kernel
theorem dX12_mountain_21 : decode cX12_mountain 21 = .ok (.getfield 172, 3) := by decide +kernel
theorem dX12_mountain_24 : decode cX12_mountain 24 = .ok (.ifCond .ne 28, 3) := by decide +kernel
theorem dX12_mountain_27 : decode cX12_mountain 27 = .ok (.aload_n 0, 1) := by decide +kernel
theorem dX12_mountain_28 : decode cX12_mountain 28 = .ok (.getfield 186, 3) := by decide +kernel
theorem dX12_mountain_31 : decode cX12_mountain 31 = .ok (.ifCond .eq 14, 3) := by decide +kernel
theorem dX12_mountain_34 : decode cX12_mountain 34 = .ok (.aload_n 0, 1) := by decide +kernel
theorem dX12_mountain_35 : decode cX12_mountain 35 = .ok (.getfield 169, 3) := by decide +kernel
theorem dX12_mountain_38 : decode cX12_mountain 38 = .ok (.aload_n 0, 1) := by decide +kernel
theorem dX12_mountain_39 : decode cX12_mountain 39 = .ok (.getfield 166, 3) := by decide +kernel
theorem dX12_mountain_42 : decode cX12_mountain 42 = .ok (.if_icmp .ge 10, 3) := by decide +kernel
theorem dX12_mountain_45 : decode cX12_mountain 45 = .ok (.aload_n 0, 1) := by decide +kernel
theorem dX12_mountain_46 : decode cX12_mountain 46 = .ok (.invokevirtual 198, 3) := by decide +kernel
theorem dX12_mountain_49 : decode cX12_mountain 49 = .ok (.goto (-29), 3) := by decide +kernel
theorem dX12_mountain_52 : decode cX12_mountain 52 = .ok (.aload_n 0, 1) := by decide +kernel
theorem dX12_mountain_53 : decode cX12_mountain 53 = .ok (.iconst 0, 1) := by decide +kernel
theorem dX12_mountain_54 : decode cX12_mountain 54 = .ok (.putfield 166, 3) := by decide +kernel
theorem dX12_mountain_57 : decode cX12_mountain 57 = .ok (.aload_n 0, 1) := by decide +kernel
theorem dX12_mountain_58 : decode cX12_mountain 58 = .ok (.getfield 172, 3) := by decide +kernel
theorem dX12_mountain_61 : decode cX12_mountain 61 = .ok (.ifCond .eq 12, 3) := by decide +kernel
theorem dX12_mountain_64 : decode cX12_mountain 64 = .ok (.sipush (-1000), 3) := by decide +kernel
theorem dX12_mountain_67 : decode cX12_mountain 67 = .ok (.aload_n 0, 1) := by decide +kernel
theorem dX12_mountain_68 : decode cX12_mountain 68 = .ok (.getfield 169, 3) := by decide +kernel
theorem dX12_mountain_71 : decode cX12_mountain 71 = .ok (.isub, 1) := by decide +kernel
theorem dX12_mountain_72 : decode cX12_mountain 72 = .ok (.ireturn, 1) := by decide +kernel
theorem dX12_mountain_73 : decode cX12_mountain 73 = .ok (.aload_n 0, 1) := by decide +kernel
theorem dX12_mountain_74 : decode cX12_mountain 74 = .ok (.invokevirtual 201, 3) := by decide +kernel
theorem dX12_mountain_77 : decode cX12_mountain 77 = .ok (.iconst 0, 1) := by decide +kernel
theorem dX12_mountain_78 : decode cX12_mountain 78 = .ok (.istore_n 1, 1) := by decide +kernel
theorem dX12_mountain_79 : decode cX12_mountain 79 = .ok (.iload_n 1, 1) := by decide +kernel
theorem dX12_mountain_80 : decode cX12_mountain 80 = .ok (.aload_n 0, 1) := by decide +kernel
theorem dX12_mountain_81 : decode cX12_mountain 81 = .ok (.getfield 186, 3) := by decide +kernel
theorem dX12_mountain_84 : decode cX12_mountain 84 = .ok (.if_icmp .ge 32, 3) := by decide +kernel
theorem dX12_mountain_87 : decode cX12_mountain 87 = .ok (.aload_n 0, 1) := by decide +kernel
theorem dX12_mountain_88 : decode cX12_mountain 88 = .ok (.iload_n 1, 1) := by decide +kernel
theorem dX12_mountain_89 : decode cX12_mountain 89 = .ok (.invokevirtual 204, 3) := by decide +kernel
theorem dX12_mountain_92 : decode cX12_mountain 92 = .ok (.ifCond .ne 18, 3) := by decide +kernel
theorem dX12_mountain_95 : decode cX12_mountain 95 = .ok (.aload_n 0, 1) := by decide +kernel
theorem dX12_mountain_96 : decode cX12_mountain 96 = .ok (.invokevirtual 207, 3) := by decide +kernel
theorem dX12_mountain_99 : decode cX12_mountain 99 = .ok (.sipush (-2000), 3) := by decide +kernel
theorem dX12_mountain_102 : decode cX12_mountain 102 = .ok (.aload_n 0, 1) := by decide +kernel
theorem dX12_mountain_103 : decode cX12_mountain 103 = .ok (.getfield 58, 3) := by decide +kernel
theorem dX12_mountain_106 : decode cX12_mountain 106 = .ok (.iload_n 1, 1) := by decide +kernel
theorem dX12_mountain_107 : decode cX12_mountain 107 = .ok (.iaload, 1) := by decide +kernel
theorem dX12_mountain_108 : decode cX12_mountain 108 = .ok (.isub, 1) := by decide +kernel
theorem dX12_mountain_109 : decode cX12_mountain 109 = .ok (.ireturn, 1) := by decide +kernel
theorem dX12_mountain_110 : decode cX12_mountain 110 = .ok (.iinc 1 1, 3) := by decide +kernel
theorem dX12_mountain_113 : decode cX12_mountain 113 = .ok (.goto (-34), 3) := by decide +kernel
theorem dX12_mountain_116 : decode cX12_mountain 116 = .ok (.aload_n 0, 1) := by decide +kernel
theorem dX12_mountain_117 : decode cX12_mountain 117 = .ok (.getfield 186, 3) := by decide +kernel
theorem dX12_mountain_120 : decode cX12_mountain 120 = .ok (.ireturn, 1) := by decide +kernel
theorem dX12_house_0 : decode cX12_house 0 = .ok (.aload_n 0, 1) := by decide +kernel
theorem dX12_house_1 : decode cX12_house 1 = .ok (.iconst 0, 1) := by decide +kernel
theorem dX12_house_2 : decode cX12_house 2 = .ok (.putfield 73, 3) := by decide +kernel
theorem dX12_house_5 : decode cX12_house 5 = .ok (.aload_n 0, 1) := by decide +kernel
theorem dX12_house_6 : decode cX12_house 6 = .ok (.iload_n 1, 1) := by decide +kernel
theorem dX12_house_7 : decode cX12_house 7 = .ok (.invokevirtual 84, 3) := by decide +kernel
theorem dX12_house_10 : decode cX12_house 10 = .ok (.ifCond .ne 9, 3) := by decide +kernel
theorem dX12_house_13 : decode cX12_house 13 = .ok (.aload_n 0, 1) := by decide +kernel
theorem dX12_house_14 : decode cX12_house 14 = .ok (.iconst (-1), 1) := by decide +kernel
theorem dX12_house_15 : decode cX12_house 15 = .ok (.invokevirtual 163, 3) := by decide +kernel
theorem dX12_house_18 : decode cX12_house 18 = .ok (.ireturn, 1) := by decide +kernel
theorem dX12_house_19 : decode cX12_house 19 = .ok (.iload_n 2, 1) := by decide +kernel
theorem dX12_house_20 : decode cX12_house 20 = .ok (.tableswitch 124 0 9 #[56, 63, 70, 77, 83, 89, 96, 103, 110, 117], 56) := by decide +kernel
theorem dX12_house_76 : decode cX12_house 76 = .ok (.aload_n 0, 1) := by decide +kernel
theorem dX12_house_77 : decode cX12_house 77 = .ok (.getfield 7, 3) := by decide +kernel
theorem dX12_house_80 : decode cX12_house 80 = .ok (.iload_n 1, 1) := by decide +kernel
theorem dX12_house_81 : decode cX12_house 81 = .ok (.iaload, 1) := by decide +kernel
theorem dX12_house_82 : decode cX12_house 82 = .ok (.ireturn, 1) := by decide +kernel
theorem dX12_house_83 : decode cX12_house 83 = .ok (.aload_n 0, 1) := by decide +kernel
theorem dX12_house_84 : decode cX12_house 84 = .ok (.getfield 13, 3) := by decide +kernel
theorem dX12_house_87 : decode cX12_house 87 = .ok (.iload_n 1, 1) := by decide +kernel
theorem dX12_house_88 : decode cX12_house 88 = .ok (.iaload, 1) := by decide +kernel
theorem dX12_house_89 : decode cX12_house 89 = .ok (.ireturn, 1) := by decide +kernel
theorem dX12_house_90 : decode cX12_house 90 = .ok (.aload_n 0, 1) := by decide +kernel
theorem dX12_house_91 : decode cX12_house 91 = .ok (.getfield 16, 3) := by decide +kernel
theorem dX12_house_94 : decode cX12_house 94 = .ok (.iload_n 1, 1) := by decide +kernel
theorem dX12_house_95 : decode cX12_house 95 = .ok (.iaload, 1) := by decide +kernel
theorem dX12_house_96 : decode cX12_house 96 = .ok (.ireturn, 1) := by decide +kernel
theorem dX12_house_97 : decode cX12_house 97 = .ok (.aload_n 0, 1) := by decide +kernel
theorem dX12_house_98 : decode cX12_house 98 = .ok (.iload_n 1, 1) := by decide +kernel
theorem dX12_house_99 : decode cX12_house 99 = .ok (.invokevirtual 90, 3) := by decide +kernel
theorem dX12_house_102 : decode cX12_house 102 = .ok (.ireturn, 1) := by decide +kernel
theorem dX12_house_103 : decode cX12_house 103 = .ok (.aload_n 0, 1) := by decide +kernel
theorem dX12_house_104 : decode cX12_house 104 = .ok (.iload_n 1, 1) := by decide +kernel
theorem dX12_house_105 : decode cX12_house 105 = .ok (.invokevirtual 94, 3) := by decide +kernel
theorem dX12_house_108 : decode cX12_house 108 = .ok (.ireturn, 1) := by decide +kernel
theorem dX12_house_109 : decode cX12_house 109 = .ok (.aload_n 0, 1) := by decide +kernel
theorem dX12_house_110 : decode cX12_house 110 = .ok (.getfield 19, 3) := by decide +kernel
theorem dX12_house_113 : decode cX12_house 113 = .ok (.iload_n 1, 1) := by decide +kernel
theorem dX12_house_114 : decode cX12_house 114 = .ok (.iaload, 1) := by decide +kernel
theorem dX12_house_115 : decode cX12_house 115 = .ok (.ireturn, 1) := by decide +kernel
theorem dX12_house_116 : decode cX12_house 116 = .ok (.aload_n 0, 1) := by decide +kernel
theorem dX12_house_117 : decode cX12_house 117 = .ok (.getfield 22, 3) := by decide +kernel
theorem dX12_house_120 : decode cX12_house 120 = .ok (.iload_n 1, 1) := by decide +kernel
theorem dX12_house_121 : decode cX12_house 121 = .ok (.iaload, 1) := by decide +kernel
theorem dX12_house_122 : decode cX12_house 122 = .ok (.ireturn, 1) := by decide +kernel
theorem dX12_house_123 : decode cX12_house 123 = .ok (.aload_n 0, 1) := by decide +kernel
theorem dX12_house_124 : decode cX12_house 124 = .ok (.getfield 25, 3) := by decide +kernel
theorem dX12_house_127 : decode cX12_house 127 = .ok (.iload_n 1, 1) := by decide +kernel
theorem dX12_house_128 : decode cX12_house 128 = .ok (.iaload, 1) := by decide +kernel
theorem dX12_house_129 : decode cX12_house 129 = .ok (.ireturn, 1) := by decide +kernel
theorem dX12_house_130 : decode cX12_house 130 = .ok (.aload_n 0, 1) := by decide +kernel
theorem dX12_house_131 : decode cX12_house 131 = .ok (.getfield 28, 3) := by decide +kernel
theorem dX12_house_134 : decode cX12_house 134 = .ok (.iload_n 1, 1) := by decide +kernel
theorem dX12_house_135 : decode cX12_house 135 = .ok (.iaload, 1) := by decide +kernel
theorem dX12_house_136 : decode cX12_house 136 = .ok (.ireturn, 1) := by decide +kernel
theorem dX12_house_137 : decode cX12_house 137 = .ok (.aload_n 0, 1) := by decide +kernel
theorem dX12_house_138 : decode cX12_house 138 = .ok (.getfield 31, 3) := by decide +kernel
theorem dX12_house_141 : decode cX12_house 141 = .ok (.iload_n 1, 1) := by decide +kernel
theorem dX12_house_142 : decode cX12_house 142 = .ok (.iaload, 1) := by decide +kernel
theorem dX12_house_143 : decode cX12_house 143 = .ok (.ireturn, 1) := by decide +kernel
theorem dX12_house_144 : decode cX12_house 144 = .ok (.aload_n 0, 1) := by decide +kernel
theorem dX12_house_145 : decode cX12_house 145 = .ok (.bipush (-2), 2) := by decide +kernel
theorem dX12_house_147 : decode cX12_house 147 = .ok (.invokevirtual 163, 3) := by decide +kernel
theorem dX12_house_150 : decode cX12_house 150 = .ok (.ireturn, 1) := by decide +kernel
theorem dX12_store_0 : decode cX12_store 0 = .ok (.aload_n 0, 1) := by decide +kernel
theorem dX12_store_1 : decode cX12_store 1 = .ok (.iconst 0, 1) := by decide +kernel
theorem dX12_store_2 : decode cX12_store 2 = .ok (.putfield 73, 3) := by decide +kernel
theorem dX12_store_5 : decode cX12_store 5 = .ok (.aload_n 0, 1) := by decide +kernel
theorem dX12_store_6 : decode cX12_store 6 = .ok (.iload_n 1, 1) := by decide +kernel
theorem dX12_store_7 : decode cX12_store 7 = .ok (.invokevirtual 84, 3) := by decide +kernel
theorem dX12_store_10 : decode cX12_store 10 = .ok (.ifCond .eq 23, 3) := by decide +kernel
theorem dX12_store_13 : decode cX12_store 13 = .ok (.iload_n 2, 1) := by decide +kernel
theorem dX12_store_14 : decode cX12_store 14 = .ok (.invokestatic 210, 3) := by decide +kernel
theorem dX12_store_17 : decode cX12_store 17 = .ok (.ifCond .eq 16, 3) := by decide +kernel
theorem dX12_store_20 : decode cX12_store 20 = .ok (.aload_n 0, 1) := by decide +kernel
theorem dX12_store_21 : decode cX12_store 21 = .ok (.getfield 34, 3) := by decide +kernel
theorem dX12_store_24 : decode cX12_store 24 = .ok (.iconst 3, 1) := by decide +kernel
theorem dX12_store_25 : decode cX12_store 25 = .ok (.iload_n 1, 1) := by decide +kernel
theorem dX12_store_26 : decode cX12_store 26 = .ok (.imul, 1) := by decide +kernel
theorem dX12_store_27 : decode cX12_store 27 = .ok (.iload_n 2, 1) := by decide +kernel
theorem dX12_store_28 : decode cX12_store 28 = .ok (.iadd, 1) := by decide +kernel
theorem dX12_store_29 : decode cX12_store 29 = .ok (.iaload, 1) := by decide +kernel
theorem dX12_store_30 : decode cX12_store 30 = .ok (.goto 8, 3) := by decide +kernel
theorem dX12_store_33 : decode cX12_store 33 = .ok (.aload_n 0, 1) := by decide +kernel
theorem dX12_store_34 : decode cX12_store 34 = .ok (.iconst (-1), 1) := by decide +kernel
theorem dX12_store_35 : decode cX12_store 35 = .ok (.invokevirtual 163, 3) := by decide +kernel
theorem dX12_store_38 : decode cX12_store 38 = .ok (.ireturn, 1) := by decide +kernel
theorem dX12_price_0 : decode cX12_price 0 = .ok (.aload_n 0, 1) := by decide +kernel
theorem dX12_price_1 : decode cX12_price 1 = .ok (.iconst 0, 1) := by decide +kernel
theorem dX12_price_2 : decode cX12_price 2 = .ok (.putfield 73, 3) := by decide +kernel
theorem dX12_price_5 : decode cX12_price 5 = .ok (.iload_n 1, 1) := by decide +kernel
theorem dX12_price_6 : decode cX12_price 6 = .ok (.invokestatic 210, 3) := by decide +kernel
theorem dX12_price_9 : decode cX12_price 9 = .ok (.ifCond .ne 7, 3) := by decide +kernel
theorem dX12_price_12 : decode cX12_price 12 = .ok (.iconst (-1), 1) := by decide +kernel
theorem dX12_price_13 : decode cX12_price 13 = .ok (.goto 25, 3) := by decide +kernel
theorem dX12_price_16 : decode cX12_price 16 = .ok (.iload_n 2, 1) := by decide +kernel
theorem dX12_price_17 : decode cX12_price 17 = .ok (.iconst 1, 1) := by decide +kernel
theorem dX12_price_18 : decode cX12_price 18 = .ok (.if_icmp .ge 8, 3) := by decide +kernel
theorem dX12_price_21 : decode cX12_price 21 = .ok (.bipush (-4), 2) := by decide +kernel
theorem dX12_price_23 : decode cX12_price 23 = .ok (.goto 15, 3) := by decide +kernel
theorem dX12_price_26 : decode cX12_price 26 = .ok (.iload_n 2, 1) := by decide +kernel
theorem dX12_price_27 : decode cX12_price 27 = .ok (.bipush 9, 2) := by decide +kernel
theorem dX12_price_29 : decode cX12_price 29 = .ok (.if_icmp .le 8, 3) := by decide +kernel
theorem dX12_price_32 : decode cX12_price 32 = .ok (.bipush (-6), 2) := by decide +kernel
theorem dX12_price_34 : decode cX12_price 34 = .ok (.goto 4, 3) := by decide +kernel
theorem dX12_price_37 : decode cX12_price 37 = .ok (.iconst 0, 1) := by decide +kernel
theorem dX12_price_38 : decode cX12_price 38 = .ok (.istore_n 3, 1) := by decide +kernel
theorem dX12_price_39 : decode cX12_price 39 = .ok (.iload_n 3, 1) := by decide +kernel
theorem dX12_price_40 : decode cX12_price 40 = .ok (.ifCond .ge 9, 3) := by decide +kernel
theorem dX12_price_43 : decode cX12_price 43 = .ok (.aload_n 0, 1) := by decide +kernel
theorem dX12_price_44 : decode cX12_price 44 = .ok (.iload_n 3, 1) := by decide +kernel
theorem dX12_price_45 : decode cX12_price 45 = .ok (.invokevirtual 163, 3) := by decide +kernel
theorem dX12_price_48 : decode cX12_price 48 = .ok (.ireturn, 1) := by decide +kernel
theorem dX12_price_49 : decode cX12_price 49 = .ok (.aload_n 0, 1) := by decide +kernel
theorem dX12_price_50 : decode cX12_price 50 = .ok (.getfield 40, 3) := by decide +kernel
theorem dX12_price_53 : decode cX12_price 53 = .ok (.iload_n 1, 1) := by decide +kernel
theorem dX12_price_54 : decode cX12_price 54 = .ok (.iaload, 1) := by decide +kernel
theorem dX12_price_55 : decode cX12_price 55 = .ok (.istore 4, 2) := by decide +kernel
theorem dX12_price_57 : decode cX12_price 57 = .ok (.aload_n 0, 1) := by decide +kernel
theorem dX12_price_58 : decode cX12_price 58 = .ok (.getfield 40, 3) := by decide +kernel
theorem dX12_price_61 : decode cX12_price 61 = .ok (.iload_n 1, 1) := by decide +kernel
theorem dX12_price_62 : decode cX12_price 62 = .ok (.iload_n 2, 1) := by decide +kernel
theorem dX12_price_63 : decode cX12_price 63 = .ok (.iastore, 1) := by decide +kernel
theorem dX12_price_64 : decode cX12_price 64 = .ok (.iload 4, 2) := by decide +kernel
theorem dX12_price_66 : decode cX12_price 66 = .ok (.ireturn, 1) := by decide +kernel
theorem dX12_law_0 : decode cX12_law 0 = .ok (.aload_n 0, 1) := by decide +kernel
theorem dX12_law_1 : decode cX12_law 1 = .ok (.iconst 0, 1) := by decide +kernel
theorem dX12_law_2 : decode cX12_law 2 = .ok (.putfield 73, 3) := by decide +kernel
theorem dX12_law_5 : decode cX12_law 5 = .ok (.iload_n 1, 1) := by decide +kernel
theorem dX12_law_6 : decode cX12_law 6 = .ok (.i2l, 1) := by decide +kernel
theorem dX12_law_7 : decode cX12_law 7 = .ok (.lconst 0, 1) := by decide +kernel
theorem dX12_law_8 : decode cX12_law 8 = .ok (.ldc2_w 88, 3) := by decide +kernel
theorem dX12_law_11 : decode cX12_law 11 = .ok (.invokestatic 80, 3) := by decide +kernel
theorem dX12_law_14 : decode cX12_law 14 = .ok (.ifCond .ne 10, 3) := by decide +kernel
theorem dX12_law_17 : decode cX12_law 17 = .ok (.aload_n 0, 1) := by decide +kernel
theorem dX12_law_18 : decode cX12_law 18 = .ok (.bipush (-2), 2) := by decide +kernel
theorem dX12_law_20 : decode cX12_law 20 = .ok (.invokevirtual 163, 3) := by decide +kernel
theorem dX12_law_23 : decode cX12_law 23 = .ok (.ireturn, 1) := by decide +kernel
theorem dX12_law_24 : decode cX12_law 24 = .ok (.aload_n 0, 1) := by decide +kernel
theorem dX12_law_25 : decode cX12_law 25 = .ok (.getfield 97, 3) := by decide +kernel
theorem dX12_law_28 : decode cX12_law 28 = .ok (.istore_n 2, 1) := by decide +kernel
theorem dX12_law_29 : decode cX12_law 29 = .ok (.aload_n 0, 1) := by decide +kernel
theorem dX12_law_30 : decode cX12_law 30 = .ok (.iload_n 1, 1) := by decide +kernel
theorem dX12_law_31 : decode cX12_law 31 = .ok (.putfield 97, 3) := by decide +kernel
theorem dX12_law_34 : decode cX12_law 34 = .ok (.iload_n 2, 1) := by decide +kernel
theorem dX12_law_35 : decode cX12_law 35 = .ok (.ireturn, 1) := by decide +kernel
theorem dX12_lawful_0 : decode cX12_lawful 0 = .ok (.aload_n 0, 1) := by decide +kernel
theorem dX12_lawful_1 : decode cX12_lawful 1 = .ok (.iconst 0, 1) := by decide +kernel
theorem dX12_lawful_2 : decode cX12_lawful 2 = .ok (.putfield 73, 3) := by decide +kernel
theorem dX12_lawful_5 : decode cX12_lawful 5 = .ok (.aload_n 0, 1) := by decide +kernel
theorem dX12_lawful_6 : decode cX12_lawful 6 = .ok (.iload_n 1, 1) := by decide +kernel
theorem dX12_lawful_7 : decode cX12_lawful 7 = .ok (.iload_n 2, 1) := by decide +kernel
theorem dX12_lawful_8 : decode cX12_lawful 8 = .ok (.invokevirtual 195, 3) := by decide +kernel
theorem dX12_lawful_11 : decode cX12_lawful 11 = .ok (.ifCond .ne 9, 3) := by decide +kernel
theorem dX12_lawful_14 : decode cX12_lawful 14 = .ok (.aload_n 0, 1) := by decide +kernel
theorem dX12_lawful_15 : decode cX12_lawful 15 = .ok (.iconst (-1), 1) := by decide +kernel
theorem dX12_lawful_16 : decode cX12_lawful 16 = .ok (.invokevirtual 163, 3) := by decide +kernel
theorem dX12_lawful_19 : decode cX12_lawful 19 = .ok (.ireturn, 1) := by decide +kernel
theorem dX12_lawful_20 : decode cX12_lawful 20 = .ok (.aload_n 0, 1) := by decide +kernel
theorem dX12_lawful_21 : decode cX12_lawful 21 = .ok (.iload_n 1, 1) := by decide +kernel
theorem dX12_lawful_22 : decode cX12_lawful 22 = .ok (.iload_n 2, 1) := by decide +kernel
theorem dX12_lawful_23 : decode cX12_lawful 23 = .ok (.invokevirtual 100, 3) := by decide +kernel
theorem dX12_lawful_26 : decode cX12_lawful 26 = .ok (.ifCond .eq 7, 3) := by decide +kernel
theorem dX12_lawful_29 : decode cX12_lawful 29 = .ok (.iconst 1, 1) := by decide +kernel
theorem dX12_lawful_30 : decode cX12_lawful 30 = .ok (.goto 4, 3) := by decide +kernel
theorem dX12_lawful_33 : decode cX12_lawful 33 = .ok (.iconst 0, 1) := by decide +kernel
theorem dX12_lawful_34 : decode cX12_lawful 34 = .ok (.ireturn, 1) := by decide +kernel
theorem dX12_sale_0 : decode cX12_sale 0 = .ok (.aload_n 0, 1) := by decide +kernel
theorem dX12_sale_1 : decode cX12_sale 1 = .ok (.iconst 0, 1) := by decide +kernel
theorem dX12_sale_2 : decode cX12_sale 2 = .ok (.putfield 73, 3) := by decide +kernel
theorem dX12_sale_5 : decode cX12_sale 5 = .ok (.aload_n 0, 1) := by decide +kernel
theorem dX12_sale_6 : decode cX12_sale 6 = .ok (.iload_n 1, 1) := by decide +kernel
theorem dX12_sale_7 : decode cX12_sale 7 = .ok (.iload_n 2, 1) := by decide +kernel
theorem dX12_sale_8 : decode cX12_sale 8 = .ok (.invokevirtual 195, 3) := by decide +kernel
theorem dX12_sale_11 : decode cX12_sale 11 = .ok (.ifCond .eq 10, 3) := by decide +kernel
theorem dX12_sale_14 : decode cX12_sale 14 = .ok (.iload_n 3, 1) := by decide +kernel
theorem dX12_sale_15 : decode cX12_sale 15 = .ok (.invokestatic 210, 3) := by decide +kernel
theorem dX12_sale_18 : decode cX12_sale 18 = .ok (.ifCond .ne 9, 3) := by decide +kernel
theorem dX12_sale_21 : decode cX12_sale 21 = .ok (.aload_n 0, 1) := by decide +kernel
theorem dX12_sale_22 : decode cX12_sale 22 = .ok (.iconst (-1), 1) := by decide +kernel
theorem dX12_sale_23 : decode cX12_sale 23 = .ok (.invokevirtual 163, 3) := by decide +kernel
theorem dX12_sale_26 : decode cX12_sale 26 = .ok (.ireturn, 1) := by decide +kernel
theorem dX12_sale_27 : decode cX12_sale 27 = .ok (.aload_n 0, 1) := by decide +kernel
theorem dX12_sale_28 : decode cX12_sale 28 = .ok (.iload_n 1, 1) := by decide +kernel
theorem dX12_sale_29 : decode cX12_sale 29 = .ok (.iload_n 2, 1) := by decide +kernel
theorem dX12_sale_30 : decode cX12_sale 30 = .ok (.iload_n 3, 1) := by decide +kernel
theorem dX12_sale_31 : decode cX12_sale 31 = .ok (.invokevirtual 107, 3) := by decide +kernel
theorem dX12_sale_34 : decode cX12_sale 34 = .ok (.ifCond .ne 10, 3) := by decide +kernel
theorem dX12_sale_37 : decode cX12_sale 37 = .ok (.aload_n 0, 1) := by decide +kernel
theorem dX12_sale_38 : decode cX12_sale 38 = .ok (.bipush (-3), 2) := by decide +kernel
theorem dX12_sale_40 : decode cX12_sale 40 = .ok (.invokevirtual 163, 3) := by decide +kernel
theorem dX12_sale_43 : decode cX12_sale 43 = .ok (.ireturn, 1) := by decide +kernel
theorem dX12_sale_44 : decode cX12_sale 44 = .ok (.aload_n 0, 1) := by decide +kernel
theorem dX12_sale_45 : decode cX12_sale 45 = .ok (.iload_n 1, 1) := by decide +kernel
theorem dX12_sale_46 : decode cX12_sale 46 = .ok (.iload_n 2, 1) := by decide +kernel
theorem dX12_sale_47 : decode cX12_sale 47 = .ok (.iload_n 3, 1) := by decide +kernel
theorem dX12_sale_48 : decode cX12_sale 48 = .ok (.invokevirtual 111, 3) := by decide +kernel
theorem dX12_sale_51 : decode cX12_sale 51 = .ok (.aload_n 0, 1) := by decide +kernel
theorem dX12_sale_52 : decode cX12_sale 52 = .ok (.getfield 31, 3) := by decide +kernel
theorem dX12_sale_55 : decode cX12_sale 55 = .ok (.iload_n 2, 1) := by decide +kernel
theorem dX12_sale_56 : decode cX12_sale 56 = .ok (.iaload, 1) := by decide +kernel
theorem dX12_sale_57 : decode cX12_sale 57 = .ok (.ireturn, 1) := by decide +kernel
theorem dX12_week_0 : decode cX12_week 0 = .ok (.aload_n 0, 1) := by decide +kernel
theorem dX12_week_1 : decode cX12_week 1 = .ok (.iconst 0, 1) := by decide +kernel
theorem dX12_week_2 : decode cX12_week 2 = .ok (.putfield 73, 3) := by decide +kernel
theorem dX12_week_5 : decode cX12_week 5 = .ok (.aload_n 0, 1) := by decide +kernel
theorem dX12_week_6 : decode cX12_week 6 = .ok (.getfield 122, 3) := by decide +kernel
theorem dX12_week_9 : decode cX12_week 9 = .ok (.sipush 9999, 3) := by decide +kernel
theorem dX12_week_12 : decode cX12_week 12 = .ok (.if_icmp .ne 12, 3) := by decide +kernel
theorem dX12_week_15 : decode cX12_week 15 = .ok (.aload_n 0, 1) := by decide +kernel
theorem dX12_week_16 : decode cX12_week 16 = .ok (.bipush (-6), 2) := by decide +kernel
theorem dX12_week_18 : decode cX12_week 18 = .ok (.invokevirtual 163, 3) := by decide +kernel
theorem dX12_week_21 : decode cX12_week 21 = .ok (.goto 7, 3) := by decide +kernel
theorem dX12_week_24 : decode cX12_week 24 = .ok (.aload_n 0, 1) := by decide +kernel
theorem dX12_week_25 : decode cX12_week 25 = .ok (.invokevirtual 213, 3) := by decide +kernel
theorem dX12_week_28 : decode cX12_week 28 = .ok (.ireturn, 1) := by decide +kernel
theorem dX12_mule_0 : decode cX12_mule 0 = .ok (.aload_n 0, 1) := by decide +kernel
theorem dX12_mule_1 : decode cX12_mule 1 = .ok (.iconst 0, 1) := by decide +kernel
theorem dX12_mule_2 : decode cX12_mule 2 = .ok (.putfield 73, 3) := by decide +kernel
theorem dX12_mule_5 : decode cX12_mule 5 = .ok (.aload_n 0, 1) := by decide +kernel
theorem dX12_mule_6 : decode cX12_mule 6 = .ok (.iload_n 1, 1) := by decide +kernel
theorem dX12_mule_7 : decode cX12_mule 7 = .ok (.iload_n 2, 1) := by decide +kernel
theorem dX12_mule_8 : decode cX12_mule 8 = .ok (.invokevirtual 195, 3) := by decide +kernel
theorem dX12_mule_11 : decode cX12_mule 11 = .ok (.ifCond .ne 7, 3) := by decide +kernel
theorem dX12_mule_14 : decode cX12_mule 14 = .ok (.iconst (-1), 1) := by decide +kernel
theorem dX12_mule_15 : decode cX12_mule 15 = .ok (.goto 30, 3) := by decide +kernel
theorem dX12_mule_18 : decode cX12_mule 18 = .ok (.iload_n 3, 1) := by decide +kernel
theorem dX12_mule_19 : decode cX12_mule 19 = .ok (.iconst 1, 1) := by decide +kernel
theorem dX12_mule_20 : decode cX12_mule 20 = .ok (.if_icmp .ge 8, 3) := by decide +kernel
theorem dX12_mule_23 : decode cX12_mule 23 = .ok (.bipush (-4), 2) := by decide +kernel
theorem dX12_mule_25 : decode cX12_mule 25 = .ok (.goto 20, 3) := by decide +kernel
theorem dX12_mule_28 : decode cX12_mule 28 = .ok (.aload_n 0, 1) := by decide +kernel
theorem dX12_mule_29 : decode cX12_mule 29 = .ok (.getfield 122, 3) := by decide +kernel
theorem dX12_mule_32 : decode cX12_mule 32 = .ok (.aload_n 0, 1) := by decide +kernel
theorem dX12_mule_33 : decode cX12_mule 33 = .ok (.getfield 153, 3) := by decide +kernel
theorem dX12_mule_36 : decode cX12_mule 36 = .ok (.if_icmp .ge 8, 3) := by decide +kernel
theorem dX12_mule_39 : decode cX12_mule 39 = .ok (.bipush (-3), 2) := by decide +kernel
theorem dX12_mule_41 : decode cX12_mule 41 = .ok (.goto 4, 3) := by decide +kernel
theorem dX12_mule_44 : decode cX12_mule 44 = .ok (.iconst 0, 1) := by decide +kernel
theorem dX12_mule_45 : decode cX12_mule 45 = .ok (.istore 4, 2) := by decide +kernel
theorem dX12_mule_47 : decode cX12_mule 47 = .ok (.iload 4, 2) := by decide +kernel
theorem dX12_mule_49 : decode cX12_mule 49 = .ok (.ifCond .ne 31, 3) := by decide +kernel
theorem dX12_mule_52 : decode cX12_mule 52 = .ok (.iload_n 3, 1) := by decide +kernel
theorem dX12_mule_53 : decode cX12_mule 53 = .ok (.aload_n 0, 1) := by decide +kernel
theorem dX12_mule_54 : decode cX12_mule 54 = .ok (.getfield 31, 3) := by decide +kernel
theorem dX12_mule_57 : decode cX12_mule 57 = .ok (.iload_n 1, 1) := by decide +kernel
theorem dX12_mule_58 : decode cX12_mule 58 = .ok (.iaload, 1) := by decide +kernel
theorem dX12_mule_59 : decode cX12_mule 59 = .ok (.if_icmp .gt 17, 3) := by decide +kernel
theorem dX12_mule_62 : decode cX12_mule 62 = .ok (.aload_n 0, 1) := by decide +kernel
theorem dX12_mule_63 : decode cX12_mule 63 = .ok (.getfield 31, 3) := by decide +kernel
theorem dX12_mule_66 : decode cX12_mule 66 = .ok (.iload_n 2, 1) := by decide +kernel
theorem dX12_mule_67 : decode cX12_mule 67 = .ok (.iaload, 1) := by decide +kernel
theorem dX12_mule_68 : decode cX12_mule 68 = .ok (.iload_n 3, 1) := by decide +kernel
theorem dX12_mule_69 : decode cX12_mule 69 = .ok (.iadd, 1) := by decide +kernel
theorem dX12_mule_70 : decode cX12_mule 70 = .ok (.sipush 9999, 3) := by decide +kernel
theorem dX12_mule_73 : decode cX12_mule 73 = .ok (.if_icmp .le 7, 3) := by decide +kernel
theorem dX12_mule_76 : decode cX12_mule 76 = .ok (.bipush (-6), 2) := by decide +kernel
theorem dX12_mule_78 : decode cX12_mule 78 = .ok (.istore 4, 2) := by decide +kernel
theorem dX12_mule_80 : decode cX12_mule 80 = .ok (.iload 4, 2) := by decide +kernel
theorem dX12_mule_82 : decode cX12_mule 82 = .ok (.ifCond .ge 10, 3) := by decide +kernel
theorem dX12_mule_85 : decode cX12_mule 85 = .ok (.aload_n 0, 1) := by decide +kernel
theorem dX12_mule_86 : decode cX12_mule 86 = .ok (.iload 4, 2) := by decide +kernel
theorem dX12_mule_88 : decode cX12_mule 88 = .ok (.invokevirtual 163, 3) := by decide +kernel
theorem dX12_mule_91 : decode cX12_mule 91 = .ok (.ireturn, 1) := by decide +kernel
theorem dX12_mule_92 : decode cX12_mule 92 = .ok (.aload_n 0, 1) := by decide +kernel
theorem dX12_mule_93 : decode cX12_mule 93 = .ok (.getfield 31, 3) := by decide +kernel
theorem dX12_mule_96 : decode cX12_mule 96 = .ok (.iload_n 1, 1) := by decide +kernel
theorem dX12_mule_97 : decode cX12_mule 97 = .ok (.dup2, 1) := by decide +kernel
theorem dX12_mule_98 : decode cX12_mule 98 = .ok (.iaload, 1) := by decide +kernel
theorem dX12_mule_99 : decode cX12_mule 99 = .ok (.iload_n 3, 1) := by decide +kernel
theorem dX12_mule_100 : decode cX12_mule 100 = .ok (.isub, 1) := by decide +kernel
theorem dX12_mule_101 : decode cX12_mule 101 = .ok (.iastore, 1) := by decide +kernel
theorem dX12_mule_102 : decode cX12_mule 102 = .ok (.aload_n 0, 1) := by decide +kernel
theorem dX12_mule_103 : decode cX12_mule 103 = .ok (.getfield 31, 3) := by decide +kernel
theorem dX12_mule_106 : decode cX12_mule 106 = .ok (.iload_n 2, 1) := by decide +kernel
theorem dX12_mule_107 : decode cX12_mule 107 = .ok (.dup2, 1) := by decide +kernel
theorem dX12_mule_108 : decode cX12_mule 108 = .ok (.iaload, 1) := by decide +kernel
theorem dX12_mule_109 : decode cX12_mule 109 = .ok (.iload_n 3, 1) := by decide +kernel
theorem dX12_mule_110 : decode cX12_mule 110 = .ok (.iadd, 1) := by decide +kernel
theorem dX12_mule_111 : decode cX12_mule 111 = .ok (.iastore, 1) := by decide +kernel
theorem dX12_mule_112 : decode cX12_mule 112 = .ok (.aload_n 0, 1) := by decide +kernel
theorem dX12_mule_113 : decode cX12_mule 113 = .ok (.aload_n 0, 1) := by decide +kernel
theorem dX12_mule_114 : decode cX12_mule 114 = .ok (.getfield 122, 3) := by decide +kernel
theorem dX12_mule_117 : decode cX12_mule 117 = .ok (.bipush 52, 2) := by decide +kernel
theorem dX12_mule_119 : decode cX12_mule 119 = .ok (.iadd, 1) := by decide +kernel
theorem dX12_mule_120 : decode cX12_mule 120 = .ok (.putfield 153, 3) := by decide +kernel
theorem dX12_mule_123 : decode cX12_mule 123 = .ok (.aload_n 0, 1) := by decide +kernel
theorem dX12_mule_124 : decode cX12_mule 124 = .ok (.getfield 153, 3) := by decide +kernel
theorem dX12_mule_127 : decode cX12_mule 127 = .ok (.ireturn, 1) := by decide +kernel
theorem dX12_owe_0 : decode cX12_owe 0 = .ok (.aload_n 0, 1) := by decide +kernel
theorem dX12_owe_1 : decode cX12_owe 1 = .ok (.iconst 0, 1) := by decide +kernel
theorem dX12_owe_2 : decode cX12_owe 2 = .ok (.putfield 73, 3) := by decide +kernel
theorem dX12_owe_5 : decode cX12_owe 5 = .ok (.aload_n 0, 1) := by decide +kernel
theorem dX12_owe_6 : decode cX12_owe 6 = .ok (.iload_n 1, 1) := by decide +kernel
theorem dX12_owe_7 : decode cX12_owe 7 = .ok (.iload_n 2, 1) := by decide +kernel
theorem dX12_owe_8 : decode cX12_owe 8 = .ok (.invokevirtual 195, 3) := by decide +kernel
theorem dX12_owe_11 : decode cX12_owe 11 = .ok (.ifCond .ne 7, 3) := by decide +kernel
theorem dX12_owe_14 : decode cX12_owe 14 = .ok (.iconst (-1), 1) := by decide +kernel
theorem dX12_owe_15 : decode cX12_owe 15 = .ok (.goto 24, 3) := by decide +kernel
theorem dX12_owe_18 : decode cX12_owe 18 = .ok (.iload_n 3, 1) := by decide +kernel
theorem dX12_owe_19 : decode cX12_owe 19 = .ok (.ifCond .ge 8, 3) := by decide +kernel
theorem dX12_owe_22 : decode cX12_owe 22 = .ok (.bipush (-4), 2) := by decide +kernel
theorem dX12_owe_24 : decode cX12_owe 24 = .ok (.goto 15, 3) := by decide +kernel
theorem dX12_owe_27 : decode cX12_owe 27 = .ok (.iload_n 3, 1) := by decide +kernel
theorem dX12_owe_28 : decode cX12_owe 28 = .ok (.bipush 99, 2) := by decide +kernel
theorem dX12_owe_30 : decode cX12_owe 30 = .ok (.if_icmp .le 8, 3) := by decide +kernel
theorem dX12_owe_33 : decode cX12_owe 33 = .ok (.bipush (-6), 2) := by decide +kernel
theorem dX12_owe_35 : decode cX12_owe 35 = .ok (.goto 4, 3) := by decide +kernel
theorem dX12_owe_38 : decode cX12_owe 38 = .ok (.iconst 0, 1) := by decide +kernel
theorem dX12_owe_39 : decode cX12_owe 39 = .ok (.istore 4, 2) := by decide +kernel
theorem dX12_owe_41 : decode cX12_owe 41 = .ok (.iload 4, 2) := by decide +kernel
theorem dX12_owe_43 : decode cX12_owe 43 = .ok (.ifCond .ge 10, 3) := by decide +kernel
theorem dX12_owe_46 : decode cX12_owe 46 = .ok (.aload_n 0, 1) := by decide +kernel
theorem dX12_owe_47 : decode cX12_owe 47 = .ok (.iload 4, 2) := by decide +kernel
theorem dX12_owe_49 : decode cX12_owe 49 = .ok (.invokevirtual 163, 3) := by decide +kernel
theorem dX12_owe_52 : decode cX12_owe 52 = .ok (.ireturn, 1) := by decide +kernel
theorem dX12_owe_53 : decode cX12_owe 53 = .ok (.aload_n 0, 1) := by decide +kernel
theorem dX12_owe_54 : decode cX12_owe 54 = .ok (.iload_n 1, 1) := by decide +kernel
theorem dX12_owe_55 : decode cX12_owe 55 = .ok (.iload_n 2, 1) := by decide +kernel
theorem dX12_owe_56 : decode cX12_owe 56 = .ok (.invokevirtual 125, 3) := by decide +kernel
theorem dX12_owe_59 : decode cX12_owe 59 = .ok (.istore 5, 2) := by decide +kernel
theorem dX12_owe_61 : decode cX12_owe 61 = .ok (.aload_n 0, 1) := by decide +kernel
theorem dX12_owe_62 : decode cX12_owe 62 = .ok (.getfield 37, 3) := by decide +kernel
theorem dX12_owe_65 : decode cX12_owe 65 = .ok (.bipush 6, 2) := by decide +kernel
theorem dX12_owe_67 : decode cX12_owe 67 = .ok (.iload_n 1, 1) := by decide +kernel
theorem dX12_owe_68 : decode cX12_owe 68 = .ok (.imul, 1) := by decide +kernel
theorem dX12_owe_69 : decode cX12_owe 69 = .ok (.iload_n 2, 1) := by decide +kernel
theorem dX12_owe_70 : decode cX12_owe 70 = .ok (.iadd, 1) := by decide +kernel
theorem dX12_owe_71 : decode cX12_owe 71 = .ok (.iload_n 3, 1) := by decide +kernel
theorem dX12_owe_72 : decode cX12_owe 72 = .ok (.iastore, 1) := by decide +kernel
theorem dX12_owe_73 : decode cX12_owe 73 = .ok (.iload 5, 2) := by decide +kernel
theorem dX12_owe_75 : decode cX12_owe 75 = .ok (.ireturn, 1) := by decide +kernel
theorem dX12_strike_0 : decode cX12_strike 0 = .ok (.aload_n 0, 1) := by decide +kernel
theorem dX12_strike_1 : decode cX12_strike 1 = .ok (.iconst 0, 1) := by decide +kernel
theorem dX12_strike_2 : decode cX12_strike 2 = .ok (.putfield 73, 3) := by decide +kernel
theorem dX12_strike_5 : decode cX12_strike 5 = .ok (.aload_n 0, 1) := by decide +kernel
theorem dX12_strike_6 : decode cX12_strike 6 = .ok (.invokevirtual 216, 3) := by decide +kernel
theorem dX12_strike_9 : decode cX12_strike 9 = .ok (.ireturn, 1) := by decide +kernel
theorem dX12_servedIn_0 : decode cX12_servedIn 0 = .ok (.iconst 0, 1) := by decide +kernel
theorem dX12_servedIn_1 : decode cX12_servedIn 1 = .ok (.istore_n 2, 1) := by decide +kernel
theorem dX12_servedIn_2 : decode cX12_servedIn 2 = .ok (.iconst 0, 1) := by decide +kernel
theorem dX12_servedIn_3 : decode cX12_servedIn 3 = .ok (.istore_n 3, 1) := by decide +kernel
theorem dX12_servedIn_4 : decode cX12_servedIn 4 = .ok (.iload_n 3, 1) := by decide +kernel
theorem dX12_servedIn_5 : decode cX12_servedIn 5 = .ok (.iload_n 1, 1) := by decide +kernel
theorem dX12_servedIn_6 : decode cX12_servedIn 6 = .ok (.if_icmp .ge 16, 3) := by decide +kernel
theorem dX12_servedIn_9 : decode cX12_servedIn 9 = .ok (.iload_n 2, 1) := by decide +kernel
theorem dX12_servedIn_10 : decode cX12_servedIn 10 = .ok (.aload_n 0, 1) := by decide +kernel
theorem dX12_servedIn_11 : decode cX12_servedIn 11 = .ok (.invokevirtual 213, 3) := by decide +kernel
theorem dX12_servedIn_14 : decode cX12_servedIn 14 = .ok (.iadd, 1) := by decide +kernel
theorem dX12_servedIn_15 : decode cX12_servedIn 15 = .ok (.istore_n 2, 1) := by decide +kernel
theorem dX12_servedIn_16 : decode cX12_servedIn 16 = .ok (.iinc 3 1, 3) := by decide +kernel
theorem dX12_servedIn_19 : decode cX12_servedIn 19 = .ok (.goto (-15), 3) := by decide +kernel
theorem dX12_servedIn_22 : decode cX12_servedIn 22 = .ok (.iload_n 2, 1) := by decide +kernel
theorem dX12_servedIn_23 : decode cX12_servedIn 23 = .ok (.ireturn, 1) := by decide +kernel
theorem dX12_behind_0 : decode cX12_behind 0 = .ok (.aload_n 0, 1) := by decide +kernel
theorem dX12_behind_1 : decode cX12_behind 1 = .ok (.iconst 0, 1) := by decide +kernel
theorem dX12_behind_2 : decode cX12_behind 2 = .ok (.putfield 73, 3) := by decide +kernel
theorem dX12_behind_5 : decode cX12_behind 5 = .ok (.aload_n 0, 1) := by decide +kernel
theorem dX12_behind_6 : decode cX12_behind 6 = .ok (.iload_n 1, 1) := by decide +kernel
theorem dX12_behind_7 : decode cX12_behind 7 = .ok (.invokevirtual 84, 3) := by decide +kernel
theorem dX12_behind_10 : decode cX12_behind 10 = .ok (.ifCond .ne 7, 3) := by decide +kernel
theorem dX12_behind_13 : decode cX12_behind 13 = .ok (.iconst (-1), 1) := by decide +kernel
theorem dX12_behind_14 : decode cX12_behind 14 = .ok (.goto 24, 3) := by decide +kernel
theorem dX12_behind_17 : decode cX12_behind 17 = .ok (.iload_n 2, 1) := by decide +kernel
theorem dX12_behind_18 : decode cX12_behind 18 = .ok (.ifCond .ge 8, 3) := by decide +kernel
theorem dX12_behind_21 : decode cX12_behind 21 = .ok (.bipush (-4), 2) := by decide +kernel
theorem dX12_behind_23 : decode cX12_behind 23 = .ok (.goto 15, 3) := by decide +kernel
theorem dX12_behind_26 : decode cX12_behind 26 = .ok (.iload_n 2, 1) := by decide +kernel
theorem dX12_behind_27 : decode cX12_behind 27 = .ok (.bipush 60, 2) := by decide +kernel
theorem dX12_behind_29 : decode cX12_behind 29 = .ok (.if_icmp .le 8, 3) := by decide +kernel
theorem dX12_behind_32 : decode cX12_behind 32 = .ok (.bipush (-6), 2) := by decide +kernel
theorem dX12_behind_34 : decode cX12_behind 34 = .ok (.goto 4, 3) := by decide +kernel
theorem dX12_behind_37 : decode cX12_behind 37 = .ok (.iconst 0, 1) := by decide +kernel
theorem dX12_behind_38 : decode cX12_behind 38 = .ok (.istore_n 3, 1) := by decide +kernel
theorem dX12_behind_39 : decode cX12_behind 39 = .ok (.iload_n 3, 1) := by decide +kernel
theorem dX12_behind_40 : decode cX12_behind 40 = .ok (.ifCond .ge 9, 3) := by decide +kernel
theorem dX12_behind_43 : decode cX12_behind 43 = .ok (.aload_n 0, 1) := by decide +kernel
theorem dX12_behind_44 : decode cX12_behind 44 = .ok (.iload_n 3, 1) := by decide +kernel
theorem dX12_behind_45 : decode cX12_behind 45 = .ok (.invokevirtual 163, 3) := by decide +kernel
theorem dX12_behind_48 : decode cX12_behind 48 = .ok (.ireturn, 1) := by decide +kernel
theorem dX12_behind_49 : decode cX12_behind 49 = .ok (.aload_n 0, 1) := by decide +kernel
theorem dX12_behind_50 : decode cX12_behind 50 = .ok (.invokevirtual 201, 3) := by decide +kernel
theorem dX12_behind_53 : decode cX12_behind 53 = .ok (.aload_n 0, 1) := by decide +kernel
theorem dX12_behind_54 : decode cX12_behind 54 = .ok (.iload_n 2, 1) := by decide +kernel
theorem dX12_behind_55 : decode cX12_behind 55 = .ok (.invokevirtual 219, 3) := by decide +kernel
theorem dX12_behind_58 : decode cX12_behind 58 = .ok (.pop, 1) := by decide +kernel
theorem dX12_behind_59 : decode cX12_behind 59 = .ok (.aload_n 0, 1) := by decide +kernel
theorem dX12_behind_60 : decode cX12_behind 60 = .ok (.getfield 31, 3) := by decide +kernel
theorem dX12_behind_63 : decode cX12_behind 63 = .ok (.iload_n 1, 1) := by decide +kernel
theorem dX12_behind_64 : decode cX12_behind 64 = .ok (.iaload, 1) := by decide +kernel
theorem dX12_behind_65 : decode cX12_behind 65 = .ok (.istore 4, 2) := by decide +kernel
theorem dX12_behind_67 : decode cX12_behind 67 = .ok (.aload_n 0, 1) := by decide +kernel
theorem dX12_behind_68 : decode cX12_behind 68 = .ok (.invokevirtual 207, 3) := by decide +kernel
theorem dX12_behind_71 : decode cX12_behind 71 = .ok (.iload 4, 2) := by decide +kernel
theorem dX12_behind_73 : decode cX12_behind 73 = .ok (.ireturn, 1) := by decide +kernel
theorem dX12_wantsOfAll_0 : decode cX12_wantsOfAll 0 = .ok (.iconst 0, 1) := by decide +kernel
theorem dX12_wantsOfAll_1 : decode cX12_wantsOfAll 1 = .ok (.istore_n 1, 1) := by decide +kernel
theorem dX12_wantsOfAll_2 : decode cX12_wantsOfAll 2 = .ok (.iconst 0, 1) := by decide +kernel
theorem dX12_wantsOfAll_3 : decode cX12_wantsOfAll 3 = .ok (.istore_n 2, 1) := by decide +kernel
theorem dX12_wantsOfAll_4 : decode cX12_wantsOfAll 4 = .ok (.iload_n 2, 1) := by decide +kernel
theorem dX12_wantsOfAll_5 : decode cX12_wantsOfAll 5 = .ok (.aload_n 0, 1) := by decide +kernel
theorem dX12_wantsOfAll_6 : decode cX12_wantsOfAll 6 = .ok (.getfield 77, 3) := by decide +kernel
theorem dX12_wantsOfAll_9 : decode cX12_wantsOfAll 9 = .ok (.if_icmp .ge 18, 3) := by decide +kernel
theorem dX12_wantsOfAll_12 : decode cX12_wantsOfAll 12 = .ok (.iload_n 1, 1) := by decide +kernel
theorem dX12_wantsOfAll_13 : decode cX12_wantsOfAll 13 = .ok (.aload_n 0, 1) := by decide +kernel
theorem dX12_wantsOfAll_14 : decode cX12_wantsOfAll 14 = .ok (.getfield 28, 3) := by decide +kernel
theorem dX12_wantsOfAll_17 : decode cX12_wantsOfAll 17 = .ok (.iload_n 2, 1) := by decide +kernel
theorem dX12_wantsOfAll_18 : decode cX12_wantsOfAll 18 = .ok (.iaload, 1) := by decide +kernel
theorem dX12_wantsOfAll_19 : decode cX12_wantsOfAll 19 = .ok (.iadd, 1) := by decide +kernel
theorem dX12_wantsOfAll_20 : decode cX12_wantsOfAll 20 = .ok (.istore_n 1, 1) := by decide +kernel
theorem dX12_wantsOfAll_21 : decode cX12_wantsOfAll 21 = .ok (.iinc 2 1, 3) := by decide +kernel
theorem dX12_wantsOfAll_24 : decode cX12_wantsOfAll 24 = .ok (.goto (-20), 3) := by decide +kernel
theorem dX12_wantsOfAll_27 : decode cX12_wantsOfAll 27 = .ok (.iload_n 1, 1) := by decide +kernel
theorem dX12_wantsOfAll_28 : decode cX12_wantsOfAll 28 = .ok (.ireturn, 1) := by decide +kernel
theorem dX12_served_0 : decode cX12_served 0 = .ok (.aload_n 0, 1) := by decide +kernel
theorem dX12_served_1 : decode cX12_served 1 = .ok (.iconst 0, 1) := by decide +kernel
theorem dX12_served_2 : decode cX12_served 2 = .ok (.putfield 73, 3) := by decide +kernel
theorem dX12_served_5 : decode cX12_served 5 = .ok (.iload_n 2, 1) := by decide +kernel
theorem dX12_served_6 : decode cX12_served 6 = .ok (.i2l, 1) := by decide +kernel
theorem dX12_served_7 : decode cX12_served 7 = .ok (.lconst 0, 1) := by decide +kernel
theorem dX12_served_8 : decode cX12_served 8 = .ok (.lconst 1, 1) := by decide +kernel
theorem dX12_served_9 : decode cX12_served 9 = .ok (.invokestatic 80, 3) := by decide +kernel
theorem dX12_served_12 : decode cX12_served 12 = .ok (.ifCond .ne 8, 3) := by decide +kernel
theorem dX12_served_15 : decode cX12_served 15 = .ok (.bipush (-2), 2) := by decide +kernel
theorem dX12_served_17 : decode cX12_served 17 = .ok (.goto 24, 3) := by decide +kernel
theorem dX12_served_20 : decode cX12_served 20 = .ok (.iload_n 1, 1) := by decide +kernel
theorem dX12_served_21 : decode cX12_served 21 = .ok (.ifCond .ge 8, 3) := by decide +kernel
theorem dX12_served_24 : decode cX12_served 24 = .ok (.bipush (-4), 2) := by decide +kernel
theorem dX12_served_26 : decode cX12_served 26 = .ok (.goto 15, 3) := by decide +kernel
theorem dX12_served_29 : decode cX12_served 29 = .ok (.iload_n 1, 1) := by decide +kernel
theorem dX12_served_30 : decode cX12_served 30 = .ok (.bipush 60, 2) := by decide +kernel
theorem dX12_served_32 : decode cX12_served 32 = .ok (.if_icmp .le 8, 3) := by decide +kernel
theorem dX12_served_35 : decode cX12_served 35 = .ok (.bipush (-6), 2) := by decide +kernel
theorem dX12_served_37 : decode cX12_served 37 = .ok (.goto 4, 3) := by decide +kernel
theorem dX12_served_40 : decode cX12_served 40 = .ok (.iconst 0, 1) := by decide +kernel
theorem dX12_served_41 : decode cX12_served 41 = .ok (.istore_n 3, 1) := by decide +kernel
theorem dX12_served_42 : decode cX12_served 42 = .ok (.iload_n 3, 1) := by decide +kernel
theorem dX12_served_43 : decode cX12_served 43 = .ok (.ifCond .ge 9, 3) := by decide +kernel
theorem dX12_served_46 : decode cX12_served 46 = .ok (.aload_n 0, 1) := by decide +kernel
theorem dX12_served_47 : decode cX12_served 47 = .ok (.iload_n 3, 1) := by decide +kernel
theorem dX12_served_48 : decode cX12_served 48 = .ok (.invokevirtual 163, 3) := by decide +kernel
theorem dX12_served_51 : decode cX12_served 51 = .ok (.ireturn, 1) := by decide +kernel
theorem dX12_served_52 : decode cX12_served 52 = .ok (.aload_n 0, 1) := by decide +kernel
theorem dX12_served_53 : decode cX12_served 53 = .ok (.invokevirtual 201, 3) := by decide +kernel
theorem dX12_served_56 : decode cX12_served 56 = .ok (.aload_n 0, 1) := by decide +kernel
theorem dX12_served_57 : decode cX12_served 57 = .ok (.iload_n 1, 1) := by decide +kernel
theorem dX12_served_58 : decode cX12_served 58 = .ok (.ifCond .le 9, 3) := by decide +kernel
theorem dX12_served_61 : decode cX12_served 61 = .ok (.iload_n 1, 1) := by decide +kernel
theorem dX12_served_62 : decode cX12_served 62 = .ok (.iconst 1, 1) := by decide +kernel
theorem dX12_served_63 : decode cX12_served 63 = .ok (.isub, 1) := by decide +kernel
theorem dX12_served_64 : decode cX12_served 64 = .ok (.goto 4, 3) := by decide +kernel
theorem dX12_served_67 : decode cX12_served 67 = .ok (.iconst 0, 1) := by decide +kernel
theorem dX12_served_68 : decode cX12_served 68 = .ok (.invokevirtual 219, 3) := by decide +kernel
theorem dX12_served_71 : decode cX12_served 71 = .ok (.istore 4, 2) := by decide +kernel
theorem dX12_served_73 : decode cX12_served 73 = .ok (.aload_n 0, 1) := by decide +kernel
theorem dX12_served_74 : decode cX12_served 74 = .ok (.iload_n 1, 1) := by decide +kernel
theorem dX12_served_75 : decode cX12_served 75 = .ok (.ifCond .le 7, 3) := by decide +kernel
theorem dX12_served_78 : decode cX12_served 78 = .ok (.iconst 1, 1) := by decide +kernel
theorem dX12_served_79 : decode cX12_served 79 = .ok (.goto 4, 3) := by decide +kernel
theorem dX12_served_82 : decode cX12_served 82 = .ok (.iconst 0, 1) := by decide +kernel
theorem dX12_served_83 : decode cX12_served 83 = .ok (.invokevirtual 219, 3) := by decide +kernel
theorem dX12_served_86 : decode cX12_served 86 = .ok (.istore 5, 2) := by decide +kernel
theorem dX12_served_88 : decode cX12_served 88 = .ok (.aload_n 0, 1) := by decide +kernel
theorem dX12_served_89 : decode cX12_served 89 = .ok (.invokevirtual 207, 3) := by decide +kernel
theorem dX12_served_92 : decode cX12_served 92 = .ok (.iload_n 2, 1) := by decide +kernel
theorem dX12_served_93 : decode cX12_served 93 = .ok (.ifCond .ne 11, 3) := by decide +kernel
theorem dX12_served_96 : decode cX12_served 96 = .ok (.iload 4, 2) := by decide +kernel
theorem dX12_served_98 : decode cX12_served 98 = .ok (.iload 5, 2) := by decide +kernel
theorem dX12_served_100 : decode cX12_served 100 = .ok (.iadd, 1) := by decide +kernel
theorem dX12_served_101 : decode cX12_served 101 = .ok (.goto 18, 3) := by decide +kernel
theorem dX12_served_104 : decode cX12_served 104 = .ok (.iload_n 1, 1) := by decide +kernel
theorem dX12_served_105 : decode cX12_served 105 = .ok (.ifCond .ne 7, 3) := by decide +kernel
theorem dX12_served_108 : decode cX12_served 108 = .ok (.iconst 0, 1) := by decide +kernel
theorem dX12_served_109 : decode cX12_served 109 = .ok (.goto 10, 3) := by decide +kernel
theorem dX12_served_112 : decode cX12_served 112 = .ok (.aload_n 0, 1) := by decide +kernel
theorem dX12_served_113 : decode cX12_served 113 = .ok (.invokevirtual 222, 3) := by decide +kernel
theorem dX12_served_116 : decode cX12_served 116 = .ok (.iload 5, 2) := by decide +kernel
theorem dX12_served_118 : decode cX12_served 118 = .ok (.isub, 1) := by decide +kernel
theorem dX12_served_119 : decode cX12_served 119 = .ok (.ireturn, 1) := by decide +kernel
theorem dX12_drift_0 : decode cX12_drift 0 = .ok (.aload_n 0, 1) := by decide +kernel
theorem dX12_drift_1 : decode cX12_drift 1 = .ok (.iconst 0, 1) := by decide +kernel
theorem dX12_drift_2 : decode cX12_drift 2 = .ok (.putfield 73, 3) := by decide +kernel
theorem dX12_drift_5 : decode cX12_drift 5 = .ok (.iload_n 1, 1) := by decide +kernel
theorem dX12_drift_6 : decode cX12_drift 6 = .ok (.i2l, 1) := by decide +kernel
theorem dX12_drift_7 : decode cX12_drift 7 = .ok (.lconst 0, 1) := by decide +kernel
theorem dX12_drift_8 : decode cX12_drift 8 = .ok (.lconst 1, 1) := by decide +kernel
theorem dX12_drift_9 : decode cX12_drift 9 = .ok (.invokestatic 80, 3) := by decide +kernel
theorem dX12_drift_12 : decode cX12_drift 12 = .ok (.ifCond .eq 10, 3) := by decide +kernel
theorem dX12_drift_15 : decode cX12_drift 15 = .ok (.aload_n 0, 1) := by decide +kernel
theorem dX12_drift_16 : decode cX12_drift 16 = .ok (.getfield 77, 3) := by decide +kernel
theorem dX12_drift_19 : decode cX12_drift 19 = .ok (.ifCond .ne 25, 3) := by decide +kernel
theorem dX12_drift_22 : decode cX12_drift 22 = .ok (.aload_n 0, 1) := by decide +kernel
theorem dX12_drift_23 : decode cX12_drift 23 = .ok (.iload_n 1, 1) := by decide +kernel
theorem dX12_drift_24 : decode cX12_drift 24 = .ok (.i2l, 1) := by decide +kernel
theorem dX12_drift_25 : decode cX12_drift 25 = .ok (.lconst 0, 1) := by decide +kernel
theorem dX12_drift_26 : decode cX12_drift 26 = .ok (.lconst 1, 1) := by decide +kernel
theorem dX12_drift_27 : decode cX12_drift 27 = .ok (.invokestatic 80, 3) := by decide +kernel
theorem dX12_drift_30 : decode cX12_drift 30 = .ok (.ifCond .eq 8, 3) := by decide +kernel
theorem dX12_drift_33 : decode cX12_drift 33 = .ok (.bipush (-3), 2) := by decide +kernel
theorem dX12_drift_35 : decode cX12_drift 35 = .ok (.goto 5, 3) := by decide +kernel
theorem dX12_drift_38 : decode cX12_drift 38 = .ok (.bipush (-2), 2) := by decide +kernel
theorem dX12_drift_40 : decode cX12_drift 40 = .ok (.invokevirtual 163, 3) := by decide +kernel
theorem dX12_drift_43 : decode cX12_drift 43 = .ok (.ireturn, 1) := by decide +kernel
theorem dX12_drift_44 : decode cX12_drift 44 = .ok (.aload_n 0, 1) := by decide +kernel
theorem dX12_drift_45 : decode cX12_drift 45 = .ok (.invokevirtual 201, 3) := by decide +kernel
theorem dX12_drift_48 : decode cX12_drift 48 = .ok (.bipush (-9), 2) := by decide +kernel
theorem dX12_drift_50 : decode cX12_drift 50 = .ok (.istore_n 2, 1) := by decide +kernel
theorem dX12_drift_51 : decode cX12_drift 51 = .ok (.bipush (-9), 2) := by decide +kernel
theorem dX12_drift_53 : decode cX12_drift 53 = .ok (.istore_n 3, 1) := by decide +kernel
theorem dX12_drift_54 : decode cX12_drift 54 = .ok (.iconst 0, 1) := by decide +kernel
theorem dX12_drift_55 : decode cX12_drift 55 = .ok (.istore 4, 2) := by decide +kernel
theorem dX12_drift_57 : decode cX12_drift 57 = .ok (.iload 4, 2) := by decide +kernel
theorem dX12_drift_59 : decode cX12_drift 59 = .ok (.bipush 100, 2) := by decide +kernel
theorem dX12_drift_61 : decode cX12_drift 61 = .ok (.if_icmp .gt 95, 3) := by decide +kernel
theorem dX12_drift_64 : decode cX12_drift 64 = .ok (.iload_n 2, 1) := by decide +kernel
theorem dX12_drift_65 : decode cX12_drift 65 = .ok (.ifCond .ge 91, 3) := by decide +kernel
theorem dX12_drift_68 : decode cX12_drift 68 = .ok (.iconst 0, 1) := by decide +kernel
theorem dX12_drift_69 : decode cX12_drift 69 = .ok (.istore 5, 2) := by decide +kernel
theorem dX12_drift_71 : decode cX12_drift 71 = .ok (.iconst 1, 1) := by decide +kernel
theorem dX12_drift_72 : decode cX12_drift 72 = .ok (.istore 6, 2) := by decide +kernel
theorem dX12_drift_74 : decode cX12_drift 74 = .ok (.iload 6, 2) := by decide +kernel
theorem dX12_drift_76 : decode cX12_drift 76 = .ok (.aload_n 0, 1) := by decide +kernel
theorem dX12_drift_77 : decode cX12_drift 77 = .ok (.getfield 77, 3) := by decide +kernel
theorem dX12_drift_80 : decode cX12_drift 80 = .ok (.if_icmp .ge 35, 3) := by decide +kernel
theorem dX12_drift_83 : decode cX12_drift 83 = .ok (.aload_n 0, 1) := by decide +kernel
theorem dX12_drift_84 : decode cX12_drift 84 = .ok (.getfield 31, 3) := by decide +kernel
theorem dX12_drift_87 : decode cX12_drift 87 = .ok (.iload 6, 2) := by decide +kernel
theorem dX12_drift_89 : decode cX12_drift 89 = .ok (.iaload, 1) := by decide +kernel
theorem dX12_drift_90 : decode cX12_drift 90 = .ok (.aload_n 0, 1) := by decide +kernel
theorem dX12_drift_91 : decode cX12_drift 91 = .ok (.getfield 31, 3) := by decide +kernel
theorem dX12_drift_94 : decode cX12_drift 94 = .ok (.iload 5, 2) := by decide +kernel
theorem dX12_drift_96 : decode cX12_drift 96 = .ok (.iaload, 1) := by decide +kernel
theorem dX12_drift_97 : decode cX12_drift 97 = .ok (.if_icmp .le 8, 3) := by decide +kernel
theorem dX12_drift_100 : decode cX12_drift 100 = .ok (.iload 6, 2) := by decide +kernel
theorem dX12_drift_102 : decode cX12_drift 102 = .ok (.goto 5, 3) := by decide +kernel
theorem dX12_drift_105 : decode cX12_drift 105 = .ok (.iload 5, 2) := by decide +kernel
theorem dX12_drift_107 : decode cX12_drift 107 = .ok (.istore 5, 2) := by decide +kernel
theorem dX12_drift_109 : decode cX12_drift 109 = .ok (.iinc 6 1, 3) := by decide +kernel
theorem dX12_drift_112 : decode cX12_drift 112 = .ok (.goto (-38), 3) := by decide +kernel
theorem dX12_drift_115 : decode cX12_drift 115 = .ok (.aload_n 0, 1) := by decide +kernel
theorem dX12_drift_116 : decode cX12_drift 116 = .ok (.invokevirtual 213, 3) := by decide +kernel
theorem dX12_drift_119 : decode cX12_drift 119 = .ok (.pop, 1) := by decide +kernel
theorem dX12_drift_120 : decode cX12_drift 120 = .ok (.aload_n 0, 1) := by decide +kernel
theorem dX12_drift_121 : decode cX12_drift 121 = .ok (.getfield 115, 3) := by decide +kernel
theorem dX12_drift_124 : decode cX12_drift 124 = .ok (.ifCond .ne 8, 3) := by decide +kernel
theorem dX12_drift_127 : decode cX12_drift 127 = .ok (.iload 4, 2) := by decide +kernel
theorem dX12_drift_129 : decode cX12_drift 129 = .ok (.goto 5, 3) := by decide +kernel
theorem dX12_drift_132 : decode cX12_drift 132 = .ok (.bipush (-9), 2) := by decide +kernel
theorem dX12_drift_134 : decode cX12_drift 134 = .ok (.istore_n 2, 1) := by decide +kernel
theorem dX12_drift_135 : decode cX12_drift 135 = .ok (.aload_n 0, 1) := by decide +kernel
theorem dX12_drift_136 : decode cX12_drift 136 = .ok (.getfield 115, 3) := by decide +kernel
theorem dX12_drift_139 : decode cX12_drift 139 = .ok (.ifCond .ne 8, 3) := by decide +kernel
theorem dX12_drift_142 : decode cX12_drift 142 = .ok (.iload 5, 2) := by decide +kernel
theorem dX12_drift_144 : decode cX12_drift 144 = .ok (.goto 5, 3) := by decide +kernel
theorem dX12_drift_147 : decode cX12_drift 147 = .ok (.bipush (-9), 2) := by decide +kernel
theorem dX12_drift_149 : decode cX12_drift 149 = .ok (.istore_n 3, 1) := by decide +kernel
theorem dX12_drift_150 : decode cX12_drift 150 = .ok (.iinc 4 1, 3) := by decide +kernel
theorem dX12_drift_153 : decode cX12_drift 153 = .ok (.goto (-96), 3) := by decide +kernel
theorem dX12_drift_156 : decode cX12_drift 156 = .ok (.aload_n 0, 1) := by decide +kernel
theorem dX12_drift_157 : decode cX12_drift 157 = .ok (.invokevirtual 207, 3) := by decide +kernel
theorem dX12_drift_160 : decode cX12_drift 160 = .ok (.iload_n 1, 1) := by decide +kernel
theorem dX12_drift_161 : decode cX12_drift 161 = .ok (.ifCond .ne 7, 3) := by decide +kernel
theorem dX12_drift_164 : decode cX12_drift 164 = .ok (.iload_n 2, 1) := by decide +kernel
theorem dX12_drift_165 : decode cX12_drift 165 = .ok (.goto 4, 3) := by decide +kernel
theorem dX12_drift_168 : decode cX12_drift 168 = .ok (.iload_n 3, 1) := by decide +kernel
theorem dX12_drift_169 : decode cX12_drift 169 = .ok (.ireturn, 1) := by decide +kernel
theorem dX12_stuck_0 : decode cX12_stuck 0 = .ok (.aload_n 0, 1) := by decide +kernel
theorem dX12_stuck_1 : decode cX12_stuck 1 = .ok (.iconst 0, 1) := by decide +kernel
theorem dX12_stuck_2 : decode cX12_stuck 2 = .ok (.putfield 73, 3) := by decide +kernel
theorem dX12_stuck_5 : decode cX12_stuck 5 = .ok (.iconst 0, 1) := by decide +kernel
theorem dX12_stuck_6 : decode cX12_stuck 6 = .ok (.istore_n 1, 1) := by decide +kernel
theorem dX12_stuck_7 : decode cX12_stuck 7 = .ok (.iconst 0, 1) := by decide +kernel
theorem dX12_stuck_8 : decode cX12_stuck 8 = .ok (.istore_n 2, 1) := by decide +kernel
theorem dX12_stuck_9 : decode cX12_stuck 9 = .ok (.iload_n 2, 1) := by decide +kernel
theorem dX12_stuck_10 : decode cX12_stuck 10 = .ok (.iconst 3, 1) := by decide +kernel
theorem dX12_stuck_11 : decode cX12_stuck 11 = .ok (.aload_n 0, 1) := by decide +kernel
theorem dX12_stuck_12 : decode cX12_stuck 12 = .ok (.getfield 77, 3) := by decide +kernel
theorem dX12_stuck_15 : decode cX12_stuck 15 = .ok (.imul, 1) := by decide +kernel
theorem dX12_stuck_16 : decode cX12_stuck 16 = .ok (.if_icmp .ge 104, 3) := by decide +kernel
theorem dX12_stuck_19 : decode cX12_stuck 19 = .ok (.iload_n 2, 1) := by decide +kernel
theorem dX12_stuck_20 : decode cX12_stuck 20 = .ok (.iconst 3, 1) := by decide +kernel
theorem dX12_stuck_21 : decode cX12_stuck 21 = .ok (.idiv, 1) := by decide +kernel
theorem dX12_stuck_22 : decode cX12_stuck 22 = .ok (.istore_n 3, 1) := by decide +kernel
theorem dX12_stuck_23 : decode cX12_stuck 23 = .ok (.iload_n 2, 1) := by decide +kernel
theorem dX12_stuck_24 : decode cX12_stuck 24 = .ok (.iconst 3, 1) := by decide +kernel
theorem dX12_stuck_25 : decode cX12_stuck 25 = .ok (.irem, 1) := by decide +kernel
theorem dX12_stuck_26 : decode cX12_stuck 26 = .ok (.istore 4, 2) := by decide +kernel
theorem dX12_stuck_28 : decode cX12_stuck 28 = .ok (.aload_n 0, 1) := by decide +kernel
theorem dX12_stuck_29 : decode cX12_stuck 29 = .ok (.iload_n 3, 1) := by decide +kernel
theorem dX12_stuck_30 : decode cX12_stuck 30 = .ok (.iload 4, 2) := by decide +kernel
theorem dX12_stuck_32 : decode cX12_stuck 32 = .ok (.invokevirtual 104, 3) := by decide +kernel
theorem dX12_stuck_35 : decode cX12_stuck 35 = .ok (.ifCond .ne 7, 3) := by decide +kernel
theorem dX12_stuck_38 : decode cX12_stuck 38 = .ok (.iconst 1, 1) := by decide +kernel
theorem dX12_stuck_39 : decode cX12_stuck 39 = .ok (.goto 4, 3) := by decide +kernel
theorem dX12_stuck_42 : decode cX12_stuck 42 = .ok (.iconst 0, 1) := by decide +kernel
theorem dX12_stuck_43 : decode cX12_stuck 43 = .ok (.istore 5, 2) := by decide +kernel
theorem dX12_stuck_45 : decode cX12_stuck 45 = .ok (.iconst 0, 1) := by decide +kernel
theorem dX12_stuck_46 : decode cX12_stuck 46 = .ok (.istore 6, 2) := by decide +kernel
theorem dX12_stuck_48 : decode cX12_stuck 48 = .ok (.iload 6, 2) := by decide +kernel
theorem dX12_stuck_50 : decode cX12_stuck 50 = .ok (.aload_n 0, 1) := by decide +kernel
theorem dX12_stuck_51 : decode cX12_stuck 51 = .ok (.getfield 77, 3) := by decide +kernel
theorem dX12_stuck_54 : decode cX12_stuck 54 = .ok (.if_icmp .ge 42, 3) := by decide +kernel
theorem dX12_stuck_57 : decode cX12_stuck 57 = .ok (.iload 5, 2) := by decide +kernel
theorem dX12_stuck_59 : decode cX12_stuck 59 = .ok (.ifCond .eq 37, 3) := by decide +kernel
theorem dX12_stuck_62 : decode cX12_stuck 62 = .ok (.aload_n 0, 1) := by decide +kernel
theorem dX12_stuck_63 : decode cX12_stuck 63 = .ok (.iload 6, 2) := by decide +kernel
theorem dX12_stuck_65 : decode cX12_stuck 65 = .ok (.iload 4, 2) := by decide +kernel
theorem dX12_stuck_67 : decode cX12_stuck 67 = .ok (.invokevirtual 104, 3) := by decide +kernel
theorem dX12_stuck_70 : decode cX12_stuck 70 = .ok (.ifCond .eq 13, 3) := by decide +kernel
theorem dX12_stuck_73 : decode cX12_stuck 73 = .ok (.aload_n 0, 1) := by decide +kernel
theorem dX12_stuck_74 : decode cX12_stuck 74 = .ok (.iload_n 3, 1) := by decide +kernel
theorem dX12_stuck_75 : decode cX12_stuck 75 = .ok (.iload 6, 2) := by decide +kernel
theorem dX12_stuck_77 : decode cX12_stuck 77 = .ok (.invokevirtual 100, 3) := by decide +kernel
theorem dX12_stuck_80 : decode cX12_stuck 80 = .ok (.ifCond .ne 7, 3) := by decide +kernel
theorem dX12_stuck_83 : decode cX12_stuck 83 = .ok (.iconst 1, 1) := by decide +kernel
theorem dX12_stuck_84 : decode cX12_stuck 84 = .ok (.goto 4, 3) := by decide +kernel
theorem dX12_stuck_87 : decode cX12_stuck 87 = .ok (.iconst 0, 1) := by decide +kernel
theorem dX12_stuck_88 : decode cX12_stuck 88 = .ok (.istore 5, 2) := by decide +kernel
theorem dX12_stuck_90 : decode cX12_stuck 90 = .ok (.iinc 6 1, 3) := by decide +kernel
theorem dX12_stuck_93 : decode cX12_stuck 93 = .ok (.goto (-45), 3) := by decide +kernel
theorem dX12_stuck_96 : decode cX12_stuck 96 = .ok (.iload_n 1, 1) := by decide +kernel
theorem dX12_stuck_97 : decode cX12_stuck 97 = .ok (.iload 5, 2) := by decide +kernel
theorem dX12_stuck_99 : decode cX12_stuck 99 = .ok (.ifCond .eq 12, 3) := by decide +kernel
theorem dX12_stuck_102 : decode cX12_stuck 102 = .ok (.aload_n 0, 1) := by decide +kernel
theorem dX12_stuck_103 : decode cX12_stuck 103 = .ok (.getfield 34, 3) := by decide +kernel
theorem dX12_stuck_106 : decode cX12_stuck 106 = .ok (.iload_n 2, 1) := by decide +kernel
theorem dX12_stuck_107 : decode cX12_stuck 107 = .ok (.iaload, 1) := by decide +kernel
theorem dX12_stuck_108 : decode cX12_stuck 108 = .ok (.goto 4, 3) := by decide +kernel
theorem dX12_stuck_111 : decode cX12_stuck 111 = .ok (.iconst 0, 1) := by decide +kernel
theorem dX12_stuck_112 : decode cX12_stuck 112 = .ok (.iadd, 1) := by decide +kernel
theorem dX12_stuck_113 : decode cX12_stuck 113 = .ok (.istore_n 1, 1) := by decide +kernel
theorem dX12_stuck_114 : decode cX12_stuck 114 = .ok (.iinc 2 1, 3) := by decide +kernel
theorem dX12_stuck_117 : decode cX12_stuck 117 = .ok (.goto (-108), 3) := by decide +kernel
theorem dX12_stuck_120 : decode cX12_stuck 120 = .ok (.iload_n 1, 1) := by decide +kernel
theorem dX12_stuck_121 : decode cX12_stuck 121 = .ok (.ireturn, 1) := by decide +kernel
theorem dX12_mostOf_0 : decode cX12_mostOf 0 = .ok (.iconst (-1), 1) := by decide +kernel
theorem dX12_mostOf_1 : decode cX12_mostOf 1 = .ok (.istore_n 2, 1) := by decide +kernel
theorem dX12_mostOf_2 : decode cX12_mostOf 2 = .ok (.iconst 0, 1) := by decide +kernel
theorem dX12_mostOf_3 : decode cX12_mostOf 3 = .ok (.istore_n 3, 1) := by decide +kernel
theorem dX12_mostOf_4 : decode cX12_mostOf 4 = .ok (.iload_n 3, 1) := by decide +kernel
theorem dX12_mostOf_5 : decode cX12_mostOf 5 = .ok (.iconst 1, 1) := by decide +kernel
theorem dX12_mostOf_6 : decode cX12_mostOf 6 = .ok (.aload_n 0, 1) := by decide +kernel
theorem dX12_mostOf_7 : decode cX12_mostOf 7 = .ok (.getfield 77, 3) := by decide +kernel
theorem dX12_mostOf_10 : decode cX12_mostOf 10 = .ok (.ishl, 1) := by decide +kernel
theorem dX12_mostOf_11 : decode cX12_mostOf 11 = .ok (.if_icmp .ge 188, 3) := by decide +kernel
theorem dX12_mostOf_14 : decode cX12_mostOf 14 = .ok (.iconst 0, 1) := by decide +kernel
theorem dX12_mostOf_15 : decode cX12_mostOf 15 = .ok (.istore 4, 2) := by decide +kernel
theorem dX12_mostOf_17 : decode cX12_mostOf 17 = .ok (.iconst 0, 1) := by decide +kernel
theorem dX12_mostOf_18 : decode cX12_mostOf 18 = .ok (.istore 5, 2) := by decide +kernel
theorem dX12_mostOf_20 : decode cX12_mostOf 20 = .ok (.iload 5, 2) := by decide +kernel
theorem dX12_mostOf_22 : decode cX12_mostOf 22 = .ok (.aload_n 0, 1) := by decide +kernel
theorem dX12_mostOf_23 : decode cX12_mostOf 23 = .ok (.getfield 77, 3) := by decide +kernel
theorem dX12_mostOf_26 : decode cX12_mostOf 26 = .ok (.if_icmp .ge 150, 3) := by decide +kernel
theorem dX12_mostOf_29 : decode cX12_mostOf 29 = .ok (.aload_n 0, 1) := by decide +kernel
theorem dX12_mostOf_30 : decode cX12_mostOf 30 = .ok (.iload 5, 2) := by decide +kernel
theorem dX12_mostOf_32 : decode cX12_mostOf 32 = .ok (.iload_n 1, 1) := by decide +kernel
theorem dX12_mostOf_33 : decode cX12_mostOf 33 = .ok (.invokevirtual 104, 3) := by decide +kernel
theorem dX12_mostOf_36 : decode cX12_mostOf 36 = .ok (.ifCond .ne 7, 3) := by decide +kernel
theorem dX12_mostOf_39 : decode cX12_mostOf 39 = .ok (.iconst 1, 1) := by decide +kernel
theorem dX12_mostOf_40 : decode cX12_mostOf 40 = .ok (.goto 4, 3) := by decide +kernel
theorem dX12_mostOf_43 : decode cX12_mostOf 43 = .ok (.iconst 0, 1) := by decide +kernel
theorem dX12_mostOf_44 : decode cX12_mostOf 44 = .ok (.istore 6, 2) := by decide +kernel
theorem dX12_mostOf_46 : decode cX12_mostOf 46 = .ok (.iload 4, 2) := by decide +kernel
theorem dX12_mostOf_48 : decode cX12_mostOf 48 = .ok (.iload 6, 2) := by decide +kernel
theorem dX12_mostOf_50 : decode cX12_mostOf 50 = .ok (.ifCond .eq 26, 3) := by decide +kernel
theorem dX12_mostOf_53 : decode cX12_mostOf 53 = .ok (.iload_n 3, 1) := by decide +kernel
theorem dX12_mostOf_54 : decode cX12_mostOf 54 = .ok (.iload 5, 2) := by decide +kernel
theorem dX12_mostOf_56 : decode cX12_mostOf 56 = .ok (.ishr, 1) := by decide +kernel
theorem dX12_mostOf_57 : decode cX12_mostOf 57 = .ok (.iconst 1, 1) := by decide +kernel
theorem dX12_mostOf_58 : decode cX12_mostOf 58 = .ok (.iand, 1) := by decide +kernel
theorem dX12_mostOf_59 : decode cX12_mostOf 59 = .ok (.ifCond .ne 17, 3) := by decide +kernel
theorem dX12_mostOf_62 : decode cX12_mostOf 62 = .ok (.aload_n 0, 1) := by decide +kernel
theorem dX12_mostOf_63 : decode cX12_mostOf 63 = .ok (.getfield 34, 3) := by decide +kernel
theorem dX12_mostOf_66 : decode cX12_mostOf 66 = .ok (.iconst 3, 1) := by decide +kernel
theorem dX12_mostOf_67 : decode cX12_mostOf 67 = .ok (.iload 5, 2) := by decide +kernel
theorem dX12_mostOf_69 : decode cX12_mostOf 69 = .ok (.imul, 1) := by decide +kernel
theorem dX12_mostOf_70 : decode cX12_mostOf 70 = .ok (.iload_n 1, 1) := by decide +kernel
theorem dX12_mostOf_71 : decode cX12_mostOf 71 = .ok (.iadd, 1) := by decide +kernel
theorem dX12_mostOf_72 : decode cX12_mostOf 72 = .ok (.iaload, 1) := by decide +kernel
theorem dX12_mostOf_73 : decode cX12_mostOf 73 = .ok (.goto 4, 3) := by decide +kernel
theorem dX12_mostOf_76 : decode cX12_mostOf 76 = .ok (.iconst 0, 1) := by decide +kernel
theorem dX12_mostOf_77 : decode cX12_mostOf 77 = .ok (.iadd, 1) := by decide +kernel
theorem dX12_mostOf_78 : decode cX12_mostOf 78 = .ok (.istore 4, 2) := by decide +kernel
theorem dX12_mostOf_80 : decode cX12_mostOf 80 = .ok (.iconst 0, 1) := by decide +kernel
theorem dX12_mostOf_81 : decode cX12_mostOf 81 = .ok (.istore 7, 2) := by decide +kernel
theorem dX12_mostOf_83 : decode cX12_mostOf 83 = .ok (.iconst 0, 1) := by decide +kernel
theorem dX12_mostOf_84 : decode cX12_mostOf 84 = .ok (.istore 8, 2) := by decide +kernel
theorem dX12_mostOf_86 : decode cX12_mostOf 86 = .ok (.iload 8, 2) := by decide +kernel
theorem dX12_mostOf_88 : decode cX12_mostOf 88 = .ok (.aload_n 0, 1) := by decide +kernel
theorem dX12_mostOf_89 : decode cX12_mostOf 89 = .ok (.getfield 77, 3) := by decide +kernel
theorem dX12_mostOf_92 : decode cX12_mostOf 92 = .ok (.if_icmp .ge 57, 3) := by decide +kernel
theorem dX12_mostOf_95 : decode cX12_mostOf 95 = .ok (.iload 6, 2) := by decide +kernel
theorem dX12_mostOf_97 : decode cX12_mostOf 97 = .ok (.ifCond .ne 52, 3) := by decide +kernel
theorem dX12_mostOf_100 : decode cX12_mostOf 100 = .ok (.iload 7, 2) := by decide +kernel
theorem dX12_mostOf_102 : decode cX12_mostOf 102 = .ok (.ifCond .ne 34, 3) := by decide +kernel
theorem dX12_mostOf_105 : decode cX12_mostOf 105 = .ok (.iload_n 3, 1) := by decide +kernel
theorem dX12_mostOf_106 : decode cX12_mostOf 106 = .ok (.iload 8, 2) := by decide +kernel
theorem dX12_mostOf_108 : decode cX12_mostOf 108 = .ok (.ishr, 1) := by decide +kernel
theorem dX12_mostOf_109 : decode cX12_mostOf 109 = .ok (.iconst 1, 1) := by decide +kernel
theorem dX12_mostOf_110 : decode cX12_mostOf 110 = .ok (.iand, 1) := by decide +kernel
theorem dX12_mostOf_111 : decode cX12_mostOf 111 = .ok (.iconst 1, 1) := by decide +kernel
theorem dX12_mostOf_112 : decode cX12_mostOf 112 = .ok (.if_icmp .ne 28, 3) := by decide +kernel
theorem dX12_mostOf_115 : decode cX12_mostOf 115 = .ok (.aload_n 0, 1) := by decide +kernel
theorem dX12_mostOf_116 : decode cX12_mostOf 116 = .ok (.iload 8, 2) := by decide +kernel
theorem dX12_mostOf_118 : decode cX12_mostOf 118 = .ok (.iload_n 1, 1) := by decide +kernel
theorem dX12_mostOf_119 : decode cX12_mostOf 119 = .ok (.invokevirtual 104, 3) := by decide +kernel
theorem dX12_mostOf_122 : decode cX12_mostOf 122 = .ok (.ifCond .ne 18, 3) := by decide +kernel
theorem dX12_mostOf_125 : decode cX12_mostOf 125 = .ok (.aload_n 0, 1) := by decide +kernel
theorem dX12_mostOf_126 : decode cX12_mostOf 126 = .ok (.iload 8, 2) := by decide +kernel
theorem dX12_mostOf_128 : decode cX12_mostOf 128 = .ok (.iload 5, 2) := by decide +kernel
theorem dX12_mostOf_130 : decode cX12_mostOf 130 = .ok (.invokevirtual 100, 3) := by decide +kernel
theorem dX12_mostOf_133 : decode cX12_mostOf 133 = .ok (.ifCond .eq 7, 3) := by decide +kernel
theorem dX12_mostOf_136 : decode cX12_mostOf 136 = .ok (.iconst 1, 1) := by decide +kernel
theorem dX12_mostOf_137 : decode cX12_mostOf 137 = .ok (.goto 4, 3) := by decide +kernel
theorem dX12_mostOf_140 : decode cX12_mostOf 140 = .ok (.iconst 0, 1) := by decide +kernel
theorem dX12_mostOf_141 : decode cX12_mostOf 141 = .ok (.istore 7, 2) := by decide +kernel
theorem dX12_mostOf_143 : decode cX12_mostOf 143 = .ok (.iinc 8 1, 3) := by decide +kernel
theorem dX12_mostOf_146 : decode cX12_mostOf 146 = .ok (.goto (-60), 3) := by decide +kernel
theorem dX12_mostOf_149 : decode cX12_mostOf 149 = .ok (.iload 4, 2) := by decide +kernel
theorem dX12_mostOf_151 : decode cX12_mostOf 151 = .ok (.iload 7, 2) := by decide +kernel
theorem dX12_mostOf_153 : decode cX12_mostOf 153 = .ok (.ifCond .eq 13, 3) := by decide +kernel
theorem dX12_mostOf_156 : decode cX12_mostOf 156 = .ok (.aload_n 0, 1) := by decide +kernel
theorem dX12_mostOf_157 : decode cX12_mostOf 157 = .ok (.getfield 28, 3) := by decide +kernel
theorem dX12_mostOf_160 : decode cX12_mostOf 160 = .ok (.iload 5, 2) := by decide +kernel
theorem dX12_mostOf_162 : decode cX12_mostOf 162 = .ok (.iaload, 1) := by decide +kernel
theorem dX12_mostOf_163 : decode cX12_mostOf 163 = .ok (.goto 4, 3) := by decide +kernel
theorem dX12_mostOf_166 : decode cX12_mostOf 166 = .ok (.iconst 0, 1) := by decide +kernel
theorem dX12_mostOf_167 : decode cX12_mostOf 167 = .ok (.iadd, 1) := by decide +kernel
theorem dX12_mostOf_168 : decode cX12_mostOf 168 = .ok (.istore 4, 2) := by decide +kernel
theorem dX12_mostOf_170 : decode cX12_mostOf 170 = .ok (.iinc 5 1, 3) := by decide +kernel
theorem dX12_mostOf_173 : decode cX12_mostOf 173 = .ok (.goto (-153), 3) := by decide +kernel
theorem dX12_mostOf_176 : decode cX12_mostOf 176 = .ok (.iload_n 2, 1) := by decide +kernel
theorem dX12_mostOf_177 : decode cX12_mostOf 177 = .ok (.ifCond .lt 9, 3) := by decide +kernel
theorem dX12_mostOf_180 : decode cX12_mostOf 180 = .ok (.iload 4, 2) := by decide +kernel
theorem dX12_mostOf_182 : decode cX12_mostOf 182 = .ok (.iload_n 2, 1) := by decide +kernel
theorem dX12_mostOf_183 : decode cX12_mostOf 183 = .ok (.if_icmp .ge 8, 3) := by decide +kernel
theorem dX12_mostOf_186 : decode cX12_mostOf 186 = .ok (.iload 4, 2) := by decide +kernel
theorem dX12_mostOf_188 : decode cX12_mostOf 188 = .ok (.goto 4, 3) := by decide +kernel
theorem dX12_mostOf_191 : decode cX12_mostOf 191 = .ok (.iload_n 2, 1) := by decide +kernel
theorem dX12_mostOf_192 : decode cX12_mostOf 192 = .ok (.istore_n 2, 1) := by decide +kernel
theorem dX12_mostOf_193 : decode cX12_mostOf 193 = .ok (.iinc 3 1, 3) := by decide +kernel
theorem dX12_mostOf_196 : decode cX12_mostOf 196 = .ok (.goto (-192), 3) := by decide +kernel
theorem dX12_mostOf_199 : decode cX12_mostOf 199 = .ok (.iload_n 2, 1) := by decide +kernel
theorem dX12_mostOf_200 : decode cX12_mostOf 200 = .ok (.ireturn, 1) := by decide +kernel
theorem dX12_most_0 : decode cX12_most 0 = .ok (.aload_n 0, 1) := by decide +kernel
theorem dX12_most_1 : decode cX12_most 1 = .ok (.iconst 0, 1) := by decide +kernel
theorem dX12_most_2 : decode cX12_most 2 = .ok (.putfield 73, 3) := by decide +kernel
theorem dX12_most_5 : decode cX12_most 5 = .ok (.iload_n 1, 1) := by decide +kernel
theorem dX12_most_6 : decode cX12_most 6 = .ok (.invokestatic 210, 3) := by decide +kernel
theorem dX12_most_9 : decode cX12_most 9 = .ok (.ifCond .eq 11, 3) := by decide +kernel
theorem dX12_most_12 : decode cX12_most 12 = .ok (.aload_n 0, 1) := by decide +kernel
theorem dX12_most_13 : decode cX12_most 13 = .ok (.iload_n 1, 1) := by decide +kernel
theorem dX12_most_14 : decode cX12_most 14 = .ok (.invokevirtual 225, 3) := by decide +kernel
theorem dX12_most_17 : decode cX12_most 17 = .ok (.goto 8, 3) := by decide +kernel
theorem dX12_most_20 : decode cX12_most 20 = .ok (.aload_n 0, 1) := by decide +kernel
theorem dX12_most_21 : decode cX12_most 21 = .ok (.iconst (-1), 1) := by decide +kernel
theorem dX12_most_22 : decode cX12_most 22 = .ok (.invokevirtual 163, 3) := by decide +kernel
theorem dX12_most_25 : decode cX12_most 25 = .ok (.ireturn, 1) := by decide +kernel
theorem dX12_cellar_0 : decode cX12_cellar 0 = .ok (.aload_n 0, 1) := by decide +kernel
theorem dX12_cellar_1 : decode cX12_cellar 1 = .ok (.iconst 0, 1) := by decide +kernel
theorem dX12_cellar_2 : decode cX12_cellar 2 = .ok (.putfield 73, 3) := by decide +kernel
theorem dX12_cellar_5 : decode cX12_cellar 5 = .ok (.aload_n 0, 1) := by decide +kernel
theorem dX12_cellar_6 : decode cX12_cellar 6 = .ok (.iload_n 1, 1) := by decide +kernel
theorem dX12_cellar_7 : decode cX12_cellar 7 = .ok (.invokevirtual 84, 3) := by decide +kernel
theorem dX12_cellar_10 : decode cX12_cellar 10 = .ok (.ifCond .eq 10, 3) := by decide +kernel
theorem dX12_cellar_13 : decode cX12_cellar 13 = .ok (.iload_n 2, 1) := by decide +kernel
theorem dX12_cellar_14 : decode cX12_cellar 14 = .ok (.invokestatic 210, 3) := by decide +kernel
theorem dX12_cellar_17 : decode cX12_cellar 17 = .ok (.ifCond .ne 7, 3) := by decide +kernel
theorem dX12_cellar_20 : decode cX12_cellar 20 = .ok (.iconst (-1), 1) := by decide +kernel
theorem dX12_cellar_21 : decode cX12_cellar 21 = .ok (.goto 24, 3) := by decide +kernel
theorem dX12_cellar_24 : decode cX12_cellar 24 = .ok (.iload_n 3, 1) := by decide +kernel
theorem dX12_cellar_25 : decode cX12_cellar 25 = .ok (.ifCond .ge 8, 3) := by decide +kernel
theorem dX12_cellar_28 : decode cX12_cellar 28 = .ok (.bipush (-4), 2) := by decide +kernel
theorem dX12_cellar_30 : decode cX12_cellar 30 = .ok (.goto 15, 3) := by decide +kernel
theorem dX12_cellar_33 : decode cX12_cellar 33 = .ok (.iload_n 3, 1) := by decide +kernel
theorem dX12_cellar_34 : decode cX12_cellar 34 = .ok (.bipush 9, 2) := by decide +kernel
theorem dX12_cellar_36 : decode cX12_cellar 36 = .ok (.if_icmp .le 8, 3) := by decide +kernel
theorem dX12_cellar_39 : decode cX12_cellar 39 = .ok (.bipush (-6), 2) := by decide +kernel
theorem dX12_cellar_41 : decode cX12_cellar 41 = .ok (.goto 4, 3) := by decide +kernel
theorem dX12_cellar_44 : decode cX12_cellar 44 = .ok (.iconst 0, 1) := by decide +kernel
theorem dX12_cellar_45 : decode cX12_cellar 45 = .ok (.istore 4, 2) := by decide +kernel
theorem dX12_cellar_47 : decode cX12_cellar 47 = .ok (.iload 4, 2) := by decide +kernel
theorem dX12_cellar_49 : decode cX12_cellar 49 = .ok (.ifCond .ge 13, 3) := by decide +kernel
theorem dX12_cellar_52 : decode cX12_cellar 52 = .ok (.ldc 228, 2) := by decide +kernel
theorem dX12_cellar_54 : decode cX12_cellar 54 = .ok (.aload_n 0, 1) := by decide +kernel
theorem dX12_cellar_55 : decode cX12_cellar 55 = .ok (.iload 4, 2) := by decide +kernel
theorem dX12_cellar_57 : decode cX12_cellar 57 = .ok (.invokevirtual 163, 3) := by decide +kernel
theorem dX12_cellar_60 : decode cX12_cellar 60 = .ok (.isub, 1) := by decide +kernel
theorem dX12_cellar_61 : decode cX12_cellar 61 = .ok (.ireturn, 1) := by decide +kernel
theorem dX12_cellar_62 : decode cX12_cellar 62 = .ok (.aload_n 0, 1) := by decide +kernel
theorem dX12_cellar_63 : decode cX12_cellar 63 = .ok (.iload_n 2, 1) := by decide +kernel
theorem dX12_cellar_64 : decode cX12_cellar 64 = .ok (.invokevirtual 225, 3) := by decide +kernel
theorem dX12_cellar_67 : decode cX12_cellar 67 = .ok (.istore 5, 2) := by decide +kernel
theorem dX12_cellar_69 : decode cX12_cellar 69 = .ok (.aload_n 0, 1) := by decide +kernel
theorem dX12_cellar_70 : decode cX12_cellar 70 = .ok (.getfield 7, 3) := by decide +kernel
theorem dX12_cellar_73 : decode cX12_cellar 73 = .ok (.iload_n 1, 1) := by decide +kernel
theorem dX12_cellar_74 : decode cX12_cellar 74 = .ok (.iaload, 1) := by decide +kernel
theorem dX12_cellar_75 : decode cX12_cellar 75 = .ok (.istore 6, 2) := by decide +kernel
theorem dX12_cellar_77 : decode cX12_cellar 77 = .ok (.aload_n 0, 1) := by decide +kernel
theorem dX12_cellar_78 : decode cX12_cellar 78 = .ok (.getfield 13, 3) := by decide +kernel
theorem dX12_cellar_81 : decode cX12_cellar 81 = .ok (.iload_n 1, 1) := by decide +kernel
theorem dX12_cellar_82 : decode cX12_cellar 82 = .ok (.iaload, 1) := by decide +kernel
theorem dX12_cellar_83 : decode cX12_cellar 83 = .ok (.istore 7, 2) := by decide +kernel
theorem dX12_cellar_85 : decode cX12_cellar 85 = .ok (.aload_n 0, 1) := by decide +kernel
theorem dX12_cellar_86 : decode cX12_cellar 86 = .ok (.getfield 7, 3) := by decide +kernel
theorem dX12_cellar_89 : decode cX12_cellar 89 = .ok (.iload_n 1, 1) := by decide +kernel
theorem dX12_cellar_90 : decode cX12_cellar 90 = .ok (.iconst 1, 1) := by decide +kernel
theorem dX12_cellar_91 : decode cX12_cellar 91 = .ok (.iastore, 1) := by decide +kernel
theorem dX12_cellar_92 : decode cX12_cellar 92 = .ok (.aload_n 0, 1) := by decide +kernel
theorem dX12_cellar_93 : decode cX12_cellar 93 = .ok (.getfield 13, 3) := by decide +kernel
theorem dX12_cellar_96 : decode cX12_cellar 96 = .ok (.iload_n 1, 1) := by decide +kernel
theorem dX12_cellar_97 : decode cX12_cellar 97 = .ok (.iload_n 3, 1) := by decide +kernel
theorem dX12_cellar_98 : decode cX12_cellar 98 = .ok (.iastore, 1) := by decide +kernel
theorem dX12_cellar_99 : decode cX12_cellar 99 = .ok (.aload_n 0, 1) := by decide +kernel
theorem dX12_cellar_100 : decode cX12_cellar 100 = .ok (.iload_n 2, 1) := by decide +kernel
theorem dX12_cellar_101 : decode cX12_cellar 101 = .ok (.invokevirtual 225, 3) := by decide +kernel
theorem dX12_cellar_104 : decode cX12_cellar 104 = .ok (.istore 8, 2) := by decide +kernel
theorem dX12_cellar_106 : decode cX12_cellar 106 = .ok (.aload_n 0, 1) := by decide +kernel
theorem dX12_cellar_107 : decode cX12_cellar 107 = .ok (.getfield 7, 3) := by decide +kernel
theorem dX12_cellar_110 : decode cX12_cellar 110 = .ok (.iload_n 1, 1) := by decide +kernel
theorem dX12_cellar_111 : decode cX12_cellar 111 = .ok (.iload 6, 2) := by decide +kernel
theorem dX12_cellar_113 : decode cX12_cellar 113 = .ok (.iastore, 1) := by decide +kernel
theorem dX12_cellar_114 : decode cX12_cellar 114 = .ok (.aload_n 0, 1) := by decide +kernel
theorem dX12_cellar_115 : decode cX12_cellar 115 = .ok (.getfield 13, 3) := by decide +kernel
theorem dX12_cellar_118 : decode cX12_cellar 118 = .ok (.iload_n 1, 1) := by decide +kernel
theorem dX12_cellar_119 : decode cX12_cellar 119 = .ok (.iload 7, 2) := by decide +kernel
theorem dX12_cellar_121 : decode cX12_cellar 121 = .ok (.iastore, 1) := by decide +kernel
theorem dX12_cellar_122 : decode cX12_cellar 122 = .ok (.iload 8, 2) := by decide +kernel
theorem dX12_cellar_124 : decode cX12_cellar 124 = .ok (.iload 5, 2) := by decide +kernel
theorem dX12_cellar_126 : decode cX12_cellar 126 = .ok (.isub, 1) := by decide +kernel
theorem dX12_cellar_127 : decode cX12_cellar 127 = .ok (.ireturn, 1) := by decide +kernel
theorem dX12_isPath_0 : decode cX12_isPath 0 = .ok (.iconst 1, 1) := by decide +kernel
theorem dX12_isPath_1 : decode cX12_isPath 1 = .ok (.iload_n 1, 1) := by decide +kernel
theorem dX12_isPath_2 : decode cX12_isPath 2 = .ok (.ishl, 1) := by decide +kernel
theorem dX12_isPath_3 : decode cX12_isPath 3 = .ok (.iconst 1, 1) := by decide +kernel
theorem dX12_isPath_4 : decode cX12_isPath 4 = .ok (.iload_n 2, 1) := by decide +kernel
theorem dX12_isPath_5 : decode cX12_isPath 5 = .ok (.ishl, 1) := by decide +kernel
theorem dX12_isPath_6 : decode cX12_isPath 6 = .ok (.ior, 1) := by decide +kernel
theorem dX12_isPath_7 : decode cX12_isPath 7 = .ok (.istore 5, 2) := by decide +kernel
theorem dX12_isPath_9 : decode cX12_isPath 9 = .ok (.iload_n 1, 1) := by decide +kernel
theorem dX12_isPath_10 : decode cX12_isPath 10 = .ok (.istore 6, 2) := by decide +kernel
theorem dX12_isPath_12 : decode cX12_isPath 12 = .ok (.iload 4, 2) := by decide +kernel
theorem dX12_isPath_14 : decode cX12_isPath 14 = .ok (.istore 7, 2) := by decide +kernel
theorem dX12_isPath_16 : decode cX12_isPath 16 = .ok (.iconst 1, 1) := by decide +kernel
theorem dX12_isPath_17 : decode cX12_isPath 17 = .ok (.istore 8, 2) := by decide +kernel
theorem dX12_isPath_19 : decode cX12_isPath 19 = .ok (.iconst 0, 1) := by decide +kernel
theorem dX12_isPath_20 : decode cX12_isPath 20 = .ok (.istore 9, 2) := by decide +kernel
theorem dX12_isPath_22 : decode cX12_isPath 22 = .ok (.iload 9, 2) := by decide +kernel
theorem dX12_isPath_24 : decode cX12_isPath 24 = .ok (.iload_n 3, 1) := by decide +kernel
theorem dX12_isPath_25 : decode cX12_isPath 25 = .ok (.if_icmp .ge 73, 3) := by decide +kernel
theorem dX12_isPath_28 : decode cX12_isPath 28 = .ok (.iload 8, 2) := by decide +kernel
theorem dX12_isPath_30 : decode cX12_isPath 30 = .ok (.ifCond .eq 68, 3) := by decide +kernel
theorem dX12_isPath_33 : decode cX12_isPath 33 = .ok (.iload 7, 2) := by decide +kernel
theorem dX12_isPath_35 : decode cX12_isPath 35 = .ok (.aload_n 0, 1) := by decide +kernel
theorem dX12_isPath_36 : decode cX12_isPath 36 = .ok (.getfield 77, 3) := by decide +kernel
theorem dX12_isPath_39 : decode cX12_isPath 39 = .ok (.irem, 1) := by decide +kernel
theorem dX12_isPath_40 : decode cX12_isPath 40 = .ok (.istore 10, 2) := by decide +kernel
theorem dX12_isPath_42 : decode cX12_isPath 42 = .ok (.iload 7, 2) := by decide +kernel
theorem dX12_isPath_44 : decode cX12_isPath 44 = .ok (.aload_n 0, 1) := by decide +kernel
theorem dX12_isPath_45 : decode cX12_isPath 45 = .ok (.getfield 77, 3) := by decide +kernel
theorem dX12_isPath_48 : decode cX12_isPath 48 = .ok (.idiv, 1) := by decide +kernel
theorem dX12_isPath_49 : decode cX12_isPath 49 = .ok (.istore 7, 2) := by decide +kernel
theorem dX12_isPath_51 : decode cX12_isPath 51 = .ok (.iload 5, 2) := by decide +kernel
theorem dX12_isPath_53 : decode cX12_isPath 53 = .ok (.iload 10, 2) := by decide +kernel
theorem dX12_isPath_55 : decode cX12_isPath 55 = .ok (.ishr, 1) := by decide +kernel
theorem dX12_isPath_56 : decode cX12_isPath 56 = .ok (.iconst 1, 1) := by decide +kernel
theorem dX12_isPath_57 : decode cX12_isPath 57 = .ok (.iand, 1) := by decide +kernel
theorem dX12_isPath_58 : decode cX12_isPath 58 = .ok (.ifCond .ne 18, 3) := by decide +kernel
theorem dX12_isPath_61 : decode cX12_isPath 61 = .ok (.aload_n 0, 1) := by decide +kernel
theorem dX12_isPath_62 : decode cX12_isPath 62 = .ok (.iload 6, 2) := by decide +kernel
theorem dX12_isPath_64 : decode cX12_isPath 64 = .ok (.iload 10, 2) := by decide +kernel
theorem dX12_isPath_66 : decode cX12_isPath 66 = .ok (.invokevirtual 100, 3) := by decide +kernel
theorem dX12_isPath_69 : decode cX12_isPath 69 = .ok (.ifCond .eq 7, 3) := by decide +kernel
theorem dX12_isPath_72 : decode cX12_isPath 72 = .ok (.iconst 1, 1) := by decide +kernel
theorem dX12_isPath_73 : decode cX12_isPath 73 = .ok (.goto 4, 3) := by decide +kernel
theorem dX12_isPath_76 : decode cX12_isPath 76 = .ok (.iconst 0, 1) := by decide +kernel
theorem dX12_isPath_77 : decode cX12_isPath 77 = .ok (.istore 8, 2) := by decide +kernel
theorem dX12_isPath_79 : decode cX12_isPath 79 = .ok (.iload 5, 2) := by decide +kernel
theorem dX12_isPath_81 : decode cX12_isPath 81 = .ok (.iconst 1, 1) := by decide +kernel
theorem dX12_isPath_82 : decode cX12_isPath 82 = .ok (.iload 10, 2) := by decide +kernel
theorem dX12_isPath_84 : decode cX12_isPath 84 = .ok (.ishl, 1) := by decide +kernel
theorem dX12_isPath_85 : decode cX12_isPath 85 = .ok (.ior, 1) := by decide +kernel
theorem dX12_isPath_86 : decode cX12_isPath 86 = .ok (.istore 5, 2) := by decide +kernel
theorem dX12_isPath_88 : decode cX12_isPath 88 = .ok (.iload 10, 2) := by decide +kernel
theorem dX12_isPath_90 : decode cX12_isPath 90 = .ok (.istore 6, 2) := by decide +kernel
theorem dX12_isPath_92 : decode cX12_isPath 92 = .ok (.iinc 9 1, 3) := by decide +kernel
theorem dX12_isPath_95 : decode cX12_isPath 95 = .ok (.goto (-73), 3) := by decide +kernel
theorem dX12_isPath_98 : decode cX12_isPath 98 = .ok (.iload 8, 2) := by decide +kernel
theorem dX12_isPath_100 : decode cX12_isPath 100 = .ok (.ifCond .eq 17, 3) := by decide +kernel
theorem dX12_isPath_103 : decode cX12_isPath 103 = .ok (.aload_n 0, 1) := by decide +kernel
theorem dX12_isPath_104 : decode cX12_isPath 104 = .ok (.iload 6, 2) := by decide +kernel
theorem dX12_isPath_106 : decode cX12_isPath 106 = .ok (.iload_n 2, 1) := by decide +kernel
theorem dX12_isPath_107 : decode cX12_isPath 107 = .ok (.invokevirtual 100, 3) := by decide +kernel
theorem dX12_isPath_110 : decode cX12_isPath 110 = .ok (.ifCond .eq 7, 3) := by decide +kernel
theorem dX12_isPath_113 : decode cX12_isPath 113 = .ok (.iconst 1, 1) := by decide +kernel
theorem dX12_isPath_114 : decode cX12_isPath 114 = .ok (.goto 4, 3) := by decide +kernel
theorem dX12_isPath_117 : decode cX12_isPath 117 = .ok (.iconst 0, 1) := by decide +kernel
theorem dX12_isPath_118 : decode cX12_isPath 118 = .ok (.ireturn, 1) := by decide +kernel
theorem dX12_paths_0 : decode cX12_paths 0 = .ok (.aload_n 0, 1) := by decide +kernel
theorem dX12_paths_1 : decode cX12_paths 1 = .ok (.iconst 0, 1) := by decide +kernel
theorem dX12_paths_2 : decode cX12_paths 2 = .ok (.putfield 73, 3) := by decide +kernel
theorem dX12_paths_5 : decode cX12_paths 5 = .ok (.aload_n 0, 1) := by decide +kernel
theorem dX12_paths_6 : decode cX12_paths 6 = .ok (.iload_n 1, 1) := by decide +kernel
theorem dX12_paths_7 : decode cX12_paths 7 = .ok (.iload_n 2, 1) := by decide +kernel
theorem dX12_paths_8 : decode cX12_paths 8 = .ok (.invokevirtual 195, 3) := by decide +kernel
theorem dX12_paths_11 : decode cX12_paths 11 = .ok (.ifCond .eq 13, 3) := by decide +kernel
theorem dX12_paths_14 : decode cX12_paths 14 = .ok (.iload_n 3, 1) := by decide +kernel
theorem dX12_paths_15 : decode cX12_paths 15 = .ok (.i2l, 1) := by decide +kernel
theorem dX12_paths_16 : decode cX12_paths 16 = .ok (.lconst 0, 1) := by decide +kernel
theorem dX12_paths_17 : decode cX12_paths 17 = .ok (.lconst 1, 1) := by decide +kernel
theorem dX12_paths_18 : decode cX12_paths 18 = .ok (.invokestatic 80, 3) := by decide +kernel
theorem dX12_paths_21 : decode cX12_paths 21 = .ok (.ifCond .ne 23, 3) := by decide +kernel
theorem dX12_paths_24 : decode cX12_paths 24 = .ok (.aload_n 0, 1) := by decide +kernel
theorem dX12_paths_25 : decode cX12_paths 25 = .ok (.aload_n 0, 1) := by decide +kernel
theorem dX12_paths_26 : decode cX12_paths 26 = .ok (.iload_n 1, 1) := by decide +kernel
theorem dX12_paths_27 : decode cX12_paths 27 = .ok (.iload_n 2, 1) := by decide +kernel
theorem dX12_paths_28 : decode cX12_paths 28 = .ok (.invokevirtual 195, 3) := by decide +kernel
theorem dX12_paths_31 : decode cX12_paths 31 = .ok (.ifCond .eq 8, 3) := by decide +kernel
theorem dX12_paths_34 : decode cX12_paths 34 = .ok (.bipush (-2), 2) := by decide +kernel
theorem dX12_paths_36 : decode cX12_paths 36 = .ok (.goto 4, 3) := by decide +kernel
theorem dX12_paths_39 : decode cX12_paths 39 = .ok (.iconst (-1), 1) := by decide +kernel
theorem dX12_paths_40 : decode cX12_paths 40 = .ok (.invokevirtual 163, 3) := by decide +kernel
theorem dX12_paths_43 : decode cX12_paths 43 = .ok (.ireturn, 1) := by decide +kernel
theorem dX12_paths_44 : decode cX12_paths 44 = .ok (.iconst 0, 1) := by decide +kernel
theorem dX12_paths_45 : decode cX12_paths 45 = .ok (.istore 4, 2) := by decide +kernel
theorem dX12_paths_47 : decode cX12_paths 47 = .ok (.bipush (-9), 2) := by decide +kernel
theorem dX12_paths_49 : decode cX12_paths 49 = .ok (.istore 5, 2) := by decide +kernel
theorem dX12_paths_51 : decode cX12_paths 51 = .ok (.iconst 1, 1) := by decide +kernel
theorem dX12_paths_52 : decode cX12_paths 52 = .ok (.istore 6, 2) := by decide +kernel
theorem dX12_paths_54 : decode cX12_paths 54 = .ok (.iconst 0, 1) := by decide +kernel
theorem dX12_paths_55 : decode cX12_paths 55 = .ok (.istore 7, 2) := by decide +kernel
theorem dX12_paths_57 : decode cX12_paths 57 = .ok (.iload 7, 2) := by decide +kernel
theorem dX12_paths_59 : decode cX12_paths 59 = .ok (.aload_n 0, 1) := by decide +kernel
theorem dX12_paths_60 : decode cX12_paths 60 = .ok (.getfield 77, 3) := by decide +kernel
theorem dX12_paths_63 : decode cX12_paths 63 = .ok (.iconst 1, 1) := by decide +kernel
theorem dX12_paths_64 : decode cX12_paths 64 = .ok (.isub, 1) := by decide +kernel
theorem dX12_paths_65 : decode cX12_paths 65 = .ok (.if_icmp .ge 66, 3) := by decide +kernel
theorem dX12_paths_68 : decode cX12_paths 68 = .ok (.iconst 0, 1) := by decide +kernel
theorem dX12_paths_69 : decode cX12_paths 69 = .ok (.istore 8, 2) := by decide +kernel
theorem dX12_paths_71 : decode cX12_paths 71 = .ok (.iload 8, 2) := by decide +kernel
theorem dX12_paths_73 : decode cX12_paths 73 = .ok (.iload 6, 2) := by decide +kernel
theorem dX12_paths_75 : decode cX12_paths 75 = .ok (.if_icmp .ge 41, 3) := by decide +kernel
theorem dX12_paths_78 : decode cX12_paths 78 = .ok (.aload_n 0, 1) := by decide +kernel
theorem dX12_paths_79 : decode cX12_paths 79 = .ok (.iload_n 1, 1) := by decide +kernel
theorem dX12_paths_80 : decode cX12_paths 80 = .ok (.iload_n 2, 1) := by decide +kernel
theorem dX12_paths_81 : decode cX12_paths 81 = .ok (.iload 7, 2) := by decide +kernel
theorem dX12_paths_83 : decode cX12_paths 83 = .ok (.iload 8, 2) := by decide +kernel
theorem dX12_paths_85 : decode cX12_paths 85 = .ok (.invokevirtual 229, 3) := by decide +kernel
theorem dX12_paths_88 : decode cX12_paths 88 = .ok (.ifCond .eq 22, 3) := by decide +kernel
theorem dX12_paths_91 : decode cX12_paths 91 = .ok (.iinc 4 1, 3) := by decide +kernel
theorem dX12_paths_94 : decode cX12_paths 94 = .ok (.iload 5, 2) := by decide +kernel
theorem dX12_paths_96 : decode cX12_paths 96 = .ok (.ifCond .ge 10, 3) := by decide +kernel
theorem dX12_paths_99 : decode cX12_paths 99 = .ok (.iload 7, 2) := by decide +kernel
theorem dX12_paths_101 : decode cX12_paths 101 = .ok (.iconst 1, 1) := by decide +kernel
theorem dX12_paths_102 : decode cX12_paths 102 = .ok (.iadd, 1) := by decide +kernel
theorem dX12_paths_103 : decode cX12_paths 103 = .ok (.goto 5, 3) := by decide +kernel
theorem dX12_paths_106 : decode cX12_paths 106 = .ok (.iload 5, 2) := by decide +kernel
theorem dX12_paths_108 : decode cX12_paths 108 = .ok (.istore 5, 2) := by decide +kernel
theorem dX12_paths_110 : decode cX12_paths 110 = .ok (.iinc 8 1, 3) := by decide +kernel
theorem dX12_paths_113 : decode cX12_paths 113 = .ok (.goto (-42), 3) := by decide +kernel
theorem dX12_paths_116 : decode cX12_paths 116 = .ok (.iload 6, 2) := by decide +kernel
theorem dX12_paths_118 : decode cX12_paths 118 = .ok (.aload_n 0, 1) := by decide +kernel
theorem dX12_paths_119 : decode cX12_paths 119 = .ok (.getfield 77, 3) := by decide +kernel
theorem dX12_paths_122 : decode cX12_paths 122 = .ok (.imul, 1) := by decide +kernel
theorem dX12_paths_123 : decode cX12_paths 123 = .ok (.istore 6, 2) := by decide +kernel
theorem dX12_paths_125 : decode cX12_paths 125 = .ok (.iinc 7 1, 3) := by decide +kernel
theorem dX12_paths_128 : decode cX12_paths 128 = .ok (.goto (-71), 3) := by decide +kernel
theorem dX12_paths_131 : decode cX12_paths 131 = .ok (.iload_n 3, 1) := by decide +kernel
theorem dX12_paths_132 : decode cX12_paths 132 = .ok (.ifCond .ne 8, 3) := by decide +kernel
theorem dX12_paths_135 : decode cX12_paths 135 = .ok (.iload 4, 2) := by decide +kernel
theorem dX12_paths_137 : decode cX12_paths 137 = .ok (.goto 5, 3) := by decide +kernel
theorem dX12_paths_140 : decode cX12_paths 140 = .ok (.iload 5, 2) := by decide +kernel
theorem dX12_paths_142 : decode cX12_paths 142 = .ok (.ireturn, 1) := by decide +kernel
theorem dX12_owed_0 : decode cX12_owed 0 = .ok (.aload_n 0, 1) := by decide +kernel
theorem dX12_owed_1 : decode cX12_owed 1 = .ok (.iconst 0, 1) := by decide +kernel
theorem dX12_owed_2 : decode cX12_owed 2 = .ok (.putfield 73, 3) := by decide +kernel
theorem dX12_owed_5 : decode cX12_owed 5 = .ok (.aload_n 0, 1) := by decide +kernel
theorem dX12_owed_6 : decode cX12_owed 6 = .ok (.iload_n 1, 1) := by decide +kernel
theorem dX12_owed_7 : decode cX12_owed 7 = .ok (.invokevirtual 84, 3) := by decide +kernel
theorem dX12_owed_10 : decode cX12_owed 10 = .ok (.ifCond .ne 12, 3) := by decide +kernel
theorem dX12_owed_13 : decode cX12_owed 13 = .ok (.ldc 228, 2) := by decide +kernel
theorem dX12_owed_15 : decode cX12_owed 15 = .ok (.aload_n 0, 1) := by decide +kernel
theorem dX12_owed_16 : decode cX12_owed 16 = .ok (.iconst (-1), 1) := by decide +kernel
theorem dX12_owed_17 : decode cX12_owed 17 = .ok (.invokevirtual 163, 3) := by decide +kernel
theorem dX12_owed_20 : decode cX12_owed 20 = .ok (.isub, 1) := by decide +kernel
theorem dX12_owed_21 : decode cX12_owed 21 = .ok (.ireturn, 1) := by decide +kernel
theorem dX12_owed_22 : decode cX12_owed 22 = .ok (.iconst 0, 1) := by decide +kernel
theorem dX12_owed_23 : decode cX12_owed 23 = .ok (.istore_n 2, 1) := by decide +kernel
theorem dX12_owed_24 : decode cX12_owed 24 = .ok (.iconst 0, 1) := by decide +kernel
theorem dX12_owed_25 : decode cX12_owed 25 = .ok (.istore_n 3, 1) := by decide +kernel
theorem dX12_owed_26 : decode cX12_owed 26 = .ok (.iload_n 3, 1) := by decide +kernel
theorem dX12_owed_27 : decode cX12_owed 27 = .ok (.aload_n 0, 1) := by decide +kernel
theorem dX12_owed_28 : decode cX12_owed 28 = .ok (.getfield 77, 3) := by decide +kernel
theorem dX12_owed_31 : decode cX12_owed 31 = .ok (.if_icmp .ge 25, 3) := by decide +kernel
theorem dX12_owed_34 : decode cX12_owed 34 = .ok (.iload_n 2, 1) := by decide +kernel
theorem dX12_owed_35 : decode cX12_owed 35 = .ok (.aload_n 0, 1) := by decide +kernel
theorem dX12_owed_36 : decode cX12_owed 36 = .ok (.iload_n 3, 1) := by decide +kernel
theorem dX12_owed_37 : decode cX12_owed 37 = .ok (.iload_n 1, 1) := by decide +kernel
theorem dX12_owed_38 : decode cX12_owed 38 = .ok (.invokevirtual 125, 3) := by decide +kernel
theorem dX12_owed_41 : decode cX12_owed 41 = .ok (.aload_n 0, 1) := by decide +kernel
theorem dX12_owed_42 : decode cX12_owed 42 = .ok (.iload_n 1, 1) := by decide +kernel
theorem dX12_owed_43 : decode cX12_owed 43 = .ok (.iload_n 3, 1) := by decide +kernel
theorem dX12_owed_44 : decode cX12_owed 44 = .ok (.invokevirtual 125, 3) := by decide +kernel
theorem dX12_owed_47 : decode cX12_owed 47 = .ok (.isub, 1) := by decide +kernel
theorem dX12_owed_48 : decode cX12_owed 48 = .ok (.iadd, 1) := by decide +kernel
theorem dX12_owed_49 : decode cX12_owed 49 = .ok (.istore_n 2, 1) := by decide +kernel
theorem dX12_owed_50 : decode cX12_owed 50 = .ok (.iinc 3 1, 3) := by decide +kernel
theorem dX12_owed_53 : decode cX12_owed 53 = .ok (.goto (-27), 3) := by decide +kernel
theorem dX12_owed_56 : decode cX12_owed 56 = .ok (.iload_n 2, 1) := by decide +kernel
theorem dX12_owed_57 : decode cX12_owed 57 = .ok (.ireturn, 1) := by decide +kernel
theorem dX12_rings_0 : decode cX12_rings 0 = .ok (.aload_n 0, 1) := by decide +kernel
theorem dX12_rings_1 : decode cX12_rings 1 = .ok (.iconst 0, 1) := by decide +kernel
theorem dX12_rings_2 : decode cX12_rings 2 = .ok (.putfield 73, 3) := by decide +kernel
theorem dX12_rings_5 : decode cX12_rings 5 = .ok (.iload_n 1, 1) := by decide +kernel
theorem dX12_rings_6 : decode cX12_rings 6 = .ok (.i2l, 1) := by decide +kernel
theorem dX12_rings_7 : decode cX12_rings 7 = .ok (.lconst 0, 1) := by decide +kernel
theorem dX12_rings_8 : decode cX12_rings 8 = .ok (.lconst 1, 1) := by decide +kernel
theorem dX12_rings_9 : decode cX12_rings 9 = .ok (.invokestatic 80, 3) := by decide +kernel
theorem dX12_rings_12 : decode cX12_rings 12 = .ok (.ifCond .ne 10, 3) := by decide +kernel
theorem dX12_rings_15 : decode cX12_rings 15 = .ok (.aload_n 0, 1) := by decide +kernel
theorem dX12_rings_16 : decode cX12_rings 16 = .ok (.bipush (-2), 2) := by decide +kernel
theorem dX12_rings_18 : decode cX12_rings 18 = .ok (.invokevirtual 163, 3) := by decide +kernel
theorem dX12_rings_21 : decode cX12_rings 21 = .ok (.ireturn, 1) := by decide +kernel
theorem dX12_rings_22 : decode cX12_rings 22 = .ok (.aload_n 0, 1) := by decide +kernel
theorem dX12_rings_23 : decode cX12_rings 23 = .ok (.invokevirtual 201, 3) := by decide +kernel
theorem dX12_rings_26 : decode cX12_rings 26 = .ok (.aload_n 0, 1) := by decide +kernel
theorem dX12_rings_27 : decode cX12_rings 27 = .ok (.invokevirtual 216, 3) := by decide +kernel
theorem dX12_rings_30 : decode cX12_rings 30 = .ok (.istore_n 2, 1) := by decide +kernel
theorem dX12_rings_31 : decode cX12_rings 31 = .ok (.aload_n 0, 1) := by decide +kernel
theorem dX12_rings_32 : decode cX12_rings 32 = .ok (.invokevirtual 207, 3) := by decide +kernel
theorem dX12_rings_35 : decode cX12_rings 35 = .ok (.iload_n 1, 1) := by decide +kernel
theorem dX12_rings_36 : decode cX12_rings 36 = .ok (.ifCond .ne 7, 3) := by decide +kernel
theorem dX12_rings_39 : decode cX12_rings 39 = .ok (.iload_n 2, 1) := by decide +kernel
theorem dX12_rings_40 : decode cX12_rings 40 = .ok (.goto 7, 3) := by decide +kernel
theorem dX12_rings_43 : decode cX12_rings 43 = .ok (.aload_n 0, 1) := by decide +kernel
theorem dX12_rings_44 : decode cX12_rings 44 = .ok (.getfield 133, 3) := by decide +kernel
theorem dX12_rings_47 : decode cX12_rings 47 = .ok (.ireturn, 1) := by decide +kernel
theorem dX12_votes_0 : decode cX12_votes 0 = .ok (.aload_n 0, 1) := by decide +kernel
theorem dX12_votes_1 : decode cX12_votes 1 = .ok (.iconst 0, 1) := by decide +kernel
theorem dX12_votes_2 : decode cX12_votes 2 = .ok (.putfield 73, 3) := by decide +kernel
theorem dX12_votes_5 : decode cX12_votes 5 = .ok (.iload_n 1, 1) := by decide +kernel
theorem dX12_votes_6 : decode cX12_votes 6 = .ok (.i2l, 1) := by decide +kernel
theorem dX12_votes_7 : decode cX12_votes 7 = .ok (.lconst 0, 1) := by decide +kernel
theorem dX12_votes_8 : decode cX12_votes 8 = .ok (.ldc2_w 88, 3) := by decide +kernel
theorem dX12_votes_11 : decode cX12_votes 11 = .ok (.invokestatic 80, 3) := by decide +kernel
theorem dX12_votes_14 : decode cX12_votes 14 = .ok (.ifCond .ne 8, 3) := by decide +kernel
theorem dX12_votes_17 : decode cX12_votes 17 = .ok (.bipush (-2), 2) := by decide +kernel
theorem dX12_votes_19 : decode cX12_votes 19 = .ok (.goto 25, 3) := by decide +kernel
theorem dX12_votes_22 : decode cX12_votes 22 = .ok (.iload_n 2, 1) := by decide +kernel
theorem dX12_votes_23 : decode cX12_votes 23 = .ok (.iconst 1, 1) := by decide +kernel
theorem dX12_votes_24 : decode cX12_votes 24 = .ok (.if_icmp .ge 8, 3) := by decide +kernel
theorem dX12_votes_27 : decode cX12_votes 27 = .ok (.bipush (-4), 2) := by decide +kernel
theorem dX12_votes_29 : decode cX12_votes 29 = .ok (.goto 15, 3) := by decide +kernel
theorem dX12_votes_32 : decode cX12_votes 32 = .ok (.iload_n 2, 1) := by decide +kernel
theorem dX12_votes_33 : decode cX12_votes 33 = .ok (.bipush 30, 2) := by decide +kernel
theorem dX12_votes_35 : decode cX12_votes 35 = .ok (.if_icmp .le 8, 3) := by decide +kernel
theorem dX12_votes_38 : decode cX12_votes 38 = .ok (.bipush (-6), 2) := by decide +kernel
theorem dX12_votes_40 : decode cX12_votes 40 = .ok (.goto 4, 3) := by decide +kernel
theorem dX12_votes_43 : decode cX12_votes 43 = .ok (.iconst 0, 1) := by decide +kernel
theorem dX12_votes_44 : decode cX12_votes 44 = .ok (.istore_n 3, 1) := by decide +kernel
theorem dX12_votes_45 : decode cX12_votes 45 = .ok (.iload_n 3, 1) := by decide +kernel
theorem dX12_votes_46 : decode cX12_votes 46 = .ok (.ifCond .ge 9, 3) := by decide +kernel
theorem dX12_votes_49 : decode cX12_votes 49 = .ok (.aload_n 0, 1) := by decide +kernel
theorem dX12_votes_50 : decode cX12_votes 50 = .ok (.iload_n 3, 1) := by decide +kernel
theorem dX12_votes_51 : decode cX12_votes 51 = .ok (.invokevirtual 163, 3) := by decide +kernel
theorem dX12_votes_54 : decode cX12_votes 54 = .ok (.ireturn, 1) := by decide +kernel
theorem dX12_votes_55 : decode cX12_votes 55 = .ok (.aload_n 0, 1) := by decide +kernel
theorem dX12_votes_56 : decode cX12_votes 56 = .ok (.invokevirtual 201, 3) := by decide +kernel
theorem dX12_votes_59 : decode cX12_votes 59 = .ok (.aload_n 0, 1) := by decide +kernel
theorem dX12_votes_60 : decode cX12_votes 60 = .ok (.iload_n 2, 1) := by decide +kernel
theorem dX12_votes_61 : decode cX12_votes 61 = .ok (.invokevirtual 219, 3) := by decide +kernel
theorem dX12_votes_64 : decode cX12_votes 64 = .ok (.pop, 1) := by decide +kernel
theorem dX12_votes_65 : decode cX12_votes 65 = .ok (.iconst 0, 1) := by decide +kernel
theorem dX12_votes_66 : decode cX12_votes 66 = .ok (.istore 4, 2) := by decide +kernel
theorem dX12_votes_68 : decode cX12_votes 68 = .ok (.iload 4, 2) := by decide +kernel
theorem dX12_votes_70 : decode cX12_votes 70 = .ok (.bipush 6, 2) := by decide +kernel
theorem dX12_votes_72 : decode cX12_votes 72 = .ok (.if_icmp .ge 23, 3) := by decide +kernel
theorem dX12_votes_75 : decode cX12_votes 75 = .ok (.aload_n 0, 1) := by decide +kernel
theorem dX12_votes_76 : decode cX12_votes 76 = .ok (.getfield 67, 3) := by decide +kernel
theorem dX12_votes_79 : decode cX12_votes 79 = .ok (.iload 4, 2) := by decide +kernel
theorem dX12_votes_81 : decode cX12_votes 81 = .ok (.aload_n 0, 1) := by decide +kernel
theorem dX12_votes_82 : decode cX12_votes 82 = .ok (.getfield 46, 3) := by decide +kernel
theorem dX12_votes_85 : decode cX12_votes 85 = .ok (.iload 4, 2) := by decide +kernel
theorem dX12_votes_87 : decode cX12_votes 87 = .ok (.iaload, 1) := by decide +kernel
theorem dX12_votes_88 : decode cX12_votes 88 = .ok (.iastore, 1) := by decide +kernel
theorem dX12_votes_89 : decode cX12_votes 89 = .ok (.iinc 4 1, 3) := by decide +kernel
theorem dX12_votes_92 : decode cX12_votes 92 = .ok (.goto (-24), 3) := by decide +kernel
theorem dX12_votes_95 : decode cX12_votes 95 = .ok (.aload_n 0, 1) := by decide +kernel
theorem dX12_votes_96 : decode cX12_votes 96 = .ok (.invokevirtual 207, 3) := by decide +kernel
theorem dX12_votes_99 : decode cX12_votes 99 = .ok (.aload_n 0, 1) := by decide +kernel
theorem dX12_votes_100 : decode cX12_votes 100 = .ok (.invokevirtual 201, 3) := by decide +kernel
theorem dX12_votes_103 : decode cX12_votes 103 = .ok (.aload_n 0, 1) := by decide +kernel
theorem dX12_votes_104 : decode cX12_votes 104 = .ok (.iload_n 1, 1) := by decide +kernel
theorem dX12_votes_105 : decode cX12_votes 105 = .ok (.putfield 97, 3) := by decide +kernel
theorem dX12_votes_108 : decode cX12_votes 108 = .ok (.aload_n 0, 1) := by decide +kernel
theorem dX12_votes_109 : decode cX12_votes 109 = .ok (.iload_n 2, 1) := by decide +kernel
theorem dX12_votes_110 : decode cX12_votes 110 = .ok (.invokevirtual 219, 3) := by decide +kernel
theorem dX12_votes_113 : decode cX12_votes 113 = .ok (.pop, 1) := by decide +kernel
theorem dX12_votes_114 : decode cX12_votes 114 = .ok (.iconst 0, 1) := by decide +kernel
theorem dX12_votes_115 : decode cX12_votes 115 = .ok (.istore 4, 2) := by decide +kernel
theorem dX12_votes_117 : decode cX12_votes 117 = .ok (.iconst 0, 1) := by decide +kernel
theorem dX12_votes_118 : decode cX12_votes 118 = .ok (.istore 5, 2) := by decide +kernel
theorem dX12_votes_120 : decode cX12_votes 120 = .ok (.iload 5, 2) := by decide +kernel
theorem dX12_votes_122 : decode cX12_votes 122 = .ok (.aload_n 0, 1) := by decide +kernel
theorem dX12_votes_123 : decode cX12_votes 123 = .ok (.getfield 77, 3) := by decide +kernel
theorem dX12_votes_126 : decode cX12_votes 126 = .ok (.if_icmp .ge 39, 3) := by decide +kernel
theorem dX12_votes_129 : decode cX12_votes 129 = .ok (.iload 4, 2) := by decide +kernel
theorem dX12_votes_131 : decode cX12_votes 131 = .ok (.aload_n 0, 1) := by decide +kernel
theorem dX12_votes_132 : decode cX12_votes 132 = .ok (.getfield 46, 3) := by decide +kernel
theorem dX12_votes_135 : decode cX12_votes 135 = .ok (.iload 5, 2) := by decide +kernel
theorem dX12_votes_137 : decode cX12_votes 137 = .ok (.iaload, 1) := by decide +kernel
theorem dX12_votes_138 : decode cX12_votes 138 = .ok (.aload_n 0, 1) := by decide +kernel
theorem dX12_votes_139 : decode cX12_votes 139 = .ok (.getfield 67, 3) := by decide +kernel
theorem dX12_votes_142 : decode cX12_votes 142 = .ok (.iload 5, 2) := by decide +kernel
theorem dX12_votes_144 : decode cX12_votes 144 = .ok (.iaload, 1) := by decide +kernel
theorem dX12_votes_145 : decode cX12_votes 145 = .ok (.if_icmp .le 10, 3) := by decide +kernel
theorem dX12_votes_148 : decode cX12_votes 148 = .ok (.iconst 1, 1) := by decide +kernel
theorem dX12_votes_149 : decode cX12_votes 149 = .ok (.iload 5, 2) := by decide +kernel
theorem dX12_votes_151 : decode cX12_votes 151 = .ok (.ishl, 1) := by decide +kernel
theorem dX12_votes_152 : decode cX12_votes 152 = .ok (.goto 4, 3) := by decide +kernel
theorem dX12_votes_155 : decode cX12_votes 155 = .ok (.iconst 0, 1) := by decide +kernel
theorem dX12_votes_156 : decode cX12_votes 156 = .ok (.ior, 1) := by decide +kernel
theorem dX12_votes_157 : decode cX12_votes 157 = .ok (.istore 4, 2) := by decide +kernel
theorem dX12_votes_159 : decode cX12_votes 159 = .ok (.iinc 5 1, 3) := by decide +kernel
theorem dX12_votes_162 : decode cX12_votes 162 = .ok (.goto (-42), 3) := by decide +kernel
theorem dX12_votes_165 : decode cX12_votes 165 = .ok (.aload_n 0, 1) := by decide +kernel
theorem dX12_votes_166 : decode cX12_votes 166 = .ok (.invokevirtual 207, 3) := by decide +kernel
theorem dX12_votes_169 : decode cX12_votes 169 = .ok (.iload 4, 2) := by decide +kernel
theorem dX12_votes_171 : decode cX12_votes 171 = .ok (.ireturn, 1) := by decide +kernel
theorem dX12_row_0 : decode cX12_row 0 = .ok (.aload_n 0, 1) := by decide +kernel
theorem dX12_row_1 : decode cX12_row 1 = .ok (.iconst 0, 1) := by decide +kernel
theorem dX12_row_2 : decode cX12_row 2 = .ok (.putfield 73, 3) := by decide +kernel
theorem dX12_row_5 : decode cX12_row 5 = .ok (.iload_n 1, 1) := by decide +kernel
theorem dX12_row_6 : decode cX12_row 6 = .ok (.ifCond .ge 10, 3) := by decide +kernel
theorem dX12_row_9 : decode cX12_row 9 = .ok (.aload_n 0, 1) := by decide +kernel
theorem dX12_row_10 : decode cX12_row 10 = .ok (.bipush (-4), 2) := by decide +kernel
theorem dX12_row_12 : decode cX12_row 12 = .ok (.invokevirtual 163, 3) := by decide +kernel
theorem dX12_row_15 : decode cX12_row 15 = .ok (.ireturn, 1) := by decide +kernel
theorem dX12_row_16 : decode cX12_row 16 = .ok (.iload_n 1, 1) := by decide +kernel
theorem dX12_row_17 : decode cX12_row 17 = .ok (.sipush 999, 3) := by decide +kernel
theorem dX12_row_20 : decode cX12_row 20 = .ok (.if_icmp .gt 12, 3) := by decide +kernel
theorem dX12_row_23 : decode cX12_row 23 = .ok (.aload_n 0, 1) := by decide +kernel
theorem dX12_row_24 : decode cX12_row 24 = .ok (.getfield 233, 3) := by decide +kernel
theorem dX12_row_27 : decode cX12_row 27 = .ok (.bipush 8, 2) := by decide +kernel
theorem dX12_row_29 : decode cX12_row 29 = .ok (.if_icmp .ne 10, 3) := by decide +kernel
theorem dX12_row_32 : decode cX12_row 32 = .ok (.aload_n 0, 1) := by decide +kernel
theorem dX12_row_33 : decode cX12_row 33 = .ok (.bipush (-6), 2) := by decide +kernel
theorem dX12_row_35 : decode cX12_row 35 = .ok (.invokevirtual 163, 3) := by decide +kernel
theorem dX12_row_38 : decode cX12_row 38 = .ok (.ireturn, 1) := by decide +kernel
theorem dX12_row_39 : decode cX12_row 39 = .ok (.aload_n 0, 1) := by decide +kernel
theorem dX12_row_40 : decode cX12_row 40 = .ok (.getfield 70, 3) := by decide +kernel
theorem dX12_row_43 : decode cX12_row 43 = .ok (.aload_n 0, 1) := by decide +kernel
theorem dX12_row_44 : decode cX12_row 44 = .ok (.getfield 233, 3) := by decide +kernel
theorem dX12_row_47 : decode cX12_row 47 = .ok (.iload_n 1, 1) := by decide +kernel
theorem dX12_row_48 : decode cX12_row 48 = .ok (.iastore, 1) := by decide +kernel
theorem dX12_row_49 : decode cX12_row 49 = .ok (.aload_n 0, 1) := by decide +kernel
theorem dX12_row_50 : decode cX12_row 50 = .ok (.dup, 1) := by decide +kernel
theorem dX12_row_51 : decode cX12_row 51 = .ok (.getfield 233, 3) := by decide +kernel
theorem dX12_row_54 : decode cX12_row 54 = .ok (.iconst 1, 1) := by decide +kernel
theorem dX12_row_55 : decode cX12_row 55 = .ok (.iadd, 1) := by decide +kernel
theorem dX12_row_56 : decode cX12_row 56 = .ok (.putfield 233, 3) := by decide +kernel
theorem dX12_row_59 : decode cX12_row 59 = .ok (.aload_n 0, 1) := by decide +kernel
theorem dX12_row_60 : decode cX12_row 60 = .ok (.getfield 233, 3) := by decide +kernel
theorem dX12_row_63 : decode cX12_row 63 = .ok (.ireturn, 1) := by decide +kernel
theorem dX12_isSold_0 : decode cX12_isSold 0 = .ok (.aload_n 0, 1) := by decide +kernel
theorem dX12_isSold_1 : decode cX12_isSold 1 = .ok (.iload_n 1, 1) := by decide +kernel
theorem dX12_isSold_2 : decode cX12_isSold 2 = .ok (.iload_n 2, 1) := by decide +kernel
theorem dX12_isSold_3 : decode cX12_isSold 3 = .ok (.invokevirtual 195, 3) := by decide +kernel
theorem dX12_isSold_6 : decode cX12_isSold 6 = .ok (.ifCond .eq 24, 3) := by decide +kernel
theorem dX12_isSold_9 : decode cX12_isSold 9 = .ok (.iload_n 3, 1) := by decide +kernel
theorem dX12_isSold_10 : decode cX12_isSold 10 = .ok (.invokestatic 210, 3) := by decide +kernel
theorem dX12_isSold_13 : decode cX12_isSold 13 = .ok (.ifCond .eq 17, 3) := by decide +kernel
theorem dX12_isSold_16 : decode cX12_isSold 16 = .ok (.aload_n 0, 1) := by decide +kernel
theorem dX12_isSold_17 : decode cX12_isSold 17 = .ok (.iload_n 1, 1) := by decide +kernel
theorem dX12_isSold_18 : decode cX12_isSold 18 = .ok (.iload_n 2, 1) := by decide +kernel
theorem dX12_isSold_19 : decode cX12_isSold 19 = .ok (.iload_n 3, 1) := by decide +kernel
theorem dX12_isSold_20 : decode cX12_isSold 20 = .ok (.invokevirtual 107, 3) := by decide +kernel
theorem dX12_isSold_23 : decode cX12_isSold 23 = .ok (.ifCond .eq 7, 3) := by decide +kernel
theorem dX12_isSold_26 : decode cX12_isSold 26 = .ok (.iconst 1, 1) := by decide +kernel
theorem dX12_isSold_27 : decode cX12_isSold 27 = .ok (.goto 4, 3) := by decide +kernel
theorem dX12_isSold_30 : decode cX12_isSold 30 = .ok (.iconst 0, 1) := by decide +kernel
theorem dX12_isSold_31 : decode cX12_isSold 31 = .ok (.istore 4, 2) := by decide +kernel
theorem dX12_isSold_33 : decode cX12_isSold 33 = .ok (.iload 4, 2) := by decide +kernel
theorem dX12_isSold_35 : decode cX12_isSold 35 = .ok (.ifCond .eq 10, 3) := by decide +kernel
theorem dX12_isSold_38 : decode cX12_isSold 38 = .ok (.aload_n 0, 1) := by decide +kernel
theorem dX12_isSold_39 : decode cX12_isSold 39 = .ok (.iload_n 1, 1) := by decide +kernel
theorem dX12_isSold_40 : decode cX12_isSold 40 = .ok (.iload_n 2, 1) := by decide +kernel
theorem dX12_isSold_41 : decode cX12_isSold 41 = .ok (.iload_n 3, 1) := by decide +kernel
theorem dX12_isSold_42 : decode cX12_isSold 42 = .ok (.invokevirtual 111, 3) := by decide +kernel
theorem dX12_isSold_45 : decode cX12_isSold 45 = .ok (.iload 4, 2) := by decide +kernel
theorem dX12_isSold_47 : decode cX12_isSold 47 = .ok (.ireturn, 1) := by decide +kernel
theorem dX12_judge_0 : decode cX12_judge 0 = .ok (.aload_n 0, 1) := by decide +kernel
theorem dX12_judge_1 : decode cX12_judge 1 = .ok (.iconst 0, 1) := by decide +kernel
theorem dX12_judge_2 : decode cX12_judge 2 = .ok (.putfield 73, 3) := by decide +kernel
theorem dX12_judge_5 : decode cX12_judge 5 = .ok (.aload_n 0, 1) := by decide +kernel
theorem dX12_judge_6 : decode cX12_judge 6 = .ok (.getfield 233, 3) := by decide +kernel
theorem dX12_judge_9 : decode cX12_judge 9 = .ok (.istore_n 1, 1) := by decide +kernel
theorem dX12_judge_10 : decode cX12_judge 10 = .ok (.aload_n 0, 1) := by decide +kernel
theorem dX12_judge_11 : decode cX12_judge 11 = .ok (.iconst 0, 1) := by decide +kernel
theorem dX12_judge_12 : decode cX12_judge 12 = .ok (.putfield 233, 3) := by decide +kernel
theorem dX12_judge_15 : decode cX12_judge 15 = .ok (.aload_n 0, 1) := by decide +kernel
theorem dX12_judge_16 : decode cX12_judge 16 = .ok (.invokevirtual 201, 3) := by decide +kernel
theorem dX12_judge_19 : decode cX12_judge 19 = .ok (.bipush (-9), 2) := by decide +kernel
theorem dX12_judge_21 : decode cX12_judge 21 = .ok (.istore_n 2, 1) := by decide +kernel
theorem dX12_judge_22 : decode cX12_judge 22 = .ok (.iconst 0, 1) := by decide +kernel
theorem dX12_judge_23 : decode cX12_judge 23 = .ok (.istore_n 3, 1) := by decide +kernel
theorem dX12_judge_24 : decode cX12_judge 24 = .ok (.iload_n 3, 1) := by decide +kernel
theorem dX12_judge_25 : decode cX12_judge 25 = .ok (.iload_n 1, 1) := by decide +kernel
theorem dX12_judge_26 : decode cX12_judge 26 = .ok (.if_icmp .ge 57, 3) := by decide +kernel
theorem dX12_judge_29 : decode cX12_judge 29 = .ok (.iload_n 2, 1) := by decide +kernel
theorem dX12_judge_30 : decode cX12_judge 30 = .ok (.ifCond .ge 53, 3) := by decide +kernel
theorem dX12_judge_33 : decode cX12_judge 33 = .ok (.aload_n 0, 1) := by decide +kernel
theorem dX12_judge_34 : decode cX12_judge 34 = .ok (.aload_n 0, 1) := by decide +kernel
theorem dX12_judge_35 : decode cX12_judge 35 = .ok (.getfield 70, 3) := by decide +kernel
theorem dX12_judge_38 : decode cX12_judge 38 = .ok (.iload_n 3, 1) := by decide +kernel
theorem dX12_judge_39 : decode cX12_judge 39 = .ok (.iaload, 1) := by decide +kernel
theorem dX12_judge_40 : decode cX12_judge 40 = .ok (.bipush 100, 2) := by decide +kernel
theorem dX12_judge_42 : decode cX12_judge 42 = .ok (.idiv, 1) := by decide +kernel
theorem dX12_judge_43 : decode cX12_judge 43 = .ok (.aload_n 0, 1) := by decide +kernel
theorem dX12_judge_44 : decode cX12_judge 44 = .ok (.getfield 70, 3) := by decide +kernel
theorem dX12_judge_47 : decode cX12_judge 47 = .ok (.iload_n 3, 1) := by decide +kernel
theorem dX12_judge_48 : decode cX12_judge 48 = .ok (.iaload, 1) := by decide +kernel
theorem dX12_judge_49 : decode cX12_judge 49 = .ok (.bipush 10, 2) := by decide +kernel
theorem dX12_judge_51 : decode cX12_judge 51 = .ok (.idiv, 1) := by decide +kernel
theorem dX12_judge_52 : decode cX12_judge 52 = .ok (.bipush 10, 2) := by decide +kernel
theorem dX12_judge_54 : decode cX12_judge 54 = .ok (.irem, 1) := by decide +kernel
theorem dX12_judge_55 : decode cX12_judge 55 = .ok (.aload_n 0, 1) := by decide +kernel
theorem dX12_judge_56 : decode cX12_judge 56 = .ok (.getfield 70, 3) := by decide +kernel
theorem dX12_judge_59 : decode cX12_judge 59 = .ok (.iload_n 3, 1) := by decide +kernel
theorem dX12_judge_60 : decode cX12_judge 60 = .ok (.iaload, 1) := by decide +kernel
theorem dX12_judge_61 : decode cX12_judge 61 = .ok (.bipush 10, 2) := by decide +kernel
theorem dX12_judge_63 : decode cX12_judge 63 = .ok (.irem, 1) := by decide +kernel
theorem dX12_judge_64 : decode cX12_judge 64 = .ok (.invokevirtual 236, 3) := by decide +kernel
theorem dX12_judge_67 : decode cX12_judge 67 = .ok (.ifCond .eq 8, 3) := by decide +kernel
theorem dX12_judge_70 : decode cX12_judge 70 = .ok (.bipush (-9), 2) := by decide +kernel
theorem dX12_judge_72 : decode cX12_judge 72 = .ok (.goto 4, 3) := by decide +kernel
theorem dX12_judge_75 : decode cX12_judge 75 = .ok (.iload_n 3, 1) := by decide +kernel
theorem dX12_judge_76 : decode cX12_judge 76 = .ok (.istore_n 2, 1) := by decide +kernel
theorem dX12_judge_77 : decode cX12_judge 77 = .ok (.iinc 3 1, 3) := by decide +kernel
theorem dX12_judge_80 : decode cX12_judge 80 = .ok (.goto (-56), 3) := by decide +kernel
theorem dX12_judge_83 : decode cX12_judge 83 = .ok (.aload_n 0, 1) := by decide +kernel
theorem dX12_judge_84 : decode cX12_judge 84 = .ok (.invokevirtual 207, 3) := by decide +kernel
theorem dX12_judge_87 : decode cX12_judge 87 = .ok (.iload_n 2, 1) := by decide +kernel
theorem dX12_judge_88 : decode cX12_judge 88 = .ok (.ireturn, 1) := by decide +kernel
theorem dX12_draw_0 : decode cX12_draw 0 = .ok (.aload_n 0, 1) := by decide +kernel
theorem dX12_draw_1 : decode cX12_draw 1 = .ok (.aload_n 0, 1) := by decide +kernel
theorem dX12_draw_2 : decode cX12_draw 2 = .ok (.getfield 239, 3) := by decide +kernel
theorem dX12_draw_5 : decode cX12_draw 5 = .ok (.ldc 242, 2) := by decide +kernel
theorem dX12_draw_7 : decode cX12_draw 7 = .ok (.imul, 1) := by decide +kernel
theorem dX12_draw_8 : decode cX12_draw 8 = .ok (.sipush 12345, 3) := by decide +kernel
theorem dX12_draw_11 : decode cX12_draw 11 = .ok (.iadd, 1) := by decide +kernel
theorem dX12_draw_12 : decode cX12_draw 12 = .ok (.putfield 239, 3) := by decide +kernel
theorem dX12_draw_15 : decode cX12_draw 15 = .ok (.aload_n 0, 1) := by decide +kernel
theorem dX12_draw_16 : decode cX12_draw 16 = .ok (.getfield 239, 3) := by decide +kernel
theorem dX12_draw_19 : decode cX12_draw 19 = .ok (.ldc 243, 2) := by decide +kernel
theorem dX12_draw_21 : decode cX12_draw 21 = .ok (.iand, 1) := by decide +kernel
theorem dX12_draw_22 : decode cX12_draw 22 = .ok (.ldc 244, 2) := by decide +kernel
theorem dX12_draw_24 : decode cX12_draw 24 = .ok (.idiv, 1) := by decide +kernel
theorem dX12_draw_25 : decode cX12_draw 25 = .ok (.iload_n 1, 1) := by decide +kernel
theorem dX12_draw_26 : decode cX12_draw 26 = .ok (.irem, 1) := by decide +kernel
theorem dX12_draw_27 : decode cX12_draw 27 = .ok (.ireturn, 1) := by decide +kernel
theorem dX12_seeds_0 : decode cX12_seeds 0 = .ok (.aload_n 0, 1) := by decide +kernel
theorem dX12_seeds_1 : decode cX12_seeds 1 = .ok (.iconst 0, 1) := by decide +kernel
theorem dX12_seeds_2 : decode cX12_seeds 2 = .ok (.putfield 73, 3) := by decide +kernel
theorem dX12_seeds_5 : decode cX12_seeds 5 = .ok (.iload_n 1, 1) := by decide +kernel
theorem dX12_seeds_6 : decode cX12_seeds 6 = .ok (.iconst 1, 1) := by decide +kernel
theorem dX12_seeds_7 : decode cX12_seeds 7 = .ok (.if_icmp .ge 8, 3) := by decide +kernel
theorem dX12_seeds_10 : decode cX12_seeds 10 = .ok (.bipush (-4), 2) := by decide +kernel
theorem dX12_seeds_12 : decode cX12_seeds 12 = .ok (.goto 27, 3) := by decide +kernel
theorem dX12_seeds_15 : decode cX12_seeds 15 = .ok (.iload_n 1, 1) := by decide +kernel
theorem dX12_seeds_16 : decode cX12_seeds 16 = .ok (.bipush 60, 2) := by decide +kernel
theorem dX12_seeds_18 : decode cX12_seeds 18 = .ok (.if_icmp .le 8, 3) := by decide +kernel
theorem dX12_seeds_21 : decode cX12_seeds 21 = .ok (.bipush (-6), 2) := by decide +kernel
theorem dX12_seeds_23 : decode cX12_seeds 23 = .ok (.goto 16, 3) := by decide +kernel
theorem dX12_seeds_26 : decode cX12_seeds 26 = .ok (.aload_n 0, 1) := by decide +kernel
theorem dX12_seeds_27 : decode cX12_seeds 27 = .ok (.getfield 77, 3) := by decide +kernel
theorem dX12_seeds_30 : decode cX12_seeds 30 = .ok (.ifCond .ne 8, 3) := by decide +kernel
theorem dX12_seeds_33 : decode cX12_seeds 33 = .ok (.bipush (-3), 2) := by decide +kernel
theorem dX12_seeds_35 : decode cX12_seeds 35 = .ok (.goto 4, 3) := by decide +kernel
theorem dX12_seeds_38 : decode cX12_seeds 38 = .ok (.iconst 0, 1) := by decide +kernel
theorem dX12_seeds_39 : decode cX12_seeds 39 = .ok (.istore_n 3, 1) := by decide +kernel
theorem dX12_seeds_40 : decode cX12_seeds 40 = .ok (.iload_n 3, 1) := by decide +kernel
theorem dX12_seeds_41 : decode cX12_seeds 41 = .ok (.ifCond .ge 9, 3) := by decide +kernel
theorem dX12_seeds_44 : decode cX12_seeds 44 = .ok (.aload_n 0, 1) := by decide +kernel
theorem dX12_seeds_45 : decode cX12_seeds 45 = .ok (.iload_n 3, 1) := by decide +kernel
theorem dX12_seeds_46 : decode cX12_seeds 46 = .ok (.invokevirtual 163, 3) := by decide +kernel
theorem dX12_seeds_49 : decode cX12_seeds 49 = .ok (.ireturn, 1) := by decide +kernel
theorem dX12_seeds_50 : decode cX12_seeds 50 = .ok (.aload_n 0, 1) := by decide +kernel
theorem dX12_seeds_51 : decode cX12_seeds 51 = .ok (.invokevirtual 201, 3) := by decide +kernel
theorem dX12_seeds_54 : decode cX12_seeds 54 = .ok (.aload_n 0, 1) := by decide +kernel
theorem dX12_seeds_55 : decode cX12_seeds 55 = .ok (.iload_n 2, 1) := by decide +kernel
theorem dX12_seeds_56 : decode cX12_seeds 56 = .ok (.putfield 239, 3) := by decide +kernel
theorem dX12_seeds_59 : decode cX12_seeds 59 = .ok (.iconst 0, 1) := by decide +kernel
theorem dX12_seeds_60 : decode cX12_seeds 60 = .ok (.istore 4, 2) := by decide +kernel
theorem dX12_seeds_62 : decode cX12_seeds 62 = .ok (.iconst 0, 1) := by decide +kernel
theorem dX12_seeds_63 : decode cX12_seeds 63 = .ok (.istore 5, 2) := by decide +kernel
theorem dX12_seeds_65 : decode cX12_seeds 65 = .ok (.iload 5, 2) := by decide +kernel
theorem dX12_seeds_67 : decode cX12_seeds 67 = .ok (.iload_n 1, 1) := by decide +kernel
theorem dX12_seeds_68 : decode cX12_seeds 68 = .ok (.if_icmp .ge 59, 3) := by decide +kernel
theorem dX12_seeds_71 : decode cX12_seeds 71 = .ok (.aload_n 0, 1) := by decide +kernel
theorem dX12_seeds_72 : decode cX12_seeds 72 = .ok (.aload_n 0, 1) := by decide +kernel
theorem dX12_seeds_73 : decode cX12_seeds 73 = .ok (.getfield 77, 3) := by decide +kernel
theorem dX12_seeds_76 : decode cX12_seeds 76 = .ok (.invokevirtual 245, 3) := by decide +kernel
theorem dX12_seeds_79 : decode cX12_seeds 79 = .ok (.istore 6, 2) := by decide +kernel
theorem dX12_seeds_81 : decode cX12_seeds 81 = .ok (.aload_n 0, 1) := by decide +kernel
theorem dX12_seeds_82 : decode cX12_seeds 82 = .ok (.aload_n 0, 1) := by decide +kernel
theorem dX12_seeds_83 : decode cX12_seeds 83 = .ok (.getfield 77, 3) := by decide +kernel
theorem dX12_seeds_86 : decode cX12_seeds 86 = .ok (.invokevirtual 245, 3) := by decide +kernel
theorem dX12_seeds_89 : decode cX12_seeds 89 = .ok (.istore 7, 2) := by decide +kernel
theorem dX12_seeds_91 : decode cX12_seeds 91 = .ok (.aload_n 0, 1) := by decide +kernel
theorem dX12_seeds_92 : decode cX12_seeds 92 = .ok (.iconst 3, 1) := by decide +kernel
theorem dX12_seeds_93 : decode cX12_seeds 93 = .ok (.invokevirtual 245, 3) := by decide +kernel
theorem dX12_seeds_96 : decode cX12_seeds 96 = .ok (.istore 8, 2) := by decide +kernel
theorem dX12_seeds_98 : decode cX12_seeds 98 = .ok (.iload 4, 2) := by decide +kernel
theorem dX12_seeds_100 : decode cX12_seeds 100 = .ok (.aload_n 0, 1) := by decide +kernel
theorem dX12_seeds_101 : decode cX12_seeds 101 = .ok (.iload 6, 2) := by decide +kernel
theorem dX12_seeds_103 : decode cX12_seeds 103 = .ok (.iload 7, 2) := by decide +kernel
theorem dX12_seeds_105 : decode cX12_seeds 105 = .ok (.iload 8, 2) := by decide +kernel
theorem dX12_seeds_107 : decode cX12_seeds 107 = .ok (.invokevirtual 236, 3) := by decide +kernel
theorem dX12_seeds_110 : decode cX12_seeds 110 = .ok (.ifCond .eq 7, 3) := by decide +kernel
theorem dX12_seeds_113 : decode cX12_seeds 113 = .ok (.iconst 1, 1) := by decide +kernel
theorem dX12_seeds_114 : decode cX12_seeds 114 = .ok (.goto 4, 3) := by decide +kernel
theorem dX12_seeds_117 : decode cX12_seeds 117 = .ok (.iconst 0, 1) := by decide +kernel
theorem dX12_seeds_118 : decode cX12_seeds 118 = .ok (.iadd, 1) := by decide +kernel
theorem dX12_seeds_119 : decode cX12_seeds 119 = .ok (.istore 4, 2) := by decide +kernel
theorem dX12_seeds_121 : decode cX12_seeds 121 = .ok (.iinc 5 1, 3) := by decide +kernel
theorem dX12_seeds_124 : decode cX12_seeds 124 = .ok (.goto (-59), 3) := by decide +kernel
theorem dX12_seeds_127 : decode cX12_seeds 127 = .ok (.aload_n 0, 1) := by decide +kernel
theorem dX12_seeds_128 : decode cX12_seeds 128 = .ok (.invokevirtual 207, 3) := by decide +kernel
theorem dX12_seeds_131 : decode cX12_seeds 131 = .ok (.iload 4, 2) := by decide +kernel
theorem dX12_seeds_133 : decode cX12_seeds 133 = .ok (.ireturn, 1) := by decide +kernel
theorem dX12_sumOf_0 : decode cX12_sumOf 0 = .ok (.iconst 0, 1) := by decide +kernel
theorem dX12_sumOf_1 : decode cX12_sumOf 1 = .ok (.istore_n 3, 1) := by decide +kernel
theorem dX12_sumOf_2 : decode cX12_sumOf 2 = .ok (.iconst 0, 1) := by decide +kernel
theorem dX12_sumOf_3 : decode cX12_sumOf 3 = .ok (.istore 4, 2) := by decide +kernel
theorem dX12_sumOf_5 : decode cX12_sumOf 5 = .ok (.iload 4, 2) := by decide +kernel
theorem dX12_sumOf_7 : decode cX12_sumOf 7 = .ok (.iload_n 2, 1) := by decide +kernel
theorem dX12_sumOf_8 : decode cX12_sumOf 8 = .ok (.if_icmp .ge 16, 3) := by decide +kernel
theorem dX12_sumOf_11 : decode cX12_sumOf 11 = .ok (.iload_n 3, 1) := by decide +kernel
theorem dX12_sumOf_12 : decode cX12_sumOf 12 = .ok (.aload_n 1, 1) := by decide +kernel
theorem dX12_sumOf_13 : decode cX12_sumOf 13 = .ok (.iload 4, 2) := by decide +kernel
theorem dX12_sumOf_15 : decode cX12_sumOf 15 = .ok (.iaload, 1) := by decide +kernel
theorem dX12_sumOf_16 : decode cX12_sumOf 16 = .ok (.iadd, 1) := by decide +kernel
theorem dX12_sumOf_17 : decode cX12_sumOf 17 = .ok (.istore_n 3, 1) := by decide +kernel
theorem dX12_sumOf_18 : decode cX12_sumOf 18 = .ok (.iinc 4 1, 3) := by decide +kernel
theorem dX12_sumOf_21 : decode cX12_sumOf 21 = .ok (.goto (-16), 3) := by decide +kernel
theorem dX12_sumOf_24 : decode cX12_sumOf 24 = .ok (.iload_n 3, 1) := by decide +kernel
theorem dX12_sumOf_25 : decode cX12_sumOf 25 = .ok (.ireturn, 1) := by decide +kernel
theorem dX12_count_0 : decode cX12_count 0 = .ok (.aload_n 0, 1) := by decide +kernel
theorem dX12_count_1 : decode cX12_count 1 = .ok (.iconst 0, 1) := by decide +kernel
theorem dX12_count_2 : decode cX12_count 2 = .ok (.putfield 73, 3) := by decide +kernel
theorem dX12_count_5 : decode cX12_count 5 = .ok (.iload_n 1, 1) := by decide +kernel
theorem dX12_count_6 : decode cX12_count 6 = .ok (.tableswitch 144 0 8 #[50, 55, 60, 65, 78, 93, 109, 114, 119], 50) := by decide +kernel
theorem dX12_count_56 : decode cX12_count 56 = .ok (.aload_n 0, 1) := by decide +kernel
theorem dX12_count_57 : decode cX12_count 57 = .ok (.getfield 77, 3) := by decide +kernel
theorem dX12_count_60 : decode cX12_count 60 = .ok (.ireturn, 1) := by decide +kernel
theorem dX12_count_61 : decode cX12_count 61 = .ok (.aload_n 0, 1) := by decide +kernel
theorem dX12_count_62 : decode cX12_count 62 = .ok (.getfield 122, 3) := by decide +kernel
theorem dX12_count_65 : decode cX12_count 65 = .ok (.ireturn, 1) := by decide +kernel
theorem dX12_count_66 : decode cX12_count 66 = .ok (.aload_n 0, 1) := by decide +kernel
theorem dX12_count_67 : decode cX12_count 67 = .ok (.getfield 97, 3) := by decide +kernel
theorem dX12_count_70 : decode cX12_count 70 = .ok (.ireturn, 1) := by decide +kernel
theorem dX12_count_71 : decode cX12_count 71 = .ok (.aload_n 0, 1) := by decide +kernel
theorem dX12_count_72 : decode cX12_count 72 = .ok (.aload_n 0, 1) := by decide +kernel
theorem dX12_count_73 : decode cX12_count 73 = .ok (.getfield 31, 3) := by decide +kernel
theorem dX12_count_76 : decode cX12_count 76 = .ok (.aload_n 0, 1) := by decide +kernel
theorem dX12_count_77 : decode cX12_count 77 = .ok (.getfield 77, 3) := by decide +kernel
theorem dX12_count_80 : decode cX12_count 80 = .ok (.invokevirtual 248, 3) := by decide +kernel
theorem dX12_count_83 : decode cX12_count 83 = .ok (.ireturn, 1) := by decide +kernel
theorem dX12_count_84 : decode cX12_count 84 = .ok (.aload_n 0, 1) := by decide +kernel
theorem dX12_count_85 : decode cX12_count 85 = .ok (.aload_n 0, 1) := by decide +kernel
theorem dX12_count_86 : decode cX12_count 86 = .ok (.getfield 34, 3) := by decide +kernel
theorem dX12_count_89 : decode cX12_count 89 = .ok (.iconst 3, 1) := by decide +kernel
theorem dX12_count_90 : decode cX12_count 90 = .ok (.aload_n 0, 1) := by decide +kernel
theorem dX12_count_91 : decode cX12_count 91 = .ok (.getfield 77, 3) := by decide +kernel
theorem dX12_count_94 : decode cX12_count 94 = .ok (.imul, 1) := by decide +kernel
theorem dX12_count_95 : decode cX12_count 95 = .ok (.invokevirtual 248, 3) := by decide +kernel
theorem dX12_count_98 : decode cX12_count 98 = .ok (.ireturn, 1) := by decide +kernel
theorem dX12_count_99 : decode cX12_count 99 = .ok (.aload_n 0, 1) := by decide +kernel
theorem dX12_count_100 : decode cX12_count 100 = .ok (.aload_n 0, 1) := by decide +kernel
theorem dX12_count_101 : decode cX12_count 101 = .ok (.getfield 37, 3) := by decide +kernel
theorem dX12_count_104 : decode cX12_count 104 = .ok (.bipush 6, 2) := by decide +kernel
theorem dX12_count_106 : decode cX12_count 106 = .ok (.aload_n 0, 1) := by decide +kernel
theorem dX12_count_107 : decode cX12_count 107 = .ok (.getfield 77, 3) := by decide +kernel
theorem dX12_count_110 : decode cX12_count 110 = .ok (.imul, 1) := by decide +kernel
theorem dX12_count_111 : decode cX12_count 111 = .ok (.invokevirtual 248, 3) := by decide +kernel
theorem dX12_count_114 : decode cX12_count 114 = .ok (.ireturn, 1) := by decide +kernel
theorem dX12_count_115 : decode cX12_count 115 = .ok (.aload_n 0, 1) := by decide +kernel
theorem dX12_count_116 : decode cX12_count 116 = .ok (.getfield 166, 3) := by decide +kernel
theorem dX12_count_119 : decode cX12_count 119 = .ok (.ireturn, 1) := by decide +kernel
theorem dX12_count_120 : decode cX12_count 120 = .ok (.aload_n 0, 1) := by decide +kernel
theorem dX12_count_121 : decode cX12_count 121 = .ok (.getfield 233, 3) := by decide +kernel
theorem dX12_count_124 : decode cX12_count 124 = .ok (.ireturn, 1) := by decide +kernel
theorem dX12_count_125 : decode cX12_count 125 = .ok (.aload_n 0, 1) := by decide +kernel
theorem dX12_count_126 : decode cX12_count 126 = .ok (.getfield 122, 3) := by decide +kernel
theorem dX12_count_129 : decode cX12_count 129 = .ok (.aload_n 0, 1) := by decide +kernel
theorem dX12_count_130 : decode cX12_count 130 = .ok (.getfield 153, 3) := by decide +kernel
theorem dX12_count_133 : decode cX12_count 133 = .ok (.if_icmp .ge 15, 3) := by decide +kernel
theorem dX12_count_136 : decode cX12_count 136 = .ok (.aload_n 0, 1) := by decide +kernel
theorem dX12_count_137 : decode cX12_count 137 = .ok (.getfield 153, 3) := by decide +kernel
theorem dX12_count_140 : decode cX12_count 140 = .ok (.aload_n 0, 1) := by decide +kernel
theorem dX12_count_141 : decode cX12_count 141 = .ok (.getfield 122, 3) := by decide +kernel
theorem dX12_count_144 : decode cX12_count 144 = .ok (.isub, 1) := by decide +kernel
theorem dX12_count_145 : decode cX12_count 145 = .ok (.goto 4, 3) := by decide +kernel
theorem dX12_count_148 : decode cX12_count 148 = .ok (.iconst 0, 1) := by decide +kernel
theorem dX12_count_149 : decode cX12_count 149 = .ok (.ireturn, 1) := by decide +kernel
theorem dX12_count_150 : decode cX12_count 150 = .ok (.iload_n 1, 1) := by decide +kernel
theorem dX12_count_151 : decode cX12_count 151 = .ok (.i2l, 1) := by decide +kernel
theorem dX12_count_152 : decode cX12_count 152 = .ok (.ldc2_w 252, 3) := by decide +kernel
theorem dX12_count_155 : decode cX12_count 155 = .ok (.ldc2_w 254, 3) := by decide +kernel
theorem dX12_count_158 : decode cX12_count 158 = .ok (.invokestatic 80, 3) := by decide +kernel
theorem dX12_count_161 : decode cX12_count 161 = .ok (.ifCond .eq 15, 3) := by decide +kernel
theorem dX12_count_164 : decode cX12_count 164 = .ok (.aload_n 0, 1) := by decide +kernel
theorem dX12_count_165 : decode cX12_count 165 = .ok (.getfield 43, 3) := by decide +kernel
theorem dX12_count_168 : decode cX12_count 168 = .ok (.iload_n 1, 1) := by decide +kernel
theorem dX12_count_169 : decode cX12_count 169 = .ok (.bipush 10, 2) := by decide +kernel
theorem dX12_count_171 : decode cX12_count 171 = .ok (.isub, 1) := by decide +kernel
theorem dX12_count_172 : decode cX12_count 172 = .ok (.iaload, 1) := by decide +kernel
theorem dX12_count_173 : decode cX12_count 173 = .ok (.goto 5, 3) := by decide +kernel
theorem dX12_count_176 : decode cX12_count 176 = .ok (.bipush (-9), 2) := by decide +kernel
theorem dX12_count_178 : decode cX12_count 178 = .ok (.ireturn, 1) := by decide +kernel
end
section
theorem dL_law_0 : decode cL_law 0 = .ok (.new 7, 3) := by decide +kernel
theorem dL_law_3 : decode cL_law 3 = .ok (.dup, 1) := by decide +kernel
theorem dL_law_4 : decode cL_law 4 = .ok (.invokespecial 9, 3) := by decide +kernel
theorem dL_law_7 : decode cL_law 7 = .ok (.astore_n 1, 1) := by decide +kernel
theorem dL_law_8 : decode cL_law 8 = .ok (.new 10, 3) := by decide +kernel
theorem dL_law_11 : decode cL_law 11 = .ok (.dup, 1) := by decide +kernel
theorem dL_law_12 : decode cL_law 12 = .ok (.invokespecial 12, 3) := by decide +kernel
theorem dL_law_15 : decode cL_law 15 = .ok (.astore_n 2, 1) := by decide +kernel
theorem dL_law_16 : decode cL_law 16 = .ok (.iconst 0, 1) := by decide +kernel
theorem dL_law_17 : decode cL_law 17 = .ok (.istore_n 3, 1) := by decide +kernel
theorem dL_law_18 : decode cL_law 18 = .ok (.iload_n 3, 1) := by decide +kernel
theorem dL_law_19 : decode cL_law 19 = .ok (.aload_n 0, 1) := by decide +kernel
theorem dL_law_20 : decode cL_law 20 = .ok (.arraylength, 1) := by decide +kernel
theorem dL_law_21 : decode cL_law 21 = .ok (.iconst 4, 1) := by decide +kernel
theorem dL_law_22 : decode cL_law 22 = .ok (.isub, 1) := by decide +kernel
theorem dL_law_23 : decode cL_law 23 = .ok (.if_icmp .gt 897, 3) := by decide +kernel
theorem dL_law_26 : decode cL_law 26 = .ok (.aload_n 0, 1) := by decide +kernel
theorem dL_law_27 : decode cL_law 27 = .ok (.iload_n 3, 1) := by decide +kernel
theorem dL_law_28 : decode cL_law 28 = .ok (.iaload, 1) := by decide +kernel
theorem dL_law_29 : decode cL_law 29 = .ok (.bipush 31, 2) := by decide +kernel
theorem dL_law_31 : decode cL_law 31 = .ok (.iand, 1) := by decide +kernel
theorem dL_law_32 : decode cL_law 32 = .ok (.tableswitch 882 0 27 #[128, 151, 164, 197, 230, 263, 286, 319, 362, 375, 418, 461, 474, 507, 540, 563, 576, 599, 642, 685, 708, 731, 764, 787, 800, 833, 846, 859], 128) := by decide +kernel
theorem dL_law_160 : decode cL_law 160 = .ok (.aload_n 1, 1) := by decide +kernel
theorem dL_law_161 : decode cL_law 161 = .ok (.aload_n 0, 1) := by decide +kernel
theorem dL_law_162 : decode cL_law 162 = .ok (.iload_n 3, 1) := by decide +kernel
theorem dL_law_163 : decode cL_law 163 = .ok (.iconst 1, 1) := by decide +kernel
theorem dL_law_164 : decode cL_law 164 = .ok (.iadd, 1) := by decide +kernel
theorem dL_law_165 : decode cL_law 165 = .ok (.iaload, 1) := by decide +kernel
theorem dL_law_166 : decode cL_law 166 = .ok (.invokevirtual 13, 3) := by decide +kernel
theorem dL_law_169 : decode cL_law 169 = .ok (.aload_n 2, 1) := by decide +kernel
theorem dL_law_170 : decode cL_law 170 = .ok (.aload_n 0, 1) := by decide +kernel
theorem dL_law_171 : decode cL_law 171 = .ok (.iload_n 3, 1) := by decide +kernel
theorem dL_law_172 : decode cL_law 172 = .ok (.iconst 1, 1) := by decide +kernel
theorem dL_law_173 : decode cL_law 173 = .ok (.iadd, 1) := by decide +kernel
theorem dL_law_174 : decode cL_law 174 = .ok (.iaload, 1) := by decide +kernel
theorem dL_law_175 : decode cL_law 175 = .ok (.invokevirtual 17, 3) := by decide +kernel
theorem dL_law_178 : decode cL_law 178 = .ok (.if_icmp .eq 736, 3) := by decide +kernel
theorem dL_law_181 : decode cL_law 181 = .ok (.iconst 0, 1) := by decide +kernel
theorem dL_law_182 : decode cL_law 182 = .ok (.ireturn, 1) := by decide +kernel
theorem dL_law_183 : decode cL_law 183 = .ok (.aload_n 1, 1) := by decide +kernel
theorem dL_law_184 : decode cL_law 184 = .ok (.invokevirtual 18, 3) := by decide +kernel
theorem dL_law_187 : decode cL_law 187 = .ok (.aload_n 2, 1) := by decide +kernel
theorem dL_law_188 : decode cL_law 188 = .ok (.invokevirtual 22, 3) := by decide +kernel
theorem dL_law_191 : decode cL_law 191 = .ok (.if_icmp .eq 723, 3) := by decide +kernel
theorem dL_law_194 : decode cL_law 194 = .ok (.iconst 0, 1) := by decide +kernel
theorem dL_law_195 : decode cL_law 195 = .ok (.ireturn, 1) := by decide +kernel
theorem dL_law_196 : decode cL_law 196 = .ok (.aload_n 1, 1) := by decide +kernel
theorem dL_law_197 : decode cL_law 197 = .ok (.aload_n 0, 1) := by decide +kernel
theorem dL_law_198 : decode cL_law 198 = .ok (.iload_n 3, 1) := by decide +kernel
theorem dL_law_199 : decode cL_law 199 = .ok (.iconst 1, 1) := by decide +kernel
theorem dL_law_200 : decode cL_law 200 = .ok (.iadd, 1) := by decide +kernel
theorem dL_law_201 : decode cL_law 201 = .ok (.iaload, 1) := by decide +kernel
theorem dL_law_202 : decode cL_law 202 = .ok (.aload_n 0, 1) := by decide +kernel
theorem dL_law_203 : decode cL_law 203 = .ok (.iload_n 3, 1) := by decide +kernel
theorem dL_law_204 : decode cL_law 204 = .ok (.iconst 2, 1) := by decide +kernel
theorem dL_law_205 : decode cL_law 205 = .ok (.iadd, 1) := by decide +kernel
theorem dL_law_206 : decode cL_law 206 = .ok (.iaload, 1) := by decide +kernel
theorem dL_law_207 : decode cL_law 207 = .ok (.invokevirtual 23, 3) := by decide +kernel
theorem dL_law_210 : decode cL_law 210 = .ok (.aload_n 2, 1) := by decide +kernel
theorem dL_law_211 : decode cL_law 211 = .ok (.aload_n 0, 1) := by decide +kernel
theorem dL_law_212 : decode cL_law 212 = .ok (.iload_n 3, 1) := by decide +kernel
theorem dL_law_213 : decode cL_law 213 = .ok (.iconst 1, 1) := by decide +kernel
theorem dL_law_214 : decode cL_law 214 = .ok (.iadd, 1) := by decide +kernel
theorem dL_law_215 : decode cL_law 215 = .ok (.iaload, 1) := by decide +kernel
theorem dL_law_216 : decode cL_law 216 = .ok (.aload_n 0, 1) := by decide +kernel
theorem dL_law_217 : decode cL_law 217 = .ok (.iload_n 3, 1) := by decide +kernel
theorem dL_law_218 : decode cL_law 218 = .ok (.iconst 2, 1) := by decide +kernel
theorem dL_law_219 : decode cL_law 219 = .ok (.iadd, 1) := by decide +kernel
theorem dL_law_220 : decode cL_law 220 = .ok (.iaload, 1) := by decide +kernel
theorem dL_law_221 : decode cL_law 221 = .ok (.invokevirtual 27, 3) := by decide +kernel
theorem dL_law_224 : decode cL_law 224 = .ok (.if_icmp .eq 690, 3) := by decide +kernel
theorem dL_law_227 : decode cL_law 227 = .ok (.iconst 0, 1) := by decide +kernel
theorem dL_law_228 : decode cL_law 228 = .ok (.ireturn, 1) := by decide +kernel
theorem dL_law_229 : decode cL_law 229 = .ok (.aload_n 1, 1) := by decide +kernel
theorem dL_law_230 : decode cL_law 230 = .ok (.aload_n 0, 1) := by decide +kernel
theorem dL_law_231 : decode cL_law 231 = .ok (.iload_n 3, 1) := by decide +kernel
theorem dL_law_232 : decode cL_law 232 = .ok (.iconst 1, 1) := by decide +kernel
theorem dL_law_233 : decode cL_law 233 = .ok (.iadd, 1) := by decide +kernel
theorem dL_law_234 : decode cL_law 234 = .ok (.iaload, 1) := by decide +kernel
theorem dL_law_235 : decode cL_law 235 = .ok (.aload_n 0, 1) := by decide +kernel
theorem dL_law_236 : decode cL_law 236 = .ok (.iload_n 3, 1) := by decide +kernel
theorem dL_law_237 : decode cL_law 237 = .ok (.iconst 2, 1) := by decide +kernel
theorem dL_law_238 : decode cL_law 238 = .ok (.iadd, 1) := by decide +kernel
theorem dL_law_239 : decode cL_law 239 = .ok (.iaload, 1) := by decide +kernel
theorem dL_law_240 : decode cL_law 240 = .ok (.invokevirtual 28, 3) := by decide +kernel
theorem dL_law_243 : decode cL_law 243 = .ok (.aload_n 2, 1) := by decide +kernel
theorem dL_law_244 : decode cL_law 244 = .ok (.aload_n 0, 1) := by decide +kernel
theorem dL_law_245 : decode cL_law 245 = .ok (.iload_n 3, 1) := by decide +kernel
theorem dL_law_246 : decode cL_law 246 = .ok (.iconst 1, 1) := by decide +kernel
theorem dL_law_247 : decode cL_law 247 = .ok (.iadd, 1) := by decide +kernel
theorem dL_law_248 : decode cL_law 248 = .ok (.iaload, 1) := by decide +kernel
theorem dL_law_249 : decode cL_law 249 = .ok (.aload_n 0, 1) := by decide +kernel
theorem dL_law_250 : decode cL_law 250 = .ok (.iload_n 3, 1) := by decide +kernel
theorem dL_law_251 : decode cL_law 251 = .ok (.iconst 2, 1) := by decide +kernel
theorem dL_law_252 : decode cL_law 252 = .ok (.iadd, 1) := by decide +kernel
theorem dL_law_253 : decode cL_law 253 = .ok (.iaload, 1) := by decide +kernel
theorem dL_law_254 : decode cL_law 254 = .ok (.invokevirtual 31, 3) := by decide +kernel
theorem dL_law_257 : decode cL_law 257 = .ok (.if_icmp .eq 657, 3) := by decide +kernel
theorem dL_law_260 : decode cL_law 260 = .ok (.iconst 0, 1) := by decide +kernel
theorem dL_law_261 : decode cL_law 261 = .ok (.ireturn, 1) := by decide +kernel
theorem dL_law_262 : decode cL_law 262 = .ok (.aload_n 1, 1) := by decide +kernel
theorem dL_law_263 : decode cL_law 263 = .ok (.aload_n 0, 1) := by decide +kernel
theorem dL_law_264 : decode cL_law 264 = .ok (.iload_n 3, 1) := by decide +kernel
theorem dL_law_265 : decode cL_law 265 = .ok (.iconst 1, 1) := by decide +kernel
theorem dL_law_266 : decode cL_law 266 = .ok (.iadd, 1) := by decide +kernel
theorem dL_law_267 : decode cL_law 267 = .ok (.iaload, 1) := by decide +kernel
theorem dL_law_268 : decode cL_law 268 = .ok (.aload_n 0, 1) := by decide +kernel
theorem dL_law_269 : decode cL_law 269 = .ok (.iload_n 3, 1) := by decide +kernel
theorem dL_law_270 : decode cL_law 270 = .ok (.iconst 2, 1) := by decide +kernel
theorem dL_law_271 : decode cL_law 271 = .ok (.iadd, 1) := by decide +kernel
theorem dL_law_272 : decode cL_law 272 = .ok (.iaload, 1) := by decide +kernel
theorem dL_law_273 : decode cL_law 273 = .ok (.invokevirtual 32, 3) := by decide +kernel
theorem dL_law_276 : decode cL_law 276 = .ok (.aload_n 2, 1) := by decide +kernel
theorem dL_law_277 : decode cL_law 277 = .ok (.aload_n 0, 1) := by decide +kernel
theorem dL_law_278 : decode cL_law 278 = .ok (.iload_n 3, 1) := by decide +kernel
theorem dL_law_279 : decode cL_law 279 = .ok (.iconst 1, 1) := by decide +kernel
theorem dL_law_280 : decode cL_law 280 = .ok (.iadd, 1) := by decide +kernel
theorem dL_law_281 : decode cL_law 281 = .ok (.iaload, 1) := by decide +kernel
theorem dL_law_282 : decode cL_law 282 = .ok (.aload_n 0, 1) := by decide +kernel
theorem dL_law_283 : decode cL_law 283 = .ok (.iload_n 3, 1) := by decide +kernel
theorem dL_law_284 : decode cL_law 284 = .ok (.iconst 2, 1) := by decide +kernel
theorem dL_law_285 : decode cL_law 285 = .ok (.iadd, 1) := by decide +kernel
theorem dL_law_286 : decode cL_law 286 = .ok (.iaload, 1) := by decide +kernel
theorem dL_law_287 : decode cL_law 287 = .ok (.invokevirtual 35, 3) := by decide +kernel
theorem dL_law_290 : decode cL_law 290 = .ok (.if_icmp .eq 624, 3) := by decide +kernel
theorem dL_law_293 : decode cL_law 293 = .ok (.iconst 0, 1) := by decide +kernel
theorem dL_law_294 : decode cL_law 294 = .ok (.ireturn, 1) := by decide +kernel
theorem dL_law_295 : decode cL_law 295 = .ok (.aload_n 1, 1) := by decide +kernel
theorem dL_law_296 : decode cL_law 296 = .ok (.aload_n 0, 1) := by decide +kernel
theorem dL_law_297 : decode cL_law 297 = .ok (.iload_n 3, 1) := by decide +kernel
theorem dL_law_298 : decode cL_law 298 = .ok (.iconst 1, 1) := by decide +kernel
theorem dL_law_299 : decode cL_law 299 = .ok (.iadd, 1) := by decide +kernel
theorem dL_law_300 : decode cL_law 300 = .ok (.iaload, 1) := by decide +kernel
theorem dL_law_301 : decode cL_law 301 = .ok (.invokevirtual 36, 3) := by decide +kernel
theorem dL_law_304 : decode cL_law 304 = .ok (.aload_n 2, 1) := by decide +kernel
theorem dL_law_305 : decode cL_law 305 = .ok (.aload_n 0, 1) := by decide +kernel
theorem dL_law_306 : decode cL_law 306 = .ok (.iload_n 3, 1) := by decide +kernel
theorem dL_law_307 : decode cL_law 307 = .ok (.iconst 1, 1) := by decide +kernel
theorem dL_law_308 : decode cL_law 308 = .ok (.iadd, 1) := by decide +kernel
theorem dL_law_309 : decode cL_law 309 = .ok (.iaload, 1) := by decide +kernel
theorem dL_law_310 : decode cL_law 310 = .ok (.invokevirtual 39, 3) := by decide +kernel
theorem dL_law_313 : decode cL_law 313 = .ok (.if_icmp .eq 601, 3) := by decide +kernel
theorem dL_law_316 : decode cL_law 316 = .ok (.iconst 0, 1) := by decide +kernel
theorem dL_law_317 : decode cL_law 317 = .ok (.ireturn, 1) := by decide +kernel
theorem dL_law_318 : decode cL_law 318 = .ok (.aload_n 1, 1) := by decide +kernel
theorem dL_law_319 : decode cL_law 319 = .ok (.aload_n 0, 1) := by decide +kernel
theorem dL_law_320 : decode cL_law 320 = .ok (.iload_n 3, 1) := by decide +kernel
theorem dL_law_321 : decode cL_law 321 = .ok (.iconst 1, 1) := by decide +kernel
theorem dL_law_322 : decode cL_law 322 = .ok (.iadd, 1) := by decide +kernel
theorem dL_law_323 : decode cL_law 323 = .ok (.iaload, 1) := by decide +kernel
theorem dL_law_324 : decode cL_law 324 = .ok (.aload_n 0, 1) := by decide +kernel
theorem dL_law_325 : decode cL_law 325 = .ok (.iload_n 3, 1) := by decide +kernel
theorem dL_law_326 : decode cL_law 326 = .ok (.iconst 2, 1) := by decide +kernel
theorem dL_law_327 : decode cL_law 327 = .ok (.iadd, 1) := by decide +kernel
theorem dL_law_328 : decode cL_law 328 = .ok (.iaload, 1) := by decide +kernel
theorem dL_law_329 : decode cL_law 329 = .ok (.invokevirtual 40, 3) := by decide +kernel
theorem dL_law_332 : decode cL_law 332 = .ok (.aload_n 2, 1) := by decide +kernel
theorem dL_law_333 : decode cL_law 333 = .ok (.aload_n 0, 1) := by decide +kernel
theorem dL_law_334 : decode cL_law 334 = .ok (.iload_n 3, 1) := by decide +kernel
theorem dL_law_335 : decode cL_law 335 = .ok (.iconst 1, 1) := by decide +kernel
theorem dL_law_336 : decode cL_law 336 = .ok (.iadd, 1) := by decide +kernel
theorem dL_law_337 : decode cL_law 337 = .ok (.iaload, 1) := by decide +kernel
theorem dL_law_338 : decode cL_law 338 = .ok (.aload_n 0, 1) := by decide +kernel
theorem dL_law_339 : decode cL_law 339 = .ok (.iload_n 3, 1) := by decide +kernel
theorem dL_law_340 : decode cL_law 340 = .ok (.iconst 2, 1) := by decide +kernel
theorem dL_law_341 : decode cL_law 341 = .ok (.iadd, 1) := by decide +kernel
theorem dL_law_342 : decode cL_law 342 = .ok (.iaload, 1) := by decide +kernel
theorem dL_law_343 : decode cL_law 343 = .ok (.invokevirtual 43, 3) := by decide +kernel
theorem dL_law_346 : decode cL_law 346 = .ok (.if_icmp .eq 568, 3) := by decide +kernel
theorem dL_law_349 : decode cL_law 349 = .ok (.iconst 0, 1) := by decide +kernel
theorem dL_law_350 : decode cL_law 350 = .ok (.ireturn, 1) := by decide +kernel
theorem dL_law_351 : decode cL_law 351 = .ok (.aload_n 1, 1) := by decide +kernel
theorem dL_law_352 : decode cL_law 352 = .ok (.aload_n 0, 1) := by decide +kernel
theorem dL_law_353 : decode cL_law 353 = .ok (.iload_n 3, 1) := by decide +kernel
theorem dL_law_354 : decode cL_law 354 = .ok (.iconst 1, 1) := by decide +kernel
theorem dL_law_355 : decode cL_law 355 = .ok (.iadd, 1) := by decide +kernel
theorem dL_law_356 : decode cL_law 356 = .ok (.iaload, 1) := by decide +kernel
theorem dL_law_357 : decode cL_law 357 = .ok (.aload_n 0, 1) := by decide +kernel
theorem dL_law_358 : decode cL_law 358 = .ok (.iload_n 3, 1) := by decide +kernel
theorem dL_law_359 : decode cL_law 359 = .ok (.iconst 2, 1) := by decide +kernel
theorem dL_law_360 : decode cL_law 360 = .ok (.iadd, 1) := by decide +kernel
theorem dL_law_361 : decode cL_law 361 = .ok (.iaload, 1) := by decide +kernel
theorem dL_law_362 : decode cL_law 362 = .ok (.aload_n 0, 1) := by decide +kernel
theorem dL_law_363 : decode cL_law 363 = .ok (.iload_n 3, 1) := by decide +kernel
theorem dL_law_364 : decode cL_law 364 = .ok (.iconst 3, 1) := by decide +kernel
theorem dL_law_365 : decode cL_law 365 = .ok (.iadd, 1) := by decide +kernel
theorem dL_law_366 : decode cL_law 366 = .ok (.iaload, 1) := by decide +kernel
theorem dL_law_367 : decode cL_law 367 = .ok (.invokevirtual 44, 3) := by decide +kernel
theorem dL_law_370 : decode cL_law 370 = .ok (.aload_n 2, 1) := by decide +kernel
theorem dL_law_371 : decode cL_law 371 = .ok (.aload_n 0, 1) := by decide +kernel
theorem dL_law_372 : decode cL_law 372 = .ok (.iload_n 3, 1) := by decide +kernel
theorem dL_law_373 : decode cL_law 373 = .ok (.iconst 1, 1) := by decide +kernel
theorem dL_law_374 : decode cL_law 374 = .ok (.iadd, 1) := by decide +kernel
theorem dL_law_375 : decode cL_law 375 = .ok (.iaload, 1) := by decide +kernel
theorem dL_law_376 : decode cL_law 376 = .ok (.aload_n 0, 1) := by decide +kernel
theorem dL_law_377 : decode cL_law 377 = .ok (.iload_n 3, 1) := by decide +kernel
theorem dL_law_378 : decode cL_law 378 = .ok (.iconst 2, 1) := by decide +kernel
theorem dL_law_379 : decode cL_law 379 = .ok (.iadd, 1) := by decide +kernel
theorem dL_law_380 : decode cL_law 380 = .ok (.iaload, 1) := by decide +kernel
theorem dL_law_381 : decode cL_law 381 = .ok (.aload_n 0, 1) := by decide +kernel
theorem dL_law_382 : decode cL_law 382 = .ok (.iload_n 3, 1) := by decide +kernel
theorem dL_law_383 : decode cL_law 383 = .ok (.iconst 3, 1) := by decide +kernel
theorem dL_law_384 : decode cL_law 384 = .ok (.iadd, 1) := by decide +kernel
theorem dL_law_385 : decode cL_law 385 = .ok (.iaload, 1) := by decide +kernel
theorem dL_law_386 : decode cL_law 386 = .ok (.invokevirtual 48, 3) := by decide +kernel
theorem dL_law_389 : decode cL_law 389 = .ok (.if_icmp .eq 525, 3) := by decide +kernel
theorem dL_law_392 : decode cL_law 392 = .ok (.iconst 0, 1) := by decide +kernel
theorem dL_law_393 : decode cL_law 393 = .ok (.ireturn, 1) := by decide +kernel
theorem dL_law_394 : decode cL_law 394 = .ok (.aload_n 1, 1) := by decide +kernel
theorem dL_law_395 : decode cL_law 395 = .ok (.invokevirtual 49, 3) := by decide +kernel
theorem dL_law_398 : decode cL_law 398 = .ok (.aload_n 2, 1) := by decide +kernel
theorem dL_law_399 : decode cL_law 399 = .ok (.invokevirtual 52, 3) := by decide +kernel
theorem dL_law_402 : decode cL_law 402 = .ok (.if_icmp .eq 512, 3) := by decide +kernel
theorem dL_law_405 : decode cL_law 405 = .ok (.iconst 0, 1) := by decide +kernel
theorem dL_law_406 : decode cL_law 406 = .ok (.ireturn, 1) := by decide +kernel
theorem dL_law_407 : decode cL_law 407 = .ok (.aload_n 1, 1) := by decide +kernel
theorem dL_law_408 : decode cL_law 408 = .ok (.aload_n 0, 1) := by decide +kernel
theorem dL_law_409 : decode cL_law 409 = .ok (.iload_n 3, 1) := by decide +kernel
theorem dL_law_410 : decode cL_law 410 = .ok (.iconst 1, 1) := by decide +kernel
theorem dL_law_411 : decode cL_law 411 = .ok (.iadd, 1) := by decide +kernel
theorem dL_law_412 : decode cL_law 412 = .ok (.iaload, 1) := by decide +kernel
theorem dL_law_413 : decode cL_law 413 = .ok (.aload_n 0, 1) := by decide +kernel
theorem dL_law_414 : decode cL_law 414 = .ok (.iload_n 3, 1) := by decide +kernel
theorem dL_law_415 : decode cL_law 415 = .ok (.iconst 2, 1) := by decide +kernel
theorem dL_law_416 : decode cL_law 416 = .ok (.iadd, 1) := by decide +kernel
theorem dL_law_417 : decode cL_law 417 = .ok (.iaload, 1) := by decide +kernel
theorem dL_law_418 : decode cL_law 418 = .ok (.aload_n 0, 1) := by decide +kernel
theorem dL_law_419 : decode cL_law 419 = .ok (.iload_n 3, 1) := by decide +kernel
theorem dL_law_420 : decode cL_law 420 = .ok (.iconst 3, 1) := by decide +kernel
theorem dL_law_421 : decode cL_law 421 = .ok (.iadd, 1) := by decide +kernel
theorem dL_law_422 : decode cL_law 422 = .ok (.iaload, 1) := by decide +kernel
theorem dL_law_423 : decode cL_law 423 = .ok (.invokevirtual 53, 3) := by decide +kernel
theorem dL_law_426 : decode cL_law 426 = .ok (.aload_n 2, 1) := by decide +kernel
theorem dL_law_427 : decode cL_law 427 = .ok (.aload_n 0, 1) := by decide +kernel
theorem dL_law_428 : decode cL_law 428 = .ok (.iload_n 3, 1) := by decide +kernel
theorem dL_law_429 : decode cL_law 429 = .ok (.iconst 1, 1) := by decide +kernel
theorem dL_law_430 : decode cL_law 430 = .ok (.iadd, 1) := by decide +kernel
theorem dL_law_431 : decode cL_law 431 = .ok (.iaload, 1) := by decide +kernel
theorem dL_law_432 : decode cL_law 432 = .ok (.aload_n 0, 1) := by decide +kernel
theorem dL_law_433 : decode cL_law 433 = .ok (.iload_n 3, 1) := by decide +kernel
theorem dL_law_434 : decode cL_law 434 = .ok (.iconst 2, 1) := by decide +kernel
theorem dL_law_435 : decode cL_law 435 = .ok (.iadd, 1) := by decide +kernel
theorem dL_law_436 : decode cL_law 436 = .ok (.iaload, 1) := by decide +kernel
theorem dL_law_437 : decode cL_law 437 = .ok (.aload_n 0, 1) := by decide +kernel
theorem dL_law_438 : decode cL_law 438 = .ok (.iload_n 3, 1) := by decide +kernel
theorem dL_law_439 : decode cL_law 439 = .ok (.iconst 3, 1) := by decide +kernel
theorem dL_law_440 : decode cL_law 440 = .ok (.iadd, 1) := by decide +kernel
theorem dL_law_441 : decode cL_law 441 = .ok (.iaload, 1) := by decide +kernel
theorem dL_law_442 : decode cL_law 442 = .ok (.invokevirtual 56, 3) := by decide +kernel
theorem dL_law_445 : decode cL_law 445 = .ok (.if_icmp .eq 469, 3) := by decide +kernel
theorem dL_law_448 : decode cL_law 448 = .ok (.iconst 0, 1) := by decide +kernel
theorem dL_law_449 : decode cL_law 449 = .ok (.ireturn, 1) := by decide +kernel
theorem dL_law_450 : decode cL_law 450 = .ok (.aload_n 1, 1) := by decide +kernel
theorem dL_law_451 : decode cL_law 451 = .ok (.aload_n 0, 1) := by decide +kernel
theorem dL_law_452 : decode cL_law 452 = .ok (.iload_n 3, 1) := by decide +kernel
theorem dL_law_453 : decode cL_law 453 = .ok (.iconst 1, 1) := by decide +kernel
theorem dL_law_454 : decode cL_law 454 = .ok (.iadd, 1) := by decide +kernel
theorem dL_law_455 : decode cL_law 455 = .ok (.iaload, 1) := by decide +kernel
theorem dL_law_456 : decode cL_law 456 = .ok (.aload_n 0, 1) := by decide +kernel
theorem dL_law_457 : decode cL_law 457 = .ok (.iload_n 3, 1) := by decide +kernel
theorem dL_law_458 : decode cL_law 458 = .ok (.iconst 2, 1) := by decide +kernel
theorem dL_law_459 : decode cL_law 459 = .ok (.iadd, 1) := by decide +kernel
theorem dL_law_460 : decode cL_law 460 = .ok (.iaload, 1) := by decide +kernel
theorem dL_law_461 : decode cL_law 461 = .ok (.aload_n 0, 1) := by decide +kernel
theorem dL_law_462 : decode cL_law 462 = .ok (.iload_n 3, 1) := by decide +kernel
theorem dL_law_463 : decode cL_law 463 = .ok (.iconst 3, 1) := by decide +kernel
theorem dL_law_464 : decode cL_law 464 = .ok (.iadd, 1) := by decide +kernel
theorem dL_law_465 : decode cL_law 465 = .ok (.iaload, 1) := by decide +kernel
theorem dL_law_466 : decode cL_law 466 = .ok (.invokevirtual 57, 3) := by decide +kernel
theorem dL_law_469 : decode cL_law 469 = .ok (.aload_n 2, 1) := by decide +kernel
theorem dL_law_470 : decode cL_law 470 = .ok (.aload_n 0, 1) := by decide +kernel
theorem dL_law_471 : decode cL_law 471 = .ok (.iload_n 3, 1) := by decide +kernel
theorem dL_law_472 : decode cL_law 472 = .ok (.iconst 1, 1) := by decide +kernel
theorem dL_law_473 : decode cL_law 473 = .ok (.iadd, 1) := by decide +kernel
theorem dL_law_474 : decode cL_law 474 = .ok (.iaload, 1) := by decide +kernel
theorem dL_law_475 : decode cL_law 475 = .ok (.aload_n 0, 1) := by decide +kernel
theorem dL_law_476 : decode cL_law 476 = .ok (.iload_n 3, 1) := by decide +kernel
theorem dL_law_477 : decode cL_law 477 = .ok (.iconst 2, 1) := by decide +kernel
theorem dL_law_478 : decode cL_law 478 = .ok (.iadd, 1) := by decide +kernel
theorem dL_law_479 : decode cL_law 479 = .ok (.iaload, 1) := by decide +kernel
theorem dL_law_480 : decode cL_law 480 = .ok (.aload_n 0, 1) := by decide +kernel
theorem dL_law_481 : decode cL_law 481 = .ok (.iload_n 3, 1) := by decide +kernel
theorem dL_law_482 : decode cL_law 482 = .ok (.iconst 3, 1) := by decide +kernel
theorem dL_law_483 : decode cL_law 483 = .ok (.iadd, 1) := by decide +kernel
theorem dL_law_484 : decode cL_law 484 = .ok (.iaload, 1) := by decide +kernel
theorem dL_law_485 : decode cL_law 485 = .ok (.invokevirtual 60, 3) := by decide +kernel
theorem dL_law_488 : decode cL_law 488 = .ok (.if_icmp .eq 426, 3) := by decide +kernel
theorem dL_law_491 : decode cL_law 491 = .ok (.iconst 0, 1) := by decide +kernel
theorem dL_law_492 : decode cL_law 492 = .ok (.ireturn, 1) := by decide +kernel
theorem dL_law_493 : decode cL_law 493 = .ok (.aload_n 1, 1) := by decide +kernel
theorem dL_law_494 : decode cL_law 494 = .ok (.invokevirtual 61, 3) := by decide +kernel
theorem dL_law_497 : decode cL_law 497 = .ok (.aload_n 2, 1) := by decide +kernel
theorem dL_law_498 : decode cL_law 498 = .ok (.invokevirtual 64, 3) := by decide +kernel
theorem dL_law_501 : decode cL_law 501 = .ok (.if_icmp .eq 413, 3) := by decide +kernel
theorem dL_law_504 : decode cL_law 504 = .ok (.iconst 0, 1) := by decide +kernel
theorem dL_law_505 : decode cL_law 505 = .ok (.ireturn, 1) := by decide +kernel
theorem dL_law_506 : decode cL_law 506 = .ok (.aload_n 1, 1) := by decide +kernel
theorem dL_law_507 : decode cL_law 507 = .ok (.aload_n 0, 1) := by decide +kernel
theorem dL_law_508 : decode cL_law 508 = .ok (.iload_n 3, 1) := by decide +kernel
theorem dL_law_509 : decode cL_law 509 = .ok (.iconst 1, 1) := by decide +kernel
theorem dL_law_510 : decode cL_law 510 = .ok (.iadd, 1) := by decide +kernel
theorem dL_law_511 : decode cL_law 511 = .ok (.iaload, 1) := by decide +kernel
theorem dL_law_512 : decode cL_law 512 = .ok (.aload_n 0, 1) := by decide +kernel
theorem dL_law_513 : decode cL_law 513 = .ok (.iload_n 3, 1) := by decide +kernel
theorem dL_law_514 : decode cL_law 514 = .ok (.iconst 2, 1) := by decide +kernel
theorem dL_law_515 : decode cL_law 515 = .ok (.iadd, 1) := by decide +kernel
theorem dL_law_516 : decode cL_law 516 = .ok (.iaload, 1) := by decide +kernel
theorem dL_law_517 : decode cL_law 517 = .ok (.invokevirtual 65, 3) := by decide +kernel
theorem dL_law_520 : decode cL_law 520 = .ok (.aload_n 2, 1) := by decide +kernel
theorem dL_law_521 : decode cL_law 521 = .ok (.aload_n 0, 1) := by decide +kernel
theorem dL_law_522 : decode cL_law 522 = .ok (.iload_n 3, 1) := by decide +kernel
theorem dL_law_523 : decode cL_law 523 = .ok (.iconst 1, 1) := by decide +kernel
theorem dL_law_524 : decode cL_law 524 = .ok (.iadd, 1) := by decide +kernel
theorem dL_law_525 : decode cL_law 525 = .ok (.iaload, 1) := by decide +kernel
theorem dL_law_526 : decode cL_law 526 = .ok (.aload_n 0, 1) := by decide +kernel
theorem dL_law_527 : decode cL_law 527 = .ok (.iload_n 3, 1) := by decide +kernel
theorem dL_law_528 : decode cL_law 528 = .ok (.iconst 2, 1) := by decide +kernel
theorem dL_law_529 : decode cL_law 529 = .ok (.iadd, 1) := by decide +kernel
theorem dL_law_530 : decode cL_law 530 = .ok (.iaload, 1) := by decide +kernel
theorem dL_law_531 : decode cL_law 531 = .ok (.invokevirtual 68, 3) := by decide +kernel
theorem dL_law_534 : decode cL_law 534 = .ok (.if_icmp .eq 380, 3) := by decide +kernel
theorem dL_law_537 : decode cL_law 537 = .ok (.iconst 0, 1) := by decide +kernel
theorem dL_law_538 : decode cL_law 538 = .ok (.ireturn, 1) := by decide +kernel
theorem dL_law_539 : decode cL_law 539 = .ok (.aload_n 1, 1) := by decide +kernel
theorem dL_law_540 : decode cL_law 540 = .ok (.aload_n 0, 1) := by decide +kernel
theorem dL_law_541 : decode cL_law 541 = .ok (.iload_n 3, 1) := by decide +kernel
theorem dL_law_542 : decode cL_law 542 = .ok (.iconst 1, 1) := by decide +kernel
theorem dL_law_543 : decode cL_law 543 = .ok (.iadd, 1) := by decide +kernel
theorem dL_law_544 : decode cL_law 544 = .ok (.iaload, 1) := by decide +kernel
theorem dL_law_545 : decode cL_law 545 = .ok (.aload_n 0, 1) := by decide +kernel
theorem dL_law_546 : decode cL_law 546 = .ok (.iload_n 3, 1) := by decide +kernel
theorem dL_law_547 : decode cL_law 547 = .ok (.iconst 2, 1) := by decide +kernel
theorem dL_law_548 : decode cL_law 548 = .ok (.iadd, 1) := by decide +kernel
theorem dL_law_549 : decode cL_law 549 = .ok (.iaload, 1) := by decide +kernel
theorem dL_law_550 : decode cL_law 550 = .ok (.invokevirtual 69, 3) := by decide +kernel
theorem dL_law_553 : decode cL_law 553 = .ok (.aload_n 2, 1) := by decide +kernel
theorem dL_law_554 : decode cL_law 554 = .ok (.aload_n 0, 1) := by decide +kernel
theorem dL_law_555 : decode cL_law 555 = .ok (.iload_n 3, 1) := by decide +kernel
theorem dL_law_556 : decode cL_law 556 = .ok (.iconst 1, 1) := by decide +kernel
theorem dL_law_557 : decode cL_law 557 = .ok (.iadd, 1) := by decide +kernel
theorem dL_law_558 : decode cL_law 558 = .ok (.iaload, 1) := by decide +kernel
theorem dL_law_559 : decode cL_law 559 = .ok (.aload_n 0, 1) := by decide +kernel
theorem dL_law_560 : decode cL_law 560 = .ok (.iload_n 3, 1) := by decide +kernel
theorem dL_law_561 : decode cL_law 561 = .ok (.iconst 2, 1) := by decide +kernel
theorem dL_law_562 : decode cL_law 562 = .ok (.iadd, 1) := by decide +kernel
theorem dL_law_563 : decode cL_law 563 = .ok (.iaload, 1) := by decide +kernel
theorem dL_law_564 : decode cL_law 564 = .ok (.invokevirtual 72, 3) := by decide +kernel
theorem dL_law_567 : decode cL_law 567 = .ok (.if_icmp .eq 347, 3) := by decide +kernel
theorem dL_law_570 : decode cL_law 570 = .ok (.iconst 0, 1) := by decide +kernel
theorem dL_law_571 : decode cL_law 571 = .ok (.ireturn, 1) := by decide +kernel
theorem dL_law_572 : decode cL_law 572 = .ok (.aload_n 1, 1) := by decide +kernel
theorem dL_law_573 : decode cL_law 573 = .ok (.aload_n 0, 1) := by decide +kernel
theorem dL_law_574 : decode cL_law 574 = .ok (.iload_n 3, 1) := by decide +kernel
theorem dL_law_575 : decode cL_law 575 = .ok (.iconst 1, 1) := by decide +kernel
theorem dL_law_576 : decode cL_law 576 = .ok (.iadd, 1) := by decide +kernel
theorem dL_law_577 : decode cL_law 577 = .ok (.iaload, 1) := by decide +kernel
theorem dL_law_578 : decode cL_law 578 = .ok (.invokevirtual 73, 3) := by decide +kernel
theorem dL_law_581 : decode cL_law 581 = .ok (.aload_n 2, 1) := by decide +kernel
theorem dL_law_582 : decode cL_law 582 = .ok (.aload_n 0, 1) := by decide +kernel
theorem dL_law_583 : decode cL_law 583 = .ok (.iload_n 3, 1) := by decide +kernel
theorem dL_law_584 : decode cL_law 584 = .ok (.iconst 1, 1) := by decide +kernel
theorem dL_law_585 : decode cL_law 585 = .ok (.iadd, 1) := by decide +kernel
theorem dL_law_586 : decode cL_law 586 = .ok (.iaload, 1) := by decide +kernel
theorem dL_law_587 : decode cL_law 587 = .ok (.invokevirtual 76, 3) := by decide +kernel
theorem dL_law_590 : decode cL_law 590 = .ok (.if_icmp .eq 324, 3) := by decide +kernel
theorem dL_law_593 : decode cL_law 593 = .ok (.iconst 0, 1) := by decide +kernel
theorem dL_law_594 : decode cL_law 594 = .ok (.ireturn, 1) := by decide +kernel
theorem dL_law_595 : decode cL_law 595 = .ok (.aload_n 1, 1) := by decide +kernel
theorem dL_law_596 : decode cL_law 596 = .ok (.invokevirtual 77, 3) := by decide +kernel
theorem dL_law_599 : decode cL_law 599 = .ok (.aload_n 2, 1) := by decide +kernel
theorem dL_law_600 : decode cL_law 600 = .ok (.invokevirtual 80, 3) := by decide +kernel
theorem dL_law_603 : decode cL_law 603 = .ok (.if_icmp .eq 311, 3) := by decide +kernel
theorem dL_law_606 : decode cL_law 606 = .ok (.iconst 0, 1) := by decide +kernel
theorem dL_law_607 : decode cL_law 607 = .ok (.ireturn, 1) := by decide +kernel
theorem dL_law_608 : decode cL_law 608 = .ok (.aload_n 1, 1) := by decide +kernel
theorem dL_law_609 : decode cL_law 609 = .ok (.aload_n 0, 1) := by decide +kernel
theorem dL_law_610 : decode cL_law 610 = .ok (.iload_n 3, 1) := by decide +kernel
theorem dL_law_611 : decode cL_law 611 = .ok (.iconst 1, 1) := by decide +kernel
theorem dL_law_612 : decode cL_law 612 = .ok (.iadd, 1) := by decide +kernel
theorem dL_law_613 : decode cL_law 613 = .ok (.iaload, 1) := by decide +kernel
theorem dL_law_614 : decode cL_law 614 = .ok (.invokevirtual 81, 3) := by decide +kernel
theorem dL_law_617 : decode cL_law 617 = .ok (.aload_n 2, 1) := by decide +kernel
theorem dL_law_618 : decode cL_law 618 = .ok (.aload_n 0, 1) := by decide +kernel
theorem dL_law_619 : decode cL_law 619 = .ok (.iload_n 3, 1) := by decide +kernel
theorem dL_law_620 : decode cL_law 620 = .ok (.iconst 1, 1) := by decide +kernel
theorem dL_law_621 : decode cL_law 621 = .ok (.iadd, 1) := by decide +kernel
theorem dL_law_622 : decode cL_law 622 = .ok (.iaload, 1) := by decide +kernel
theorem dL_law_623 : decode cL_law 623 = .ok (.invokevirtual 84, 3) := by decide +kernel
theorem dL_law_626 : decode cL_law 626 = .ok (.if_icmp .eq 288, 3) := by decide +kernel
theorem dL_law_629 : decode cL_law 629 = .ok (.iconst 0, 1) := by decide +kernel
theorem dL_law_630 : decode cL_law 630 = .ok (.ireturn, 1) := by decide +kernel
theorem dL_law_631 : decode cL_law 631 = .ok (.aload_n 1, 1) := by decide +kernel
theorem dL_law_632 : decode cL_law 632 = .ok (.aload_n 0, 1) := by decide +kernel
theorem dL_law_633 : decode cL_law 633 = .ok (.iload_n 3, 1) := by decide +kernel
theorem dL_law_634 : decode cL_law 634 = .ok (.iconst 1, 1) := by decide +kernel
theorem dL_law_635 : decode cL_law 635 = .ok (.iadd, 1) := by decide +kernel
theorem dL_law_636 : decode cL_law 636 = .ok (.iaload, 1) := by decide +kernel
theorem dL_law_637 : decode cL_law 637 = .ok (.aload_n 0, 1) := by decide +kernel
theorem dL_law_638 : decode cL_law 638 = .ok (.iload_n 3, 1) := by decide +kernel
theorem dL_law_639 : decode cL_law 639 = .ok (.iconst 2, 1) := by decide +kernel
theorem dL_law_640 : decode cL_law 640 = .ok (.iadd, 1) := by decide +kernel
theorem dL_law_641 : decode cL_law 641 = .ok (.iaload, 1) := by decide +kernel
theorem dL_law_642 : decode cL_law 642 = .ok (.aload_n 0, 1) := by decide +kernel
theorem dL_law_643 : decode cL_law 643 = .ok (.iload_n 3, 1) := by decide +kernel
theorem dL_law_644 : decode cL_law 644 = .ok (.iconst 3, 1) := by decide +kernel
theorem dL_law_645 : decode cL_law 645 = .ok (.iadd, 1) := by decide +kernel
theorem dL_law_646 : decode cL_law 646 = .ok (.iaload, 1) := by decide +kernel
theorem dL_law_647 : decode cL_law 647 = .ok (.invokevirtual 85, 3) := by decide +kernel
theorem dL_law_650 : decode cL_law 650 = .ok (.aload_n 2, 1) := by decide +kernel
theorem dL_law_651 : decode cL_law 651 = .ok (.aload_n 0, 1) := by decide +kernel
theorem dL_law_652 : decode cL_law 652 = .ok (.iload_n 3, 1) := by decide +kernel
theorem dL_law_653 : decode cL_law 653 = .ok (.iconst 1, 1) := by decide +kernel
theorem dL_law_654 : decode cL_law 654 = .ok (.iadd, 1) := by decide +kernel
theorem dL_law_655 : decode cL_law 655 = .ok (.iaload, 1) := by decide +kernel
theorem dL_law_656 : decode cL_law 656 = .ok (.aload_n 0, 1) := by decide +kernel
theorem dL_law_657 : decode cL_law 657 = .ok (.iload_n 3, 1) := by decide +kernel
theorem dL_law_658 : decode cL_law 658 = .ok (.iconst 2, 1) := by decide +kernel
theorem dL_law_659 : decode cL_law 659 = .ok (.iadd, 1) := by decide +kernel
theorem dL_law_660 : decode cL_law 660 = .ok (.iaload, 1) := by decide +kernel
theorem dL_law_661 : decode cL_law 661 = .ok (.aload_n 0, 1) := by decide +kernel
theorem dL_law_662 : decode cL_law 662 = .ok (.iload_n 3, 1) := by decide +kernel
theorem dL_law_663 : decode cL_law 663 = .ok (.iconst 3, 1) := by decide +kernel
theorem dL_law_664 : decode cL_law 664 = .ok (.iadd, 1) := by decide +kernel
theorem dL_law_665 : decode cL_law 665 = .ok (.iaload, 1) := by decide +kernel
theorem dL_law_666 : decode cL_law 666 = .ok (.invokevirtual 88, 3) := by decide +kernel
theorem dL_law_669 : decode cL_law 669 = .ok (.if_icmp .eq 245, 3) := by decide +kernel
theorem dL_law_672 : decode cL_law 672 = .ok (.iconst 0, 1) := by decide +kernel
theorem dL_law_673 : decode cL_law 673 = .ok (.ireturn, 1) := by decide +kernel
theorem dL_law_674 : decode cL_law 674 = .ok (.aload_n 1, 1) := by decide +kernel
theorem dL_law_675 : decode cL_law 675 = .ok (.aload_n 0, 1) := by decide +kernel
theorem dL_law_676 : decode cL_law 676 = .ok (.iload_n 3, 1) := by decide +kernel
theorem dL_law_677 : decode cL_law 677 = .ok (.iconst 1, 1) := by decide +kernel
theorem dL_law_678 : decode cL_law 678 = .ok (.iadd, 1) := by decide +kernel
theorem dL_law_679 : decode cL_law 679 = .ok (.iaload, 1) := by decide +kernel
theorem dL_law_680 : decode cL_law 680 = .ok (.aload_n 0, 1) := by decide +kernel
theorem dL_law_681 : decode cL_law 681 = .ok (.iload_n 3, 1) := by decide +kernel
theorem dL_law_682 : decode cL_law 682 = .ok (.iconst 2, 1) := by decide +kernel
theorem dL_law_683 : decode cL_law 683 = .ok (.iadd, 1) := by decide +kernel
theorem dL_law_684 : decode cL_law 684 = .ok (.iaload, 1) := by decide +kernel
theorem dL_law_685 : decode cL_law 685 = .ok (.aload_n 0, 1) := by decide +kernel
theorem dL_law_686 : decode cL_law 686 = .ok (.iload_n 3, 1) := by decide +kernel
theorem dL_law_687 : decode cL_law 687 = .ok (.iconst 3, 1) := by decide +kernel
theorem dL_law_688 : decode cL_law 688 = .ok (.iadd, 1) := by decide +kernel
theorem dL_law_689 : decode cL_law 689 = .ok (.iaload, 1) := by decide +kernel
theorem dL_law_690 : decode cL_law 690 = .ok (.invokevirtual 89, 3) := by decide +kernel
theorem dL_law_693 : decode cL_law 693 = .ok (.aload_n 2, 1) := by decide +kernel
theorem dL_law_694 : decode cL_law 694 = .ok (.aload_n 0, 1) := by decide +kernel
theorem dL_law_695 : decode cL_law 695 = .ok (.iload_n 3, 1) := by decide +kernel
theorem dL_law_696 : decode cL_law 696 = .ok (.iconst 1, 1) := by decide +kernel
theorem dL_law_697 : decode cL_law 697 = .ok (.iadd, 1) := by decide +kernel
theorem dL_law_698 : decode cL_law 698 = .ok (.iaload, 1) := by decide +kernel
theorem dL_law_699 : decode cL_law 699 = .ok (.aload_n 0, 1) := by decide +kernel
theorem dL_law_700 : decode cL_law 700 = .ok (.iload_n 3, 1) := by decide +kernel
theorem dL_law_701 : decode cL_law 701 = .ok (.iconst 2, 1) := by decide +kernel
theorem dL_law_702 : decode cL_law 702 = .ok (.iadd, 1) := by decide +kernel
theorem dL_law_703 : decode cL_law 703 = .ok (.iaload, 1) := by decide +kernel
theorem dL_law_704 : decode cL_law 704 = .ok (.aload_n 0, 1) := by decide +kernel
theorem dL_law_705 : decode cL_law 705 = .ok (.iload_n 3, 1) := by decide +kernel
theorem dL_law_706 : decode cL_law 706 = .ok (.iconst 3, 1) := by decide +kernel
theorem dL_law_707 : decode cL_law 707 = .ok (.iadd, 1) := by decide +kernel
theorem dL_law_708 : decode cL_law 708 = .ok (.iaload, 1) := by decide +kernel
theorem dL_law_709 : decode cL_law 709 = .ok (.invokevirtual 92, 3) := by decide +kernel
theorem dL_law_712 : decode cL_law 712 = .ok (.if_icmp .eq 202, 3) := by decide +kernel
theorem dL_law_715 : decode cL_law 715 = .ok (.iconst 0, 1) := by decide +kernel
theorem dL_law_716 : decode cL_law 716 = .ok (.ireturn, 1) := by decide +kernel
theorem dL_law_717 : decode cL_law 717 = .ok (.aload_n 1, 1) := by decide +kernel
theorem dL_law_718 : decode cL_law 718 = .ok (.aload_n 0, 1) := by decide +kernel
theorem dL_law_719 : decode cL_law 719 = .ok (.iload_n 3, 1) := by decide +kernel
theorem dL_law_720 : decode cL_law 720 = .ok (.iconst 1, 1) := by decide +kernel
theorem dL_law_721 : decode cL_law 721 = .ok (.iadd, 1) := by decide +kernel
theorem dL_law_722 : decode cL_law 722 = .ok (.iaload, 1) := by decide +kernel
theorem dL_law_723 : decode cL_law 723 = .ok (.invokevirtual 93, 3) := by decide +kernel
theorem dL_law_726 : decode cL_law 726 = .ok (.aload_n 2, 1) := by decide +kernel
theorem dL_law_727 : decode cL_law 727 = .ok (.aload_n 0, 1) := by decide +kernel
theorem dL_law_728 : decode cL_law 728 = .ok (.iload_n 3, 1) := by decide +kernel
theorem dL_law_729 : decode cL_law 729 = .ok (.iconst 1, 1) := by decide +kernel
theorem dL_law_730 : decode cL_law 730 = .ok (.iadd, 1) := by decide +kernel
theorem dL_law_731 : decode cL_law 731 = .ok (.iaload, 1) := by decide +kernel
theorem dL_law_732 : decode cL_law 732 = .ok (.invokevirtual 96, 3) := by decide +kernel
theorem dL_law_735 : decode cL_law 735 = .ok (.if_icmp .eq 179, 3) := by decide +kernel
theorem dL_law_738 : decode cL_law 738 = .ok (.iconst 0, 1) := by decide +kernel
theorem dL_law_739 : decode cL_law 739 = .ok (.ireturn, 1) := by decide +kernel
theorem dL_law_740 : decode cL_law 740 = .ok (.aload_n 1, 1) := by decide +kernel
theorem dL_law_741 : decode cL_law 741 = .ok (.aload_n 0, 1) := by decide +kernel
theorem dL_law_742 : decode cL_law 742 = .ok (.iload_n 3, 1) := by decide +kernel
theorem dL_law_743 : decode cL_law 743 = .ok (.iconst 1, 1) := by decide +kernel
theorem dL_law_744 : decode cL_law 744 = .ok (.iadd, 1) := by decide +kernel
theorem dL_law_745 : decode cL_law 745 = .ok (.iaload, 1) := by decide +kernel
theorem dL_law_746 : decode cL_law 746 = .ok (.invokevirtual 97, 3) := by decide +kernel
theorem dL_law_749 : decode cL_law 749 = .ok (.aload_n 2, 1) := by decide +kernel
theorem dL_law_750 : decode cL_law 750 = .ok (.aload_n 0, 1) := by decide +kernel
theorem dL_law_751 : decode cL_law 751 = .ok (.iload_n 3, 1) := by decide +kernel
theorem dL_law_752 : decode cL_law 752 = .ok (.iconst 1, 1) := by decide +kernel
theorem dL_law_753 : decode cL_law 753 = .ok (.iadd, 1) := by decide +kernel
theorem dL_law_754 : decode cL_law 754 = .ok (.iaload, 1) := by decide +kernel
theorem dL_law_755 : decode cL_law 755 = .ok (.invokevirtual 100, 3) := by decide +kernel
theorem dL_law_758 : decode cL_law 758 = .ok (.if_icmp .eq 156, 3) := by decide +kernel
theorem dL_law_761 : decode cL_law 761 = .ok (.iconst 0, 1) := by decide +kernel
theorem dL_law_762 : decode cL_law 762 = .ok (.ireturn, 1) := by decide +kernel
theorem dL_law_763 : decode cL_law 763 = .ok (.aload_n 1, 1) := by decide +kernel
theorem dL_law_764 : decode cL_law 764 = .ok (.aload_n 0, 1) := by decide +kernel
theorem dL_law_765 : decode cL_law 765 = .ok (.iload_n 3, 1) := by decide +kernel
theorem dL_law_766 : decode cL_law 766 = .ok (.iconst 1, 1) := by decide +kernel
theorem dL_law_767 : decode cL_law 767 = .ok (.iadd, 1) := by decide +kernel
theorem dL_law_768 : decode cL_law 768 = .ok (.iaload, 1) := by decide +kernel
theorem dL_law_769 : decode cL_law 769 = .ok (.aload_n 0, 1) := by decide +kernel
theorem dL_law_770 : decode cL_law 770 = .ok (.iload_n 3, 1) := by decide +kernel
theorem dL_law_771 : decode cL_law 771 = .ok (.iconst 2, 1) := by decide +kernel
theorem dL_law_772 : decode cL_law 772 = .ok (.iadd, 1) := by decide +kernel
theorem dL_law_773 : decode cL_law 773 = .ok (.iaload, 1) := by decide +kernel
theorem dL_law_774 : decode cL_law 774 = .ok (.invokevirtual 101, 3) := by decide +kernel
theorem dL_law_777 : decode cL_law 777 = .ok (.aload_n 2, 1) := by decide +kernel
theorem dL_law_778 : decode cL_law 778 = .ok (.aload_n 0, 1) := by decide +kernel
theorem dL_law_779 : decode cL_law 779 = .ok (.iload_n 3, 1) := by decide +kernel
theorem dL_law_780 : decode cL_law 780 = .ok (.iconst 1, 1) := by decide +kernel
theorem dL_law_781 : decode cL_law 781 = .ok (.iadd, 1) := by decide +kernel
theorem dL_law_782 : decode cL_law 782 = .ok (.iaload, 1) := by decide +kernel
theorem dL_law_783 : decode cL_law 783 = .ok (.aload_n 0, 1) := by decide +kernel
theorem dL_law_784 : decode cL_law 784 = .ok (.iload_n 3, 1) := by decide +kernel
theorem dL_law_785 : decode cL_law 785 = .ok (.iconst 2, 1) := by decide +kernel
theorem dL_law_786 : decode cL_law 786 = .ok (.iadd, 1) := by decide +kernel
theorem dL_law_787 : decode cL_law 787 = .ok (.iaload, 1) := by decide +kernel
theorem dL_law_788 : decode cL_law 788 = .ok (.invokevirtual 104, 3) := by decide +kernel
theorem dL_law_791 : decode cL_law 791 = .ok (.if_icmp .eq 123, 3) := by decide +kernel
theorem dL_law_794 : decode cL_law 794 = .ok (.iconst 0, 1) := by decide +kernel
theorem dL_law_795 : decode cL_law 795 = .ok (.ireturn, 1) := by decide +kernel
theorem dL_law_796 : decode cL_law 796 = .ok (.aload_n 1, 1) := by decide +kernel
theorem dL_law_797 : decode cL_law 797 = .ok (.aload_n 0, 1) := by decide +kernel
theorem dL_law_798 : decode cL_law 798 = .ok (.iload_n 3, 1) := by decide +kernel
theorem dL_law_799 : decode cL_law 799 = .ok (.iconst 1, 1) := by decide +kernel
theorem dL_law_800 : decode cL_law 800 = .ok (.iadd, 1) := by decide +kernel
theorem dL_law_801 : decode cL_law 801 = .ok (.iaload, 1) := by decide +kernel
theorem dL_law_802 : decode cL_law 802 = .ok (.invokevirtual 105, 3) := by decide +kernel
theorem dL_law_805 : decode cL_law 805 = .ok (.aload_n 2, 1) := by decide +kernel
theorem dL_law_806 : decode cL_law 806 = .ok (.aload_n 0, 1) := by decide +kernel
theorem dL_law_807 : decode cL_law 807 = .ok (.iload_n 3, 1) := by decide +kernel
theorem dL_law_808 : decode cL_law 808 = .ok (.iconst 1, 1) := by decide +kernel
theorem dL_law_809 : decode cL_law 809 = .ok (.iadd, 1) := by decide +kernel
theorem dL_law_810 : decode cL_law 810 = .ok (.iaload, 1) := by decide +kernel
theorem dL_law_811 : decode cL_law 811 = .ok (.invokevirtual 108, 3) := by decide +kernel
theorem dL_law_814 : decode cL_law 814 = .ok (.if_icmp .eq 100, 3) := by decide +kernel
theorem dL_law_817 : decode cL_law 817 = .ok (.iconst 0, 1) := by decide +kernel
theorem dL_law_818 : decode cL_law 818 = .ok (.ireturn, 1) := by decide +kernel
theorem dL_law_819 : decode cL_law 819 = .ok (.aload_n 1, 1) := by decide +kernel
theorem dL_law_820 : decode cL_law 820 = .ok (.invokevirtual 109, 3) := by decide +kernel
theorem dL_law_823 : decode cL_law 823 = .ok (.aload_n 2, 1) := by decide +kernel
theorem dL_law_824 : decode cL_law 824 = .ok (.invokevirtual 112, 3) := by decide +kernel
theorem dL_law_827 : decode cL_law 827 = .ok (.if_icmp .eq 87, 3) := by decide +kernel
theorem dL_law_830 : decode cL_law 830 = .ok (.iconst 0, 1) := by decide +kernel
theorem dL_law_831 : decode cL_law 831 = .ok (.ireturn, 1) := by decide +kernel
theorem dL_law_832 : decode cL_law 832 = .ok (.aload_n 1, 1) := by decide +kernel
theorem dL_law_833 : decode cL_law 833 = .ok (.aload_n 0, 1) := by decide +kernel
theorem dL_law_834 : decode cL_law 834 = .ok (.iload_n 3, 1) := by decide +kernel
theorem dL_law_835 : decode cL_law 835 = .ok (.iconst 1, 1) := by decide +kernel
theorem dL_law_836 : decode cL_law 836 = .ok (.iadd, 1) := by decide +kernel
theorem dL_law_837 : decode cL_law 837 = .ok (.iaload, 1) := by decide +kernel
theorem dL_law_838 : decode cL_law 838 = .ok (.aload_n 0, 1) := by decide +kernel
theorem dL_law_839 : decode cL_law 839 = .ok (.iload_n 3, 1) := by decide +kernel
theorem dL_law_840 : decode cL_law 840 = .ok (.iconst 2, 1) := by decide +kernel
theorem dL_law_841 : decode cL_law 841 = .ok (.iadd, 1) := by decide +kernel
theorem dL_law_842 : decode cL_law 842 = .ok (.iaload, 1) := by decide +kernel
theorem dL_law_843 : decode cL_law 843 = .ok (.invokevirtual 113, 3) := by decide +kernel
theorem dL_law_846 : decode cL_law 846 = .ok (.aload_n 2, 1) := by decide +kernel
theorem dL_law_847 : decode cL_law 847 = .ok (.aload_n 0, 1) := by decide +kernel
theorem dL_law_848 : decode cL_law 848 = .ok (.iload_n 3, 1) := by decide +kernel
theorem dL_law_849 : decode cL_law 849 = .ok (.iconst 1, 1) := by decide +kernel
theorem dL_law_850 : decode cL_law 850 = .ok (.iadd, 1) := by decide +kernel
theorem dL_law_851 : decode cL_law 851 = .ok (.iaload, 1) := by decide +kernel
theorem dL_law_852 : decode cL_law 852 = .ok (.aload_n 0, 1) := by decide +kernel
theorem dL_law_853 : decode cL_law 853 = .ok (.iload_n 3, 1) := by decide +kernel
theorem dL_law_854 : decode cL_law 854 = .ok (.iconst 2, 1) := by decide +kernel
theorem dL_law_855 : decode cL_law 855 = .ok (.iadd, 1) := by decide +kernel
theorem dL_law_856 : decode cL_law 856 = .ok (.iaload, 1) := by decide +kernel
theorem dL_law_857 : decode cL_law 857 = .ok (.invokevirtual 116, 3) := by decide +kernel
theorem dL_law_860 : decode cL_law 860 = .ok (.if_icmp .eq 54, 3) := by decide +kernel
theorem dL_law_863 : decode cL_law 863 = .ok (.iconst 0, 1) := by decide +kernel
theorem dL_law_864 : decode cL_law 864 = .ok (.ireturn, 1) := by decide +kernel
theorem dL_law_865 : decode cL_law 865 = .ok (.aload_n 1, 1) := by decide +kernel
theorem dL_law_866 : decode cL_law 866 = .ok (.invokevirtual 117, 3) := by decide +kernel
theorem dL_law_869 : decode cL_law 869 = .ok (.aload_n 2, 1) := by decide +kernel
theorem dL_law_870 : decode cL_law 870 = .ok (.invokevirtual 120, 3) := by decide +kernel
theorem dL_law_873 : decode cL_law 873 = .ok (.if_icmp .eq 41, 3) := by decide +kernel
theorem dL_law_876 : decode cL_law 876 = .ok (.iconst 0, 1) := by decide +kernel
theorem dL_law_877 : decode cL_law 877 = .ok (.ireturn, 1) := by decide +kernel
theorem dL_law_878 : decode cL_law 878 = .ok (.aload_n 1, 1) := by decide +kernel
theorem dL_law_879 : decode cL_law 879 = .ok (.invokevirtual 121, 3) := by decide +kernel
theorem dL_law_882 : decode cL_law 882 = .ok (.aload_n 2, 1) := by decide +kernel
theorem dL_law_883 : decode cL_law 883 = .ok (.invokevirtual 124, 3) := by decide +kernel
theorem dL_law_886 : decode cL_law 886 = .ok (.if_icmp .eq 28, 3) := by decide +kernel
theorem dL_law_889 : decode cL_law 889 = .ok (.iconst 0, 1) := by decide +kernel
theorem dL_law_890 : decode cL_law 890 = .ok (.ireturn, 1) := by decide +kernel
theorem dL_law_891 : decode cL_law 891 = .ok (.aload_n 1, 1) := by decide +kernel
theorem dL_law_892 : decode cL_law 892 = .ok (.aload_n 0, 1) := by decide +kernel
theorem dL_law_893 : decode cL_law 893 = .ok (.iload_n 3, 1) := by decide +kernel
theorem dL_law_894 : decode cL_law 894 = .ok (.iconst 1, 1) := by decide +kernel
theorem dL_law_895 : decode cL_law 895 = .ok (.iadd, 1) := by decide +kernel
theorem dL_law_896 : decode cL_law 896 = .ok (.iaload, 1) := by decide +kernel
theorem dL_law_897 : decode cL_law 897 = .ok (.invokevirtual 125, 3) := by decide +kernel
theorem dL_law_900 : decode cL_law 900 = .ok (.aload_n 2, 1) := by decide +kernel
theorem dL_law_901 : decode cL_law 901 = .ok (.aload_n 0, 1) := by decide +kernel
theorem dL_law_902 : decode cL_law 902 = .ok (.iload_n 3, 1) := by decide +kernel
theorem dL_law_903 : decode cL_law 903 = .ok (.iconst 1, 1) := by decide +kernel
theorem dL_law_904 : decode cL_law 904 = .ok (.iadd, 1) := by decide +kernel
theorem dL_law_905 : decode cL_law 905 = .ok (.iaload, 1) := by decide +kernel
theorem dL_law_906 : decode cL_law 906 = .ok (.invokevirtual 128, 3) := by decide +kernel
theorem dL_law_909 : decode cL_law 909 = .ok (.if_icmp .eq 5, 3) := by decide +kernel
theorem dL_law_912 : decode cL_law 912 = .ok (.iconst 0, 1) := by decide +kernel
theorem dL_law_913 : decode cL_law 913 = .ok (.ireturn, 1) := by decide +kernel
theorem dL_law_914 : decode cL_law 914 = .ok (.iinc 3 4, 3) := by decide +kernel
theorem dL_law_917 : decode cL_law 917 = .ok (.goto (-899), 3) := by decide +kernel
theorem dL_law_920 : decode cL_law 920 = .ok (.iconst 1, 1) := by decide +kernel
theorem dL_law_921 : decode cL_law 921 = .ok (.ireturn, 1) := by decide +kernel
end
section
/-! the abstract memory: ints by cell and place, references by cell and place, kinds, lengths, how many cells -/
abbrev Mm : Type := (Nat → Nat → Int32) × (Nat → Nat → Option Nat) × (Nat → Nat) × (Nat → Nat) × Nat
def mI (S : Mm) : Nat → Nat → Int32 := S.1
def mR (S : Mm) : Nat → Nat → Option Nat := S.2.1
def mC (S : Mm) : Nat → Nat := S.2.2.1
def mN (S : Mm) : Nat → Nat := S.2.2.2.1
def mX (S : Mm) : Nat := S.2.2.2.2
def u2 {α : Type} (f : Nat → Nat → α) (a j : Nat) (v : α) : Nat → Nat → α := fun b k => if b = a ∧ k = j then v else f b k
def sI (S : Mm) (a j : Nat) (v : Int32) : Mm := (u2 S.1 a j v, S.2)
def sR (S : Mm) (a j : Nat) (r : Option Nat) : Mm := (S.1, u2 S.2.1 a j r, S.2.2)
def sW (S : Mm) (a : Nat) (f : Nat → Int32) : Mm := (va_up S.1 a f, S.2)
def nC (S : Mm) (ci n : Nat) : Mm := (va_up S.1 (mX S) (fun _ => 0), va_up S.2.1 (mX S) (fun _ => none), va_up S.2.2.1 (mX S) ci, va_up S.2.2.2.1 (mX S) n, mX S + 1)
def fT : Nat → List Bool
  | 1 => [true]
  | 6 => [true, false, true, true, true, true, false, false, false]
  | 7 => [true, false]
  | 9 => [false, false, false, true]
  | 10 => [true, true, true, false, true, true, true, true, false, true]
  | 11 => [false, false, false, false, true, true, true, true, true, true, true, true, true, true, true, false, true, false, true, false, true, true, false, false, false, true, true, false, false, false, false, true, true, true, true, true, false, false]
  | _ => [false, false, false, false, false, false]
/-- the kinds that are houses -/
def isF (c : Nat) : Bool := c == 0 || c == 2 || c == 3 || c == 4 || c == 5 || c == 8
def okc (S : Mm) (a ci : Nat) : Bool := decide (a < mX S) && decide (mC S a = ci)
def okF (S : Mm) (a : Nat) : Bool := decide (a < mX S) && isF (mC S a)
def inb (i : Int32) (n : Nat) : Bool := decide (0 ≤ i) && decide (i.toNatClampNeg < n)
def gI (S : Mm) (ci a j : Nat) : Option Int32 := if okc S a ci = true then some (mI S a j) else none
def gR (S : Mm) (ci a j : Nat) : Option Nat := if okc S a ci = true then mR S a j else none
def gF (S : Mm) (a j : Nat) : Option Int32 := if okF S a = true then some (mI S a j) else none
def pI (S : Mm) (ci a j : Nat) (v : Int32) : Option Mm := if okc S a ci = true then some (sI S a j v) else none
def pB (S : Mm) (ci a j : Nat) (v : Int32) : Option Mm := if (okc S a ci && (v == 0 || v == 1)) = true then some (sI S a j v) else none
def pR (S : Mm) (ci a j r : Nat) : Option Mm := if okc S a ci = true then some (sR S a j (some r)) else none
def pF (S : Mm) (a j : Nat) (v : Int32) : Option Mm := if okF S a = true then some (sI S a j v) else none
def aI (S : Mm) (a : Nat) (i : Int32) : Option Int32 := if (okc S a 100 && inb i (mN S a)) = true then some (mI S a i.toNatClampNeg) else none
def aR (S : Mm) (a : Nat) (i : Int32) : Option Nat := if (okc S a 101 && inb i (mN S a)) = true then mR S a i.toNatClampNeg else none
def aL (S : Mm) (ci a : Nat) : Option Int32 := if okc S a ci = true then some (Int32.ofNat (mN S a)) else none
def aS (S : Mm) (a : Nat) (i v : Int32) : Option Mm := if (okc S a 100 && inb i (mN S a)) = true then some (sI S a i.toNatClampNeg v) else none
def aQ (S : Mm) (a : Nat) (i : Int32) (r : Nat) : Option Mm := if (okc S a 101 && inb i (mN S a) && okF S r) = true then some (sR S a i.toNatClampNeg (some r)) else none
def aC (S : Mm) (a : Nat) (sp : Int32) (b : Nat) (dp n : Int32) : Option Mm := if (okc S a 100 && okc S b 100 && decide (0 ≤ sp) && decide (0 ≤ dp) && decide (0 ≤ n) && decide (sp.toNatClampNeg + n.toNatClampNeg ≤ mN S a) && decide (dp.toNatClampNeg + n.toNatClampNeg ≤ mN S b)) = true then some (sW S b (va_cpy (mI S a) (mI S b) sp.toNatClampNeg dp.toNatClampNeg n.toNatClampNeg)) else none
def dV (x y : Int32) : Option Int32 := if y = 0 then none else some (x / y)
def rM (x y : Int32) : Option Int32 := if y = 0 then none else some (x - x / y * y)
def rB (x : Int32) : Option Int32 := if (x == 0 || x == 1) = true then some x else none
def mnI (x y : Int32) : Int32 := if y < x then y else x
def mxI (x y : Int32) : Int32 := if x < y then y else x
theorem bnd {α β : Type} {o : Option α} {f : α → Option β} {t : β} (h : o.bind f = some t) : ∃ x, o = some x ∧ f x = some t := Option.bind_eq_some_iff.mp h
theorem oif {α : Type} {b : Prop} [Decidable b] {x : Option α} {t : α} (h : (if b then x else none) = some t) : b ∧ x = some t := by
  by_cases hb : b
  · rw [if_pos hb] at h; exact ⟨hb, h⟩
  · rw [if_neg hb] at h; cases h
/-! what a memory is on the machine -/
abbrev Gt : Type := Nat × va_G × ClassId × ClassId
def cv (z : Nat) : Value → Value
  | .ref k => .ref (z + k)
  | v => v
def cS (z : Nat) (S : Mm) (k : Nat) (t : Bool) (j : Nat) : Value := if t = true then va_rf ((mR S k j).map (fun r => z + r)) else .int (mI S k j)
def cO (z : Nat) (S : Mm) (k : Nat) : Nat → List Bool → List Value
  | _, [] => []
  | j, t :: ts => cS z S k t j :: cO z S k (j + 1) ts
def cE (G : Gt) (S : Mm) (k : Nat) : va_E := if mC S k = 100 then .inl (G.2.2.1, mN S k, .inl (mI S k)) else if mC S k = 101 then .inl (G.2.2.2, mN S k, .inr (.inr (.inr (.inr (fun j => (mR S k j).map (fun r => G.1 + r)))))) else .inr (mC S k, cO G.1 S k 0 (fT (mC S k)))
def cW (G : Gt) (S : Mm) : va_W := (List.range (mX S)).map (fun k => (G.1 + k, cE G S k))
theorem cW_at {G : Gt} {S : Mm} {k : Nat} (h : k < mX S) : (cW G S)[k]? = some (G.1 + k, cE G S k) := by
  simp [cW, h]
theorem cW_lt {G : Gt} {S : Mm} {k : Nat} {q : Nat × va_E} (h : (cW G S)[k]? = some q) : k < mX S ∧ q = (G.1 + k, cE G S k) := by
  have hk : k < mX S := by
    have := (List.getElem?_eq_some_iff.mp h).1
    simpa [cW] using this
  rw [cW_at hk] at h
  exact ⟨hk, (Option.some.inj h).symm⟩
theorem cW_D {G : Gt} {S : Mm} : va_D (fun q => G.1 ≤ q) (cW G S) := by
  refine ⟨fun i j p q hi hj h => ?_, fun k q hk => ?_⟩
  · obtain ⟨-, rfl⟩ := cW_lt hi
    obtain ⟨-, rfl⟩ := cW_lt hj
    exact Nat.add_left_cancel h
  · obtain ⟨-, rfl⟩ := cW_lt hk
    exact Nat.le_add_right _ _
theorem cW_set {G : Gt} {S S' : Mm} {a : Nat} {E : va_E} (hX : mX S' = mX S) (ho : ∀ k, k ≠ a → cE G S' k = cE G S k) (ha : cE G S' a = E) : (cW G S).set a (G.1 + a, E) = cW G S' := by
  apply List.ext_getElem?
  intro k
  by_cases hk : k < mX S
  · rw [cW_at (S := S') (by rw [hX]; exact hk)]
    by_cases hka : k = a
    · subst hka
      rw [List.getElem?_set_self (by simpa [cW] using hk), ha]
    · rw [List.getElem?_set_ne (Ne.symm hka), cW_at hk, ho k hka]
  · have h1 : ((cW G S).set a (G.1 + a, E))[k]? = none := by simp [cW]; omega
    have h2 : (cW G S')[k]? = none := by simp [cW, hX]; omega
    rw [h1, h2]
theorem cO_at {z : Nat} {S : Mm} {k : Nat} : ∀ (ts : List Bool) (i j : Nat), (cO z S k i ts)[j]? = ts[j]?.map (fun t => cS z S k t (i + j))
  | [], i, j => by simp [cO]
  | t :: ts, i, 0 => by simp [cO]
  | t :: ts, i, j + 1 => by
    rw [cO, List.getElem?_cons_succ, List.getElem?_cons_succ, cO_at ts (i + 1) j, show i + 1 + j = i + (j + 1) by omega]
theorem cO_len {z : Nat} {S : Mm} {k : Nat} : ∀ (ts : List Bool) (i : Nat), (cO z S k i ts).length = ts.length
  | [], i => rfl
  | t :: ts, i => by rw [cO, List.length_cons, List.length_cons, cO_len ts (i + 1)]
theorem cO_congr {z : Nat} {S S' : Mm} {k : Nat} : ∀ (ts : List Bool) (i : Nat), (∀ j, i ≤ j → mI S' k j = mI S k j) → (∀ j, i ≤ j → mR S' k j = mR S k j) → cO z S' k i ts = cO z S k i ts
  | [], i, _, _ => rfl
  | t :: ts, i, h1, h2 => by
    rw [cO, cO, cO_congr ts (i + 1) (fun j hj => h1 j (by omega)) (fun j hj => h2 j (by omega))]
    rw [cS, cS, h1 i (Nat.le_refl i), h2 i (Nat.le_refl i)]
theorem cE_congr {G : Gt} {S S' : Mm} {k : Nat} (hI : mI S' k = mI S k) (hR : mR S' k = mR S k) (hC : mC S' k = mC S k) (hN : mN S' k = mN S k) : cE G S' k = cE G S k := by
  unfold cE
  rw [hC, hN, hI, hR, cO_congr (S := S) (S' := S') (fT (mC S k)) 0 (fun j _ => by rw [hI]) (fun j _ => by rw [hR])]
end
section
/-! the words: all good ones of the tables -/
def gtb : List Cond := lw_tbl.filter goodWord
theorem gtb_in {w : Cond} (h : w ∈ lw_tbl) (hg : goodWord w = true) : w ∈ gtb := List.mem_filter.mpr ⟨h, hg⟩
theorem gtb_good {c w : Cond} (hc : w ∈ gtb) : GoodIn (c :: gtb) (w :: gtb) := by
  intro x hx
  have hx : x ∈ gtb := by
    rcases List.mem_cons.mp hx with rfl | h
    · exact hc
    · exact h
  exact ⟨List.mem_cons_of_mem _ hx, good_of_word (List.mem_filter.mp hx).2⟩
set_option maxRecDepth 20000 in
theorem uin_0 : (u_ws RX0 TX0 6).all (fun w => decide (w ∈ lw_tbl) && goodWord w) = true := by decide +kernel
set_option maxRecDepth 20000 in
theorem uin_1 : (u_ws RX1 TX1 1).all (fun w => decide (w ∈ lw_tbl) && goodWord w) = true := by decide +kernel
set_option maxRecDepth 20000 in
theorem uin_2 : (u_ws RX2 TX2 6).all (fun w => decide (w ∈ lw_tbl) && goodWord w) = true := by decide +kernel
set_option maxRecDepth 20000 in
theorem uin_3 : (u_ws RX3 TX3 6).all (fun w => decide (w ∈ lw_tbl) && goodWord w) = true := by decide +kernel
set_option maxRecDepth 20000 in
theorem uin_4 : (u_ws RX4 TX4 6).all (fun w => decide (w ∈ lw_tbl) && goodWord w) = true := by decide +kernel
set_option maxRecDepth 20000 in
theorem uin_5 : (u_ws RX5 TX5 6).all (fun w => decide (w ∈ lw_tbl) && goodWord w) = true := by decide +kernel
set_option maxRecDepth 20000 in
theorem uin_6 : (u_ws RX6 TX6 9).all (fun w => decide (w ∈ lw_tbl) && goodWord w) = true := by decide +kernel
set_option maxRecDepth 20000 in
theorem uin_7 : (u_ws RX7 TX7 2).all (fun w => decide (w ∈ lw_tbl) && goodWord w) = true := by decide +kernel
set_option maxRecDepth 20000 in
theorem uin_8 : (u_ws RX8 TX8 6).all (fun w => decide (w ∈ lw_tbl) && goodWord w) = true := by decide +kernel
set_option maxRecDepth 20000 in
theorem uin_9 : (u_ws RX9 TX9 4).all (fun w => decide (w ∈ lw_tbl) && goodWord w) = true := by decide +kernel
set_option maxRecDepth 20000 in
theorem uin_11 : (u_ws RX11 TX11 10).all (fun w => decide (w ∈ lw_tbl) && goodWord w) = true := by decide +kernel
set_option maxRecDepth 20000 in
theorem uin_12 : (u_ws RX12 TX12 38).all (fun w => decide (w ∈ lw_tbl) && goodWord w) = true := by decide +kernel
theorem uin_g {ws : List Cond} (h : ws.all (fun w => decide (w ∈ lw_tbl) && goodWord w) = true) : ∀ w ∈ ws, w ∈ gtb := by
  intro w hw
  have h1 := List.all_eq_true.mp h w hw
  simp only [Bool.and_eq_true, decide_eq_true_eq] at h1
  exact gtb_in h1.1 h1.2
theorem uin {ci : Nat} {q : vw_C} (h : vwCl[ci]? = some q) : ∀ w ∈ u_ws q.1 q.2.1 q.2.2, w ∈ gtb := by
  match ci, h with
  | 0, h => cases h; exact uin_g uin_0
  | 1, h => cases h; exact uin_g uin_1
  | 2, h => cases h; exact uin_g uin_2
  | 3, h => cases h; exact uin_g uin_3
  | 4, h => cases h; exact uin_g uin_4
  | 5, h => cases h; exact uin_g uin_5
  | 6, h => cases h; exact uin_g uin_6
  | 7, h => cases h; exact uin_g uin_7
  | 8, h => cases h; exact uin_g uin_8
  | 9, h => cases h; exact uin_g uin_9
  | 10, h => cases h; exact uin_g uin_11
  | 11, h => cases h; exact uin_g uin_12
  | k + 12, h => simp [vwCl] at h
/-- the types of a class's fields -/
def tyO : Nat → Nat → FieldType
  | 0 => tyX0
  | 1 => tyX1
  | 2 => tyX2
  | 3 => tyX3
  | 4 => tyX4
  | 5 => tyX5
  | 6 => tyX6
  | 7 => tyX7
  | 8 => tyX8
  | 9 => tyX9
  | 10 => tyX11
  | _ => tyX12
theorem tyO_ok {ci : Nat} {q : vw_C} (h : vwCl[ci]? = some q) : (∀ k, k < q.2.2 → parseFieldDescriptor (q.2.1 k).2.2.1 = some (tyO ci k)) ∧ (∀ a, a < q.2.2 → ∀ b, b < q.2.2 → a ≠ b → (q.2.1 a).2.1 ≠ (q.2.1 b).2.1) := by
  match ci, h with
  | 0, h => cases h; exact ⟨tyX0_ok, nmX0⟩
  | 1, h => cases h; exact ⟨tyX1_ok, nmX1⟩
  | 2, h => cases h; exact ⟨tyX2_ok, nmX2⟩
  | 3, h => cases h; exact ⟨tyX3_ok, nmX3⟩
  | 4, h => cases h; exact ⟨tyX4_ok, nmX4⟩
  | 5, h => cases h; exact ⟨tyX5_ok, nmX5⟩
  | 6, h => cases h; exact ⟨tyX6_ok, nmX6⟩
  | 7, h => cases h; exact ⟨tyX7_ok, nmX7⟩
  | 8, h => cases h; exact ⟨tyX8_ok, nmX8⟩
  | 9, h => cases h; exact ⟨tyX9_ok, nmX9⟩
  | 10, h => cases h; exact ⟨tyX11_ok, nmX11⟩
  | 11, h => cases h; exact ⟨tyX12_ok, nmX12⟩
  | k + 12, h => simp [vwCl] at h
theorem fT_len {ci : Nat} {q : vw_C} (h : vwCl[ci]? = some q) : (fT ci).length = q.2.2 := by
  match ci, h with
  | 0, h => cases h; rfl
  | 1, h => cases h; rfl
  | 2, h => cases h; rfl
  | 3, h => cases h; rfl
  | 4, h => cases h; rfl
  | 5, h => cases h; rfl
  | 6, h => cases h; rfl
  | 7, h => cases h; rfl
  | 8, h => cases h; rfl
  | 9, h => cases h; rfl
  | 10, h => cases h; rfl
  | 11, h => cases h; rfl
  | k + 12, h => simp [vwCl] at h
/-- what the machine's tables say that is no good word -/
def nwM : List (String × Nat × MethodName) := [("GoodsDownhill$Land", 29, ⟨"GoodsDownhill$Debts", "<init>", "()V"⟩), ("GoodsDownhill", 24, ⟨"GoodsDownhill$Tally", "<init>", "()V"⟩), ("GoodsDownhill", 34, ⟨"GoodsDownhill$Letters", "<init>", "()V"⟩), ("GoodsDownhill$Letters", 61, ⟨"GoodsDownhill", "isGood", "(I)Z"⟩), ("GoodsDownhill$Letters", 94, ⟨"GoodsDownhill", "isLaw", "(I)Z"⟩), ("GoodsDownhill$Debts", 21, ⟨"GoodsDownhill", "sumOf", "([I)I"⟩), ("GoodsDownhill$Land", 83, ⟨"GoodsDownhill", "isGood", "(I)Z"⟩)]
def nwC : List String := ["GoodsDownhill$Cellared", "GoodsDownhill$Joined", "GoodsDownhill$Hermit", "GoodsDownhill$Market", "GoodsDownhill$Feigned"]
def NX (U : State) : Prop := (∀ q ∈ nwM, va_Nw (.methodLinkNest q.1 q.2.1 q.2.2 "GoodsDownhill") U) ∧ (∀ C ∈ nwC, va_Nw (.castable C "GoodsDownhill$House") U) ∧ va_AO "GoodsDownhill$House" U
theorem NX.warm {s U : State} (hW : s.WarmedH U.vm) (h : NX s) : NX U := ⟨fun q hq => va_Nw.warmM hW (h.1 q hq), fun C hC => va_Nw.warmC hW (h.2.1 C hC), h.2.2.moved hW.alike⟩
theorem NX.calls {U : State} (h : NX U) (g : JFrame) (mk : MethodId) (a : Array Value) : NX (U.calling g mk a) := ⟨fun q hq => va_Nw.same rfl rfl (h.1 q hq), fun C hC => va_Nw.same rfl rfl (h.2.1 C hC), va_AO.moved (u := U) (Vm.Alike.refl U.vm) h.2.2⟩
def tyG (G : Gt) : List (ClassId × FieldType) := [(G.2.2.1, .int), (G.2.2.2, .object "GoodsDownhill$House")]
def rmm (t mc ms : Nat) : Room := { frames := t, cells := mc, slots := ms, locals := 40 * t }
/-- the machine, the method's code, the words -/
def Cx (G : Gt) (y : MethodName) (cc : ByteArray) (nL : Nat) (rt : Option FieldType) (p : Program) (s : State) (m : MethodId) (args : Array Value) (meth : Method) (c : Code) : Prop :=
  p.tables.exec = Jvm.exec ∧ c.code = cc ∧ meth.sig.returnType = rt ∧ c.maxLocals = nL ∧ s.vm.findClass y.cls = some m.cls ∧ (∀ w ∈ Cond.code y cc nL rt :: gtb, w.before args s = true) ∧ meth.locks = false ∧ meth.name = y.name ∧ va_K G.2.1 vwCl (tyG G) s ∧ NX s ∧ G.1 ≤ s.heap.size
def Hx (G : Gt) (S : Mm) (s : State) (H : Heap) (locs : List Loc) : Prop := va_P G.2.1 vwCl (cW G S) H ∧ H.size = G.1 + mX S ∧ va_S (fun q => G.1 ≤ q) s.heap H locs
def Lx (z : Nat) (ls : Array Slot) (nL : Nat) (lv : List Value) : Prop := ls.size = nL ∧ lv_wf ls ∧ ∀ (k : Nat) (v : Value), lv[k]? = some v → v ≠ .null → ls[k]? = some (.val (cv z v))
/-- how a method ends -/
def Qm (G : Gt) (T : Option Value × Mm) : Array Value → State → Outcome → State → Prop := fun _ st o t => (o = .returned (T.1.map (cv G.1)) ∧ va_P G.2.1 vwCl (cW G T.2) t.heap ∧ t.heap.size = G.1 + mX T.2) ∧ va_F (fun q => G.1 ≤ q) st t
/-- a frame at pc with these locals, this stack, this memory comes to the method's end T -/
def Sat (G : Gt) (l : Launch) (y : MethodName) (cc : ByteArray) (nL : Nat) (rt : Option FieldType) (t mc ms ce sl pc : Nat) (lv st : List Value) (S : Mm) (T : Option Value × Mm) : Prop :=
  ∀ (p : Program) (e : Env) (s : State) (m : MethodId) (args : Array Value) (below : List Frame) (meth : Method) (c : Code) (H : Heap) (locs : List Loc) (ls : Array Slot), Cx G y cc nL rt p s m args meth c → Hx G S s H locs → Lx G.1 ls nL lv →
    W p l e (rmm t mc ms) s m args below meth c H locs ce sl (MQ below (Qm G T) args s mc ms (fun q => G.1 ≤ q)) (F0 m pc ls (st.map (cv G.1)))
/-- a method's contract: with these arguments and this memory it comes to T -/
def CC (G : Gt) (l : Launch) (y : MethodName) (cc : ByteArray) (nL : Nat) (rt : Option FieldType) (t mc ms : Nat) (as : List Value) (S : Mm) (T : Option Value × Mm) : Prop :=
  Met l y (Cond.code y cc nL rt :: gtb) (rmm t mc ms) (va_Pc (as.map (cv G.1)) (fun U => va_P G.2.1 vwCl (cW G S) U.heap ∧ U.heap.size = G.1 + mX S ∧ va_K G.2.1 vwCl (tyG G) U ∧ NX U)) (Qm G T) mc ms (fun q => G.1 ≤ q)
/-- the locals with which a method begins -/
def lvA : Nat → List Value → List Value
  | n, [] => List.replicate n .null
  | n, v :: vs => if v.category = 2 then v :: .null :: lvA (n - 2) vs else v :: lvA (n - 1) vs
section
variable {G : Gt} {l : Launch} {y : MethodName} {cc : ByteArray} {nL : Nat} {rt : Option FieldType} {t mc ms ce sl pc : Nat} {lv st : List Value} {S : Mm} {T : Option Value × Mm}
theorem r_iload {k : Nat} {x : Int32} (hd : decode cc pc = .ok (.iload k, 2)) (hl : lv[k]? = some (.int x)) (K : Sat G l y cc nL rt t mc ms ce sl (pc + 2) lv (.int x :: st) S T) : Sat G l y cc nL rt t mc ms ce sl pc lv st S T :=
  fun p e s m args below meth c H locs ls hC hH hL => lv_iload hC.1 hC.2.1 hd (hL.2.2 k _ hl (by simp)) (K p e s m args below meth c H locs ls hC hH hL)
theorem r_iload_n {k : Fin 4} {x : Int32} (hd : decode cc pc = .ok (.iload_n k, 1)) (hl : lv[(k : Nat)]? = some (.int x)) (K : Sat G l y cc nL rt t mc ms ce sl (pc + 1) lv (.int x :: st) S T) : Sat G l y cc nL rt t mc ms ce sl pc lv st S T :=
  fun p e s m args below meth c H locs ls hC hH hL => lv_iload_n hC.1 hC.2.1 hd rfl (hL.2.2 k _ hl (by simp)) (K p e s m args below meth c H locs ls hC hH hL)
theorem r_aload {k : Nat} {x : Nat} (hd : decode cc pc = .ok (.aload k, 2)) (hl : lv[k]? = some (.ref x)) (K : Sat G l y cc nL rt t mc ms ce sl (pc + 2) lv (.ref x :: st) S T) : Sat G l y cc nL rt t mc ms ce sl pc lv st S T :=
  fun p e s m args below meth c H locs ls hC hH hL => lv_aload hC.1 hC.2.1 hd (hL.2.2 k _ hl (by simp)) (K p e s m args below meth c H locs ls hC hH hL)
theorem r_aload_n {k : Fin 4} {x : Nat} (hd : decode cc pc = .ok (.aload_n k, 1)) (hl : lv[(k : Nat)]? = some (.ref x)) (K : Sat G l y cc nL rt t mc ms ce sl (pc + 1) lv (.ref x :: st) S T) : Sat G l y cc nL rt t mc ms ce sl pc lv st S T :=
  fun p e s m args below meth c H locs ls hC hH hL => lv_aload_n hC.1 hC.2.1 hd rfl (hL.2.2 k _ hl (by simp)) (K p e s m args below meth c H locs ls hC hH hL)
theorem r_lload {k : Nat} {x : Int64} (hd : decode cc pc = .ok (.lload k, 2)) (hl : lv[k]? = some (.long x)) (K : Sat G l y cc nL rt t mc ms ce sl (pc + 2) lv (.long x :: st) S T) : Sat G l y cc nL rt t mc ms ce sl pc lv st S T :=
  fun p e s m args below meth c H locs ls hC hH hL => lv_lload hC.1 hC.2.1 hd (hL.2.2 k _ hl (by simp)) (K p e s m args below meth c H locs ls hC hH hL)
theorem r_lload_n {k : Fin 4} {x : Int64} (hd : decode cc pc = .ok (.lload_n k, 1)) (hl : lv[(k : Nat)]? = some (.long x)) (K : Sat G l y cc nL rt t mc ms ce sl (pc + 1) lv (.long x :: st) S T) : Sat G l y cc nL rt t mc ms ce sl pc lv st S T :=
  fun p e s m args below meth c H locs ls hC hH hL => lv_lload_n hC.1 hC.2.1 hd rfl (hL.2.2 k _ hl (by simp)) (K p e s m args below meth c H locs ls hC hH hL)
theorem r_iconst {n : Int} {v : Int32} (hd : decode cc pc = .ok (.iconst n, 1)) (hv : Int32.ofInt n = v) (K : Sat G l y cc nL rt t mc ms ce sl (pc + 1) lv (.int v :: st) S T) : Sat G l y cc nL rt t mc ms ce sl pc lv st S T :=
  fun p e s m args below meth c H locs ls hC hH hL => lv_iconst hC.1 hC.2.1 hd hv (K p e s m args below meth c H locs ls hC hH hL)
theorem r_bipush {n : Int} {v : Int32} (hd : decode cc pc = .ok (.bipush n, 2)) (hv : (Int8.ofInt n).toInt32 = v) (K : Sat G l y cc nL rt t mc ms ce sl (pc + 2) lv (.int v :: st) S T) : Sat G l y cc nL rt t mc ms ce sl pc lv st S T :=
  fun p e s m args below meth c H locs ls hC hH hL => lv_bipush hC.1 hC.2.1 hd hv (K p e s m args below meth c H locs ls hC hH hL)
theorem r_sipush {n : Int} {v : Int32} (hd : decode cc pc = .ok (.sipush n, 3)) (hv : (Int16.ofInt n).toInt32 = v) (K : Sat G l y cc nL rt t mc ms ce sl (pc + 3) lv (.int v :: st) S T) : Sat G l y cc nL rt t mc ms ce sl pc lv st S T :=
  fun p e s m args below meth c H locs ls hC hH hL => lv_sipush hC.1 hC.2.1 hd hv (K p e s m args below meth c H locs ls hC hH hL)
theorem r_lconst {n : Fin 2} {v : Int64} (hd : decode cc pc = .ok (.lconst n, 1)) (hv : Int64.ofNat (n : Nat) = v) (K : Sat G l y cc nL rt t mc ms ce sl (pc + 1) lv (.long v :: st) S T) : Sat G l y cc nL rt t mc ms ce sl pc lv st S T :=
  fun p e s m args below meth c H locs ls hC hH hL => lv_lconst hC.1 hC.2.1 hd hv (K p e s m args below meth c H locs ls hC hH hL)
theorem r_ldc {ix : Nat} {v : Int32} (hd : decode cc pc = .ok (.ldc ix, 2)) (hw : Cond.constant y.cls ix v ∈ gtb) (K : Sat G l y cc nL rt t mc ms ce sl (pc + 2) lv (.int v :: st) S T) : Sat G l y cc nL rt t mc ms ce sl pc lv st S T :=
  fun p e s m args below meth c H locs ls hC hH hL => lv_ldc hC.1 hC.2.1 hC.2.2.2.2.1 (hC.2.2.2.2.2.1 _ (List.mem_cons_of_mem _ hw)) hd (K p e s m args below meth c H locs ls hC hH hL)
theorem r_ldc2 {ix : Nat} {v : Int64} (hd : decode cc pc = .ok (.ldc2_w ix, 3)) (hw : Cond.constantLong y.cls ix v ∈ gtb) (K : Sat G l y cc nL rt t mc ms ce sl (pc + 3) lv (.long v :: st) S T) : Sat G l y cc nL rt t mc ms ce sl pc lv st S T :=
  fun p e s m args below meth c H locs ls hC hH hL => lv_ldc2 hC.1 hC.2.1 hC.2.2.2.2.1 (hC.2.2.2.2.2.1 _ (List.mem_cons_of_mem _ hw)) hd (K p e s m args below meth c H locs ls hC hH hL)
theorem r_iadd {a b : Int32} (hd : decode cc pc = .ok (.iadd, 1)) (K : Sat G l y cc nL rt t mc ms ce sl (pc + 1) lv (.int (a + b) :: st) S T) : Sat G l y cc nL rt t mc ms ce sl pc lv (.int b :: .int a :: st) S T :=
  fun p e s m args below meth c H locs ls hC hH hL => lv_iadd hC.1 hC.2.1 hd (K p e s m args below meth c H locs ls hC hH hL)
theorem r_isub {a b : Int32} (hd : decode cc pc = .ok (.isub, 1)) (K : Sat G l y cc nL rt t mc ms ce sl (pc + 1) lv (.int (a - b) :: st) S T) : Sat G l y cc nL rt t mc ms ce sl pc lv (.int b :: .int a :: st) S T :=
  fun p e s m args below meth c H locs ls hC hH hL => lv_isub hC.1 hC.2.1 hd (K p e s m args below meth c H locs ls hC hH hL)
theorem r_imul {a b : Int32} (hd : decode cc pc = .ok (.imul, 1)) (K : Sat G l y cc nL rt t mc ms ce sl (pc + 1) lv (.int (a * b) :: st) S T) : Sat G l y cc nL rt t mc ms ce sl pc lv (.int b :: .int a :: st) S T :=
  fun p e s m args below meth c H locs ls hC hH hL => lv_imul hC.1 hC.2.1 hd (K p e s m args below meth c H locs ls hC hH hL)
theorem r_iand {a b : Int32} (hd : decode cc pc = .ok (.iand, 1)) (K : Sat G l y cc nL rt t mc ms ce sl (pc + 1) lv (.int (a &&& b) :: st) S T) : Sat G l y cc nL rt t mc ms ce sl pc lv (.int b :: .int a :: st) S T :=
  fun p e s m args below meth c H locs ls hC hH hL => lv_iand hC.1 hC.2.1 hd (K p e s m args below meth c H locs ls hC hH hL)
theorem r_ior {a b : Int32} (hd : decode cc pc = .ok (.ior, 1)) (K : Sat G l y cc nL rt t mc ms ce sl (pc + 1) lv (.int (a ||| b) :: st) S T) : Sat G l y cc nL rt t mc ms ce sl pc lv (.int b :: .int a :: st) S T :=
  fun p e s m args below meth c H locs ls hC hH hL => lv_ior hC.1 hC.2.1 hd (K p e s m args below meth c H locs ls hC hH hL)
theorem r_ishl {a b : Int32} (hd : decode cc pc = .ok (.ishl, 1)) (K : Sat G l y cc nL rt t mc ms ce sl (pc + 1) lv (.int (a <<< (b &&& 31)) :: st) S T) : Sat G l y cc nL rt t mc ms ce sl pc lv (.int b :: .int a :: st) S T :=
  fun p e s m args below meth c H locs ls hC hH hL => lv_ishl hC.1 hC.2.1 hd (K p e s m args below meth c H locs ls hC hH hL)
theorem r_ishr {a b : Int32} (hd : decode cc pc = .ok (.ishr, 1)) (K : Sat G l y cc nL rt t mc ms ce sl (pc + 1) lv (.int (a >>> (b &&& 31)) :: st) S T) : Sat G l y cc nL rt t mc ms ce sl pc lv (.int b :: .int a :: st) S T :=
  fun p e s m args below meth c H locs ls hC hH hL => lv_ishr hC.1 hC.2.1 hd (K p e s m args below meth c H locs ls hC hH hL)
theorem r_ineg {a : Int32} (hd : decode cc pc = .ok (.ineg, 1)) (K : Sat G l y cc nL rt t mc ms ce sl (pc + 1) lv (.int (-a) :: st) S T) : Sat G l y cc nL rt t mc ms ce sl pc lv (.int a :: st) S T :=
  fun p e s m args below meth c H locs ls hC hH hL => lv_ineg hC.1 hC.2.1 hd (K p e s m args below meth c H locs ls hC hH hL)
theorem r_idiv {a b x : Int32} (hd : decode cc pc = .ok (.idiv, 1)) (h : dV a b = some x) (K : Sat G l y cc nL rt t mc ms ce sl (pc + 1) lv (.int x :: st) S T) : Sat G l y cc nL rt t mc ms ce sl pc lv (.int b :: .int a :: st) S T := by
  unfold dV at h
  split at h
  · cases h
  · next hn =>
    cases h
    exact fun p e s m args below meth c H locs ls hC hH hL => lv_idiv hC.1 hC.2.1 hd hn (K p e s m args below meth c H locs ls hC hH hL)
theorem r_irem {a b x : Int32} (hd : decode cc pc = .ok (.irem, 1)) (h : rM a b = some x) (K : Sat G l y cc nL rt t mc ms ce sl (pc + 1) lv (.int x :: st) S T) : Sat G l y cc nL rt t mc ms ce sl pc lv (.int b :: .int a :: st) S T := by
  unfold rM at h
  split at h
  · cases h
  · next hn =>
    cases h
    exact fun p e s m args below meth c H locs ls hC hH hL => lv_irem hC.1 hC.2.1 hd hn (K p e s m args below meth c H locs ls hC hH hL)
theorem r_i2l {a : Int32} (hd : decode cc pc = .ok (.i2l, 1)) (K : Sat G l y cc nL rt t mc ms ce sl (pc + 1) lv (.long a.toInt64 :: st) S T) : Sat G l y cc nL rt t mc ms ce sl pc lv (.int a :: st) S T :=
  fun p e s m args below meth c H locs ls hC hH hL => lv_i2l hC.1 hC.2.1 hd rfl (K p e s m args below meth c H locs ls hC hH hL)
theorem r_lcmp {a b : Int64} (hd : decode cc pc = .ok (.lcmp, 1)) (K : Sat G l y cc nL rt t mc ms ce sl (pc + 1) lv (.int (lg_cmp a b) :: st) S T) : Sat G l y cc nL rt t mc ms ce sl pc lv (.long b :: .long a :: st) S T :=
  fun p e s m args below meth c H locs ls hC hH hL => W.lcmp hC.1 hC.2.1 hd (K p e s m args below meth c H locs ls hC hH hL)
theorem cv_cat {z : Nat} (v : Value) : (cv z v).category = v.category := by cases v <;> rfl
theorem r_dup {v : Value} (hd : decode cc pc = .ok (.dup, 1)) (hv : v.category = 1) (K : Sat G l y cc nL rt t mc ms ce sl (pc + 1) lv (v :: v :: st) S T) : Sat G l y cc nL rt t mc ms ce sl pc lv (v :: st) S T :=
  fun p e s m args below meth c H locs ls hC hH hL => lv_dup hC.1 hC.2.1 hd (by rw [cv_cat]; exact hv) (K p e s m args below meth c H locs ls hC hH hL)
theorem r_dup2 {v w : Value} (hd : decode cc pc = .ok (.dup2, 1)) (hv : v.category = 1) (hw : w.category = 1) (K : Sat G l y cc nL rt t mc ms ce sl (pc + 1) lv (v :: w :: v :: w :: st) S T) : Sat G l y cc nL rt t mc ms ce sl pc lv (v :: w :: st) S T :=
  fun p e s m args below meth c H locs ls hC hH hL => lv_dup2_11 hC.1 hC.2.1 hd (by rw [cv_cat]; exact hv) (by rw [cv_cat]; exact hw) (K p e s m args below meth c H locs ls hC hH hL)
theorem r_pop {v : Value} (hd : decode cc pc = .ok (.pop, 1)) (hv : v.category = 1) (K : Sat G l y cc nL rt t mc ms ce sl (pc + 1) lv st S T) : Sat G l y cc nL rt t mc ms ce sl pc lv (v :: st) S T :=
  fun p e s m args below meth c H locs ls hC hH hL => lv_pop hC.1 hC.2.1 hd (by rw [cv_cat]; exact hv) (K p e s m args below meth c H locs ls hC hH hL)
theorem r_goto {off : Int} {tgt : Nat} (hd : decode cc pc = .ok (.goto off, 3)) (ht : (pc : Int) + off = (tgt : Int)) (K : Sat G l y cc nL rt t mc ms ce sl tgt lv st S T) : Sat G l y cc nL rt t mc ms ce sl pc lv st S T :=
  fun p e s m args below meth c H locs ls hC hH hL => lv_goto hC.1 hC.2.1 hd ht (K p e s m args below meth c H locs ls hC hH hL)
theorem r_if_eq {a : Int32} {off : Int} {tgt : Nat} (hd : decode cc pc = .ok (.ifCond .eq off, 3)) (ht : (pc : Int) + off = (tgt : Int)) (K1 : a = 0 → Sat G l y cc nL rt t mc ms ce sl tgt lv st S T) (K2 : ¬ a = 0 → Sat G l y cc nL rt t mc ms ce sl (pc + 3) lv st S T) : Sat G l y cc nL rt t mc ms ce sl pc lv (.int a :: st) S T :=
  fun p e s m args below meth c H locs ls hC hH hL => lv_if_eq hC.1 hC.2.1 hd ht (fun h => K1 h p e s m args below meth c H locs ls hC hH hL) (fun h => K2 h p e s m args below meth c H locs ls hC hH hL)
theorem r_if_ne {a : Int32} {off : Int} {tgt : Nat} (hd : decode cc pc = .ok (.ifCond .ne off, 3)) (ht : (pc : Int) + off = (tgt : Int)) (K1 : ¬ a = 0 → Sat G l y cc nL rt t mc ms ce sl tgt lv st S T) (K2 : a = 0 → Sat G l y cc nL rt t mc ms ce sl (pc + 3) lv st S T) : Sat G l y cc nL rt t mc ms ce sl pc lv (.int a :: st) S T :=
  fun p e s m args below meth c H locs ls hC hH hL => lv_if_ne hC.1 hC.2.1 hd ht (fun h => K1 h p e s m args below meth c H locs ls hC hH hL) (fun h => K2 h p e s m args below meth c H locs ls hC hH hL)
theorem r_if_lt {a : Int32} {off : Int} {tgt : Nat} (hd : decode cc pc = .ok (.ifCond .lt off, 3)) (ht : (pc : Int) + off = (tgt : Int)) (K1 : a < 0 → Sat G l y cc nL rt t mc ms ce sl tgt lv st S T) (K2 : ¬ a < 0 → Sat G l y cc nL rt t mc ms ce sl (pc + 3) lv st S T) : Sat G l y cc nL rt t mc ms ce sl pc lv (.int a :: st) S T :=
  fun p e s m args below meth c H locs ls hC hH hL => lv_if_lt hC.1 hC.2.1 hd ht (fun h => K1 h p e s m args below meth c H locs ls hC hH hL) (fun h => K2 h p e s m args below meth c H locs ls hC hH hL)
theorem r_if_ge {a : Int32} {off : Int} {tgt : Nat} (hd : decode cc pc = .ok (.ifCond .ge off, 3)) (ht : (pc : Int) + off = (tgt : Int)) (K1 : 0 ≤ a → Sat G l y cc nL rt t mc ms ce sl tgt lv st S T) (K2 : ¬ 0 ≤ a → Sat G l y cc nL rt t mc ms ce sl (pc + 3) lv st S T) : Sat G l y cc nL rt t mc ms ce sl pc lv (.int a :: st) S T :=
  fun p e s m args below meth c H locs ls hC hH hL => lv_if_ge hC.1 hC.2.1 hd ht (fun h => K1 h p e s m args below meth c H locs ls hC hH hL) (fun h => K2 h p e s m args below meth c H locs ls hC hH hL)
theorem r_if_gt {a : Int32} {off : Int} {tgt : Nat} (hd : decode cc pc = .ok (.ifCond .gt off, 3)) (ht : (pc : Int) + off = (tgt : Int)) (K1 : 0 < a → Sat G l y cc nL rt t mc ms ce sl tgt lv st S T) (K2 : ¬ 0 < a → Sat G l y cc nL rt t mc ms ce sl (pc + 3) lv st S T) : Sat G l y cc nL rt t mc ms ce sl pc lv (.int a :: st) S T :=
  fun p e s m args below meth c H locs ls hC hH hL => lv_if_gt hC.1 hC.2.1 hd ht (fun h => K1 h p e s m args below meth c H locs ls hC hH hL) (fun h => K2 h p e s m args below meth c H locs ls hC hH hL)
theorem r_if_le {a : Int32} {off : Int} {tgt : Nat} (hd : decode cc pc = .ok (.ifCond .le off, 3)) (ht : (pc : Int) + off = (tgt : Int)) (K1 : a ≤ 0 → Sat G l y cc nL rt t mc ms ce sl tgt lv st S T) (K2 : ¬ a ≤ 0 → Sat G l y cc nL rt t mc ms ce sl (pc + 3) lv st S T) : Sat G l y cc nL rt t mc ms ce sl pc lv (.int a :: st) S T :=
  fun p e s m args below meth c H locs ls hC hH hL => lv_if_le hC.1 hC.2.1 hd ht (fun h => K1 h p e s m args below meth c H locs ls hC hH hL) (fun h => K2 h p e s m args below meth c H locs ls hC hH hL)
theorem r_icmp_eq {a b : Int32} {off : Int} {tgt : Nat} (hd : decode cc pc = .ok (.if_icmp .eq off, 3)) (ht : (pc : Int) + off = (tgt : Int)) (K1 : a = b → Sat G l y cc nL rt t mc ms ce sl tgt lv st S T) (K2 : ¬ a = b → Sat G l y cc nL rt t mc ms ce sl (pc + 3) lv st S T) : Sat G l y cc nL rt t mc ms ce sl pc lv (.int b :: .int a :: st) S T :=
  fun p e s m args below meth c H locs ls hC hH hL => lv_icmp_eq hC.1 hC.2.1 hd ht (fun h => K1 h p e s m args below meth c H locs ls hC hH hL) (fun h => K2 h p e s m args below meth c H locs ls hC hH hL)
theorem r_icmp_ne {a b : Int32} {off : Int} {tgt : Nat} (hd : decode cc pc = .ok (.if_icmp .ne off, 3)) (ht : (pc : Int) + off = (tgt : Int)) (K1 : ¬ a = b → Sat G l y cc nL rt t mc ms ce sl tgt lv st S T) (K2 : a = b → Sat G l y cc nL rt t mc ms ce sl (pc + 3) lv st S T) : Sat G l y cc nL rt t mc ms ce sl pc lv (.int b :: .int a :: st) S T :=
  fun p e s m args below meth c H locs ls hC hH hL => lv_icmp_ne hC.1 hC.2.1 hd ht (fun h => K1 h p e s m args below meth c H locs ls hC hH hL) (fun h => K2 h p e s m args below meth c H locs ls hC hH hL)
theorem r_icmp_lt {a b : Int32} {off : Int} {tgt : Nat} (hd : decode cc pc = .ok (.if_icmp .lt off, 3)) (ht : (pc : Int) + off = (tgt : Int)) (K1 : a < b → Sat G l y cc nL rt t mc ms ce sl tgt lv st S T) (K2 : ¬ a < b → Sat G l y cc nL rt t mc ms ce sl (pc + 3) lv st S T) : Sat G l y cc nL rt t mc ms ce sl pc lv (.int b :: .int a :: st) S T :=
  fun p e s m args below meth c H locs ls hC hH hL => lv_icmp_lt hC.1 hC.2.1 hd ht (fun h => K1 h p e s m args below meth c H locs ls hC hH hL) (fun h => K2 h p e s m args below meth c H locs ls hC hH hL)
theorem r_icmp_ge {a b : Int32} {off : Int} {tgt : Nat} (hd : decode cc pc = .ok (.if_icmp .ge off, 3)) (ht : (pc : Int) + off = (tgt : Int)) (K1 : b ≤ a → Sat G l y cc nL rt t mc ms ce sl tgt lv st S T) (K2 : ¬ b ≤ a → Sat G l y cc nL rt t mc ms ce sl (pc + 3) lv st S T) : Sat G l y cc nL rt t mc ms ce sl pc lv (.int b :: .int a :: st) S T :=
  fun p e s m args below meth c H locs ls hC hH hL => lv_icmp_ge hC.1 hC.2.1 hd ht (fun h => K1 h p e s m args below meth c H locs ls hC hH hL) (fun h => K2 h p e s m args below meth c H locs ls hC hH hL)
theorem r_icmp_gt {a b : Int32} {off : Int} {tgt : Nat} (hd : decode cc pc = .ok (.if_icmp .gt off, 3)) (ht : (pc : Int) + off = (tgt : Int)) (K1 : b < a → Sat G l y cc nL rt t mc ms ce sl tgt lv st S T) (K2 : ¬ b < a → Sat G l y cc nL rt t mc ms ce sl (pc + 3) lv st S T) : Sat G l y cc nL rt t mc ms ce sl pc lv (.int b :: .int a :: st) S T :=
  fun p e s m args below meth c H locs ls hC hH hL => lv_icmp_gt hC.1 hC.2.1 hd ht (fun h => K1 h p e s m args below meth c H locs ls hC hH hL) (fun h => K2 h p e s m args below meth c H locs ls hC hH hL)
theorem r_icmp_le {a b : Int32} {off : Int} {tgt : Nat} (hd : decode cc pc = .ok (.if_icmp .le off, 3)) (ht : (pc : Int) + off = (tgt : Int)) (K1 : a ≤ b → Sat G l y cc nL rt t mc ms ce sl tgt lv st S T) (K2 : ¬ a ≤ b → Sat G l y cc nL rt t mc ms ce sl (pc + 3) lv st S T) : Sat G l y cc nL rt t mc ms ce sl pc lv (.int b :: .int a :: st) S T :=
  fun p e s m args below meth c H locs ls hC hH hL => lv_icmp_le hC.1 hC.2.1 hd ht (fun h => K1 h p e s m args below meth c H locs ls hC hH hL) (fun h => K2 h p e s m args below meth c H locs ls hC hH hL)
end
end
section
section
variable {G : Gt} {l : Launch} {y : MethodName} {cc : ByteArray} {nL : Nat} {rt : Option FieldType} {t mc ms ce sl pc : Nat} {lv st : List Value} {S : Mm} {T : Option Value × Mm}
/-! locals -/
def noL (lv : List Value) : Bool := lv.all (fun v => decide (v.category = 1))
def asc (z : Nat) : Nat → List Value → List (Nat × Value)
  | _, [] => []
  | i, v :: vs => if v = .null then asc z (i + 1) vs else (i, cv z v) :: asc z (i + 1) vs
theorem asc_mem {z : Nat} : ∀ (lv : List Value) (i : Nat) (q : Nat × Value), q ∈ asc z i lv ↔ ∃ (k : Nat) (v : Value), lv[k]? = some v ∧ v ≠ .null ∧ q = (i + k, cv z v)
  | [], i, q => by simp [asc]
  | w :: lv, i, q => by
    have ih := asc_mem (z := z) lv (i + 1) q
    rw [asc]
    constructor
    · intro h
      split at h
      · obtain ⟨k, v, h1, h2, h3⟩ := ih.mp h
        exact ⟨k + 1, v, by simpa using h1, h2, by rw [h3]; congr 1; omega⟩
      · next hw =>
        rcases List.mem_cons.mp h with h | h
        · exact ⟨0, w, rfl, hw, h⟩
        · obtain ⟨k, v, h1, h2, h3⟩ := ih.mp h
          exact ⟨k + 1, v, by simpa using h1, h2, by rw [h3]; congr 1; omega⟩
    · rintro ⟨k, v, h1, h2, h3⟩
      cases k with
      | zero =>
        simp at h1
        subst h1
        rw [if_neg h2, h3]
        exact List.mem_cons_self
      | succ k =>
        have h4 : q ∈ asc z (i + 1) lv := ih.mpr ⟨k, v, by simpa using h1, h2, by rw [h3]; congr 1; omega⟩
        split
        · exact h4
        · exact List.mem_cons_of_mem _ h4
theorem Lx.has {z : Nat} {ls : Array Slot} (h : Lx z ls nL lv) : lv_has ls nL (asc z 0 lv) := by
  refine ⟨h.1, h.2.1, fun q hq => ?_⟩
  obtain ⟨k, v, h1, h2, h3⟩ := (asc_mem lv 0 q).mp hq
  rw [h3]
  show ls[0 + k]? = _
  rw [Nat.zero_add]
  exact h.2.2 k v h1 h2
theorem Lx.of {z : Nat} {ls : Array Slot} {i : Nat} {v : Value} (hn : noL lv = true) (h : lv_has ls nL ((i, cv z v) :: (asc z 0 lv).filter (fun q => !(q.1 == i) && !(q.1 + 1 == i && q.2.category == 2)))) : Lx z ls nL (lv.set i v) := by
  refine ⟨h.1, h.2.1, fun k w hk hw => ?_⟩
  by_cases hki : k = i
  · subst hki
    have hl := (List.getElem?_eq_some_iff.mp hk).1
    rw [List.getElem?_set_self (by simpa using hl)] at hk
    cases hk
    exact h.2.2 (k, cv z v) List.mem_cons_self
  · rw [List.getElem?_set_ne (Ne.symm hki)] at hk
    refine h.2.2 (k, cv z w) (List.mem_cons_of_mem _ (List.mem_filter.mpr ⟨(asc_mem lv 0 _).mpr ⟨k, w, hk, hw, by rw [Nat.zero_add]⟩, ?_⟩))
    have hc : w.category = 1 := by
      have := List.all_eq_true.mp hn w (List.mem_of_getElem? hk)
      simpa using this
    simp [hki, cv_cat, hc]
theorem r_istore {k : Nat} {x : Int32} {lv' : List Value} (hd : decode cc pc = .ok (.istore k, 2)) (hk : k < nL) (hn : noL lv = true) (hl : lv.set k (.int x) = lv') (K : Sat G l y cc nL rt t mc ms ce sl (pc + 2) lv' st S T) : Sat G l y cc nL rt t mc ms ce sl pc lv (.int x :: st) S T := by
  subst hl
  exact fun p e s m args below meth c H locs ls hC hH hL => lv_istore hC.1 hC.2.1 hd hL.has hk rfl (fun ls' hl' => K p e s m args below meth c H locs ls' hC hH (Lx.of (v := .int x) hn hl'))
theorem r_istore_n {k : Fin 4} {x : Int32} {lv' : List Value} (hd : decode cc pc = .ok (.istore_n k, 1)) (hk : (k : Nat) < nL) (hn : noL lv = true) (hl : lv.set (k : Nat) (.int x) = lv') (K : Sat G l y cc nL rt t mc ms ce sl (pc + 1) lv' st S T) : Sat G l y cc nL rt t mc ms ce sl pc lv (.int x :: st) S T := by
  subst hl
  exact fun p e s m args below meth c H locs ls hC hH hL => lv_istore_n hC.1 hC.2.1 hd rfl hL.has hk rfl (fun ls' hl' => K p e s m args below meth c H locs ls' hC hH (Lx.of (v := .int x) hn hl'))
theorem r_astore {k : Nat} {x : Nat} {lv' : List Value} (hd : decode cc pc = .ok (.astore k, 2)) (hk : k < nL) (hn : noL lv = true) (hl : lv.set k (.ref x) = lv') (K : Sat G l y cc nL rt t mc ms ce sl (pc + 2) lv' st S T) : Sat G l y cc nL rt t mc ms ce sl pc lv (.ref x :: st) S T := by
  subst hl
  exact fun p e s m args below meth c H locs ls hC hH hL => lv_astore hC.1 hC.2.1 hd hL.has hk rfl (fun ls' hl' => K p e s m args below meth c H locs ls' hC hH (Lx.of (v := .ref x) hn hl'))
theorem r_astore_n {k : Fin 4} {x : Nat} {lv' : List Value} (hd : decode cc pc = .ok (.astore_n k, 1)) (hk : (k : Nat) < nL) (hn : noL lv = true) (hl : lv.set (k : Nat) (.ref x) = lv') (K : Sat G l y cc nL rt t mc ms ce sl (pc + 1) lv' st S T) : Sat G l y cc nL rt t mc ms ce sl pc lv (.ref x :: st) S T := by
  subst hl
  exact fun p e s m args below meth c H locs ls hC hH hL => lv_astore_n hC.1 hC.2.1 hd rfl hL.has hk rfl (fun ls' hl' => K p e s m args below meth c H locs ls' hC hH (Lx.of (v := .ref x) hn hl'))
theorem r_iinc {k : Nat} {n : Int} {x v : Int32} {lv' : List Value} (hd : decode cc pc = .ok (.iinc k n, 3)) (hx : lv[k]? = some (.int x)) (hv : Int32.ofInt n = v) (hk : k < nL) (hn : noL lv = true) (hl : lv.set k (.int (x + v)) = lv') (K : Sat G l y cc nL rt t mc ms ce sl (pc + 3) lv' st S T) : Sat G l y cc nL rt t mc ms ce sl pc lv st S T := by
  subst hl
  intro p e s m args below meth c H locs ls hC hH hL
  obtain ⟨j, hj⟩ := List.getElem?_of_mem ((asc_mem (z := G.1) lv 0 (k, .int x)).mpr ⟨k, .int x, hx, by simp, by rw [Nat.zero_add]; rfl⟩)
  exact lv_iinc (v := x + v) hC.1 hC.2.1 hd hL.has hj (by rw [hv]) hk rfl (fun ls' hl' => K p e s m args below meth c H locs ls' hC hH (Lx.of (v := .int (x + v)) hn hl'))
/-- the locals that are no more used are forgotten -/
theorem r_lv {lv' : List Value} (h : ∀ k : Nat, lv'[k]? = lv[k]? ∨ lv'[k]? = some .null) (K : Sat G l y cc nL rt t mc ms ce sl pc lv' st S T) : Sat G l y cc nL rt t mc ms ce sl pc lv st S T :=
  fun p e s m args below meth c H locs ls hC hH hL => K p e s m args below meth c H locs ls hC hH ⟨hL.1, hL.2.1, fun k v hk hv => by
    rcases h k with h | h
    · exact hL.2.2 k v (h.symm.trans hk) hv
    · exact absurd (Option.some.inj (hk.symm.trans h)) hv⟩
theorem r_widen {ce' sl' : Nat} (h1 : ce ≤ ce') (h2 : sl ≤ sl') (K : Sat G l y cc nL rt t mc ms ce' sl' pc lv st S T) : Sat G l y cc nL rt t mc ms ce sl pc lv st S T :=
  fun p e s m args below meth c H locs ls hC hH hL => W.widen h1 h2 (K p e s m args below meth c H locs ls hC hH hL)
/-! returns -/
theorem r_ireturn {x : Int32} (hd : decode cc pc = .ok (.ireturn, 1)) (hr : rt = some .int) (h1 : ce ≤ mc) (h2 : sl ≤ ms) (hT : (some (.int x), S) = T) : Sat G l y cc nL rt t mc ms ce sl pc lv [.int x] S T := by
  subst hT
  exact fun p e s m args below meth c H locs ls hC hH hL => W.widen h1 h2 (W.iret hC.1 hC.2.1 (hC.2.2.1.trans hr) (fun t ht hW => ⟨⟨rfl, by rw [ht]; exact hH.1, by rw [ht]; exact hH.2.1⟩, hH.2.2.F ht⟩) hH.2.2.2.2 hd hC.2.2.2.2.2.2.1)
theorem r_zreturn {x x' : Int32} (hd : decode cc pc = .ok (.ireturn, 1)) (hr : rt = some .boolean) (h1 : ce ≤ mc) (h2 : sl ≤ ms) (hx : rB x = some x') (hT : (some (.int x'), S) = T) : Sat G l y cc nL rt t mc ms ce sl pc lv [.int x] S T := by
  subst hT
  obtain ⟨hb, hx⟩ := oif hx
  cases hx
  have hn : narrow .boolean (.int x) = .int x := by
    simp only [Bool.or_eq_true, beq_iff_eq] at hb
    rcases hb with rfl | rfl <;> rfl
  exact fun p e s m args below meth c H locs ls hC hH hL => W.widen h1 h2 (W.zret hC.1 hC.2.1 (hC.2.2.1.trans hr) hn (fun t ht hW => ⟨⟨rfl, by rw [ht]; exact hH.1, by rw [ht]; exact hH.2.1⟩, hH.2.2.F ht⟩) hH.2.2.2.2 hd hC.2.2.2.2.2.2.1)
theorem r_return (hd : decode cc pc = .ok (.return_, 1)) (hr : rt = none) (h1 : ce ≤ mc) (h2 : sl ≤ ms) (hT : (none, S) = T) : Sat G l y cc nL rt t mc ms ce sl pc lv [] S T := by
  subst hT
  exact fun p e s m args below meth c H locs ls hC hH hL => W.widen h1 h2 (W.vret hC.1 hC.2.1 (hC.2.2.1.trans hr) (fun t ht hW => ⟨⟨rfl, by rw [ht]; exact hH.1, by rw [ht]; exact hH.2.1⟩, hH.2.2.F ht⟩) hH.2.2.2.2 hd hC.2.2.2.2.2.2.1)
theorem r_areturn {a : Nat} {C : String} (hd : decode cc pc = .ok (.areturn, 1)) (hr : rt = some (.object C)) (h1 : ce ≤ mc) (h2 : sl ≤ ms) (hT : (some (.ref a), S) = T) : Sat G l y cc nL rt t mc ms ce sl pc lv [.ref a] S T := by
  subst hT
  exact fun p e s m args below meth c H locs ls hC hH hL => W.widen h1 h2 (W.aret hC.1 hC.2.1 (hC.2.2.1.trans hr) (Or.inl ⟨_, rfl⟩) (Or.inr ⟨_, rfl⟩) (fun t ht hW => ⟨⟨rfl, by rw [ht]; exact hH.1, by rw [ht]; exact hH.2.1⟩, hH.2.2.F ht⟩) hH.2.2.2.2 hd hC.2.2.2.2.2.2.1)
/-! arrays -/
theorem okc_s {a ci : Nat} (h : okc S a ci = true) : a < mX S ∧ mC S a = ci := by simpa [okc] using h
theorem okF_s {a : Nat} (h : okF S a = true) : a < mX S ∧ isF (mC S a) = true := by simpa [okF] using h
theorem inb_s {i : Int32} {n : Nat} (h : inb i n = true) : vp_in i n := by
  simp only [inb, Bool.and_eq_true, decide_eq_true_eq] at h
  intro q
  rcases q with q | q
  · exact absurd q (Int32.not_lt.mpr h.1)
  · omega
theorem cE_arr {a : Nat} (h : okc S a 100 = true) : (cW G S)[a]? = some (G.1 + a, .inl (G.2.2.1, mN S a, .inl (mI S a))) := by
  obtain ⟨h1, h2⟩ := okc_s h
  rw [cW_at h1, cE, if_pos h2]
theorem cE_rar {a : Nat} (h : okc S a 101 = true) : (cW G S)[a]? = some (G.1 + a, .inl (G.2.2.2, mN S a, .inr (.inr (.inr (.inr (fun j => (mR S a j).map (fun r => G.1 + r))))))) := by
  obtain ⟨h1, h2⟩ := okc_s h
  rw [cW_at h1, cE, if_neg (by omega), if_pos h2]
theorem r_iaload {a : Nat} {i x : Int32} (hd : decode cc pc = .ok (.iaload, 1)) (h : aI S a i = some x) (K : Sat G l y cc nL rt t mc ms ce sl (pc + 1) lv (.int x :: st) S T) : Sat G l y cc nL rt t mc ms ce sl pc lv (.int i :: .ref a :: st) S T := by
  obtain ⟨hb, hx⟩ := oif h
  cases hx
  simp only [Bool.and_eq_true] at hb
  exact fun p e s m args below meth c H locs ls hC hH hL => va_iald (D := G.2.1) (tys := tyG G) hC.1 hC.2.1 hC.2.2.2.2.2.2.2.2.1 hH.1 a 0 (cE_arr hb.1) rfl (inb_s hb.2) hd (K p e s m args below meth c H locs ls hC hH hL)
theorem r_aaload {a r : Nat} {i : Int32} (hd : decode cc pc = .ok (.aaload, 1)) (h : aR S a i = some r) (K : Sat G l y cc nL rt t mc ms ce sl (pc + 1) lv (.ref r :: st) S T) : Sat G l y cc nL rt t mc ms ce sl pc lv (.int i :: .ref a :: st) S T := by
  obtain ⟨hb, hx⟩ := oif h
  simp only [Bool.and_eq_true] at hb
  intro p e s m args below meth c H locs ls hC hH hL
  refine va_aldq (D := G.2.1) (tys := tyG G) hC.1 hC.2.1 hC.2.2.2.2.2.2.2.2.1 hH.1 a 1 (cE_rar hb.1) rfl (inb_s hb.2) hd ?_
  rw [hx]
  exact K p e s m args below meth c H locs ls hC hH hL
theorem r_alen {a : Nat} {x : Int32} (hd : decode cc pc = .ok (.arraylength, 1)) (h : aL S 100 a = some x) (K : Sat G l y cc nL rt t mc ms ce sl (pc + 1) lv (.int x :: st) S T) : Sat G l y cc nL rt t mc ms ce sl pc lv (.ref a :: st) S T := by
  obtain ⟨hb, hx⟩ := oif h
  cases hx
  exact fun p e s m args below meth c H locs ls hC hH hL => va_alen (D := G.2.1) (tys := tyG G) hC.1 hC.2.1 hC.2.2.2.2.2.2.2.2.1 hH.1 a 0 (cE_arr hb) rfl rfl hd (K p e s m args below meth c H locs ls hC hH hL)
theorem r_alenR {a : Nat} {x : Int32} (hd : decode cc pc = .ok (.arraylength, 1)) (h : aL S 101 a = some x) (K : Sat G l y cc nL rt t mc ms ce sl (pc + 1) lv (.int x :: st) S T) : Sat G l y cc nL rt t mc ms ce sl pc lv (.ref a :: st) S T := by
  obtain ⟨hb, hx⟩ := oif h
  cases hx
  exact fun p e s m args below meth c H locs ls hC hH hL => va_alen (D := G.2.1) (tys := tyG G) hC.1 hC.2.1 hC.2.2.2.2.2.2.2.2.1 hH.1 a 1 (cE_rar hb) rfl rfl hd (K p e s m args below meth c H locs ls hC hH hL)
theorem mI_sI {a j : Nat} {v : Int32} : mI (sI S a j v) = u2 (mI S) a j v := rfl
theorem cE_sI {a j k : Nat} {v : Int32} (hk : k ≠ a) : cE G (sI S a j v) k = cE G S k :=
  cE_congr (by funext q; simp [mI_sI, u2, hk]) rfl rfl rfl
theorem mR_sR {a j : Nat} {v : Option Nat} : mR (sR S a j v) = u2 (mR S) a j v := rfl
theorem cE_sR {a j k : Nat} {v : Option Nat} (hk : k ≠ a) : cE G (sR S a j v) k = cE G S k :=
  cE_congr rfl (by funext q; simp [mR_sR, u2, hk]) rfl rfl
theorem cW_put {a : Nat} {E0 E : va_E} {S' : Mm} {s : State} {H H1 : Heap} {locs : List Loc} {j : Nat} (hH : Hx G S s H locs) (h0 : (cW G S)[a]? = some (G.1 + a, E0)) (hX : mX S' = mX S) (ho : ∀ k, k ≠ a → cE G S' k = cE G S k) (ha : cE G S' a = E) (he : va_at G.2.1 vwCl (G.1 + a, E) H1) (z : H1.size = H.size) (oq : ∀ q : Nat, q ≠ G.1 + a → H1[q]? = H[q]?) : Hx G S' s H1 (locs ++ [⟨G.1 + a, j⟩]) := by
  refine ⟨?_, ?_, hH.2.2.put z oq (Nat.le_add_right _ _)⟩
  · rw [← cW_set (S := S) (S' := S') (a := a) (E := E) hX ho ha]
    exact hH.1.set cW_D h0 he oq
  · rw [z, hX]; exact hH.2.1
theorem r_iastore {a : Nat} {i x : Int32} {S' : Mm} (hd : decode cc pc = .ok (.iastore, 1)) (h : aS S a i x = some S') (K : Sat G l y cc nL rt t mc ms ce sl (pc + 1) lv st S' T) : Sat G l y cc nL rt t mc ms ce sl pc lv (.int x :: .int i :: .ref a :: st) S T := by
  obtain ⟨hb, hx⟩ := oif h
  cases hx
  simp only [Bool.and_eq_true] at hb
  intro p e s m args below meth c H locs ls hC hH hL
  have hin := inb_s hb.2
  have h0 := cE_arr (G := G) hb.1
  refine W.iast hC.1 hC.2.1 (hH.1 a _ h0) ((hC.2.2.2.2.2.2.2.2.1.2 0 _ rfl).1 (mN S a) (fun j => .int (mI S a j))) (fun q => by cases q) (by show ¬ (i < 0 ∨ (arrV _ _ _).slots.size ≤ _); rw [arrV_size]; exact hin) rfl rfl hd fun H1 e1 z oq => ?_
  refine K p e s m args below meth c H1 _ ls hC (cW_put hH h0 (S' := sI S a i.toNatClampNeg x) (E := .inl (G.2.2.1, mN S a, .inl (upd (mI S a) i.toNatClampNeg x))) rfl (fun k hk => cE_sI hk) ?_ ?_ z oq) hL
  · rw [cE, if_pos (show mC (sI S a i.toNatClampNeg x) a = 100 from (okc_s hb.1).2)]
    have hq : mI (sI S a i.toNatClampNeg x) a = upd (mI S a) i.toNatClampNeg x := by
      funext q
      simp [mI_sI, u2, upd]
    rw [hq]
    rfl
  · show H1[G.1 + a]? = some (vp_cell _ _)
    rw [e1]
    show some ((arrV G.2.2.1 (mN S a) (fun j => .int (mI S a j))).setSlot _ _) = _
    rw [vp_cell_i, arrV_store]
    congr 2
    funext q
    by_cases hq : q = i.toNatClampNeg <;> simp [updV, upd, hq]
/-! fields -/
/-- a field's place: the method's class, its pool number, the object's kind, the slot -/
def FS (own : String) (ix ci j : Nat) (fin : Bool) (ty : FieldType) : Prop := ∃ (C : String) (T : u_T) (N : Nat) (ref : String), vwCl[ci]? = some (C, T, N) ∧ j < N ∧ Cond.fieldLink own ix ref (T j).2.1 (T j).2.2.1 ∈ gtb ∧ (ref = (T j).1 ∨ Cond.sameField ref (T j).1 (T j).2.1 (T j).2.2.1 ∈ gtb) ∧ (T j).2.2.2 = fin ∧ parseFieldDescriptor (T j).2.2.1 = some ty
theorem cE_obj {a ci : Nat} (h : okc S a ci = true) (hc : ci < 100) : (cW G S)[a]? = some (G.1 + a, .inr (ci, cO G.1 S a 0 (fT ci))) := by
  obtain ⟨h1, h2⟩ := okc_s h
  rw [cW_at h1, cE, if_neg (by omega), if_neg (by omega), h2]
theorem ci_lt {ci : Nat} {q : vw_C} (h : vwCl[ci]? = some q) : ci < 100 := by
  have := (List.getElem?_eq_some_iff.mp h).1
  simp [vwCl] at this
  omega
theorem r_get {a ci j ix : Nat} {fin : Bool} {ty : FieldType} {v : Value} (hd : decode cc pc = .ok (.getfield ix, 3)) (hF : FS y.cls ix ci j fin ty) (ha : okc S a ci = true) (hv : (cO G.1 S a 0 (fT ci))[j]? = some (cv G.1 v)) (K : Sat G l y cc nL rt t mc ms ce sl (pc + 3) lv (v :: st) S T) : Sat G l y cc nL rt t mc ms ce sl pc lv (.ref a :: st) S T := by
  obtain ⟨C, TT, N, ref, h1, h2, h3, h4, h5, h6⟩ := hF
  intro p e s m args below meth c H locs ls hC hH hL
  have hts := hC.2.2.2.2.2.1
  refine va_get (D := G.2.1) (ci := ci) (C := C) (T := TT) (N := N) hC.1 hC.2.1 hts (fun w h => List.mem_cons_of_mem _ (uin h1 w h)) hC.2.2.2.2.1 hC.2.2.2.2.2.2.2.2.1 hH.1 a (cE_obj ha (ci_lt h1)) h1 j h2 (hts _ (List.mem_cons_of_mem _ h3)) (fun x hx => ?_) hv hd (K p e s m args below meth c H locs ls hC hH hL)
  rcases h4 with h4 | h4
  · rw [h4]; exact hx
  · exact u_same (hts _ (List.mem_cons_of_mem _ h4)) x hx
theorem r_getI {a ci j ix : Nat} {fin : Bool} {ty : FieldType} {x : Int32} (hd : decode cc pc = .ok (.getfield ix, 3)) (hF : FS y.cls ix ci j fin ty) (hj : (fT ci)[j]? = some false) (h : gI S ci a j = some x) (K : Sat G l y cc nL rt t mc ms ce sl (pc + 3) lv (.int x :: st) S T) : Sat G l y cc nL rt t mc ms ce sl pc lv (.ref a :: st) S T := by
  obtain ⟨hb, hx⟩ := oif h
  cases hx
  exact r_get hd hF hb (by rw [cO_at, hj]; simp [cS, cv]) K
theorem r_getR {a ci j ix r : Nat} {fin : Bool} {ty : FieldType} (hd : decode cc pc = .ok (.getfield ix, 3)) (hF : FS y.cls ix ci j fin ty) (hj : (fT ci)[j]? = some true) (h : gR S ci a j = some r) (K : Sat G l y cc nL rt t mc ms ce sl (pc + 3) lv (.ref r :: st) S T) : Sat G l y cc nL rt t mc ms ce sl pc lv (.ref a :: st) S T := by
  obtain ⟨hb, hx⟩ := oif h
  exact r_get hd hF hb (by rw [cO_at, hj]; simp [cS, cv, hx, va_rf]) K
theorem isF_c {c : Nat} (h : isF c = true) : c = 0 ∨ c = 2 ∨ c = 3 ∨ c = 4 ∨ c = 5 ∨ c = 8 := by
  simp only [isF, Bool.or_eq_true, beq_iff_eq] at h
  omega
/-- a field of a house of any kind -/
theorem r_getF {a j ix : Nat} {fin : Bool} {ty : FieldType} {x : Int32} (hd : decode cc pc = .ok (.getfield ix, 3)) (hF : ∀ ci, isF ci = true → FS y.cls ix ci j fin ty) (hj : j < 6) (h : gF S a j = some x) (K : Sat G l y cc nL rt t mc ms ce sl (pc + 3) lv (.int x :: st) S T) : Sat G l y cc nL rt t mc ms ce sl pc lv (.ref a :: st) S T := by
  obtain ⟨hb, hx⟩ := oif h
  obtain ⟨h1, h2⟩ := okF_s hb
  have hj2 : (fT (mC S a))[j]? = some false := by
    rcases isF_c h2 with h | h | h | h | h | h <;> rw [h] <;> (rcases (show j = 0 ∨ j = 1 ∨ j = 2 ∨ j = 3 ∨ j = 4 ∨ j = 5 by omega) with rfl | rfl | rfl | rfl | rfl | rfl <;> rfl)
  exact r_getI hd (hF _ h2) hj2 (by rw [gI, if_pos (by simp [okc, h1])]; exact hx) K
theorem r_put {a ci j ix : Nat} {ty : FieldType} {v : Value} {S' : Mm} (hd : decode cc pc = .ok (.putfield ix, 3)) (hF : FS y.cls ix ci j false ty) (ha : okc S a ci = true) (hn : narrow ty (cv G.1 v) = cv G.1 v) (hf : fits ty (cv G.1 v) = true) (hX : mX S' = mX S) (ho : ∀ k, k ≠ a → cE G S' k = cE G S k) (he : cE G S' a = .inr (ci, (cO G.1 S a 0 (fT ci)).set j (cv G.1 v))) (K : Sat G l y cc nL rt t mc ms ce sl (pc + 3) lv st S' T) : Sat G l y cc nL rt t mc ms ce sl pc lv (v :: .ref a :: st) S T := by
  obtain ⟨C, TT, N, ref, h1, h2, h3, h4, h5, h6⟩ := hF
  intro p e s m args below meth c H locs ls hC hH hL
  have hts := hC.2.2.2.2.2.1
  have hin : ∀ w ∈ u_ws C TT N, w ∈ Cond.code y cc nL rt :: gtb := fun w h => List.mem_cons_of_mem _ (uin h1 w h)
  have hK := hC.2.2.2.2.2.2.2.2.1
  have h0 := cE_obj (G := G) ha (ci_lt h1)
  have hap := va_apart (own := y.cls) hts hin (tyO ci) (tyO_ok h1).1 (tyO_ok h1).2 hK h1
  obtain ⟨r, g1, cell, q1, q2, q3, q4⟩ := hH.1 a _ h0
  cases g1.symm.trans h1
  obtain ⟨hS, hfc, kC, hkC, hkind⟩ := hK.1 ci _ h1
  obtain ⟨cf, kf, fi, f, hi, hsl⟩ := hS j h2
  have hlay := hts _ (hin _ (u_in_lay h2))
  unfold u_lay at hlay
  rw [if_neg (by rw [h5]; decide)] at hlay
  have hst := (u_facts hfc hkC (u_lays hts hin h2) hi).1
  have hstore := u_store hfc hkC hkind hlay hi h6 hn hf
  have hsame : ∀ x, s.fieldFound? (TT j).1 (TT j).2.1 (TT j).2.2.1 = some x → s.fieldFound? ref (TT j).2.1 (TT j).2.2.1 = some x := fun x hx => by
    rcases h4 with h4 | h4
    · rw [h4]; exact hx
    · exact u_same (hts _ (List.mem_cons_of_mem _ h4)) x hx
  refine W.putK hC.1 hC.2.1 (f := f) ⟨hC.2.2.2.2.1, hts _ (List.mem_cons_of_mem _ h3), ⟨_, _, _, hsame _ hi⟩, hst⟩ (by rw [q2]; exact hstore) q1 q3 (by rw [hsl]; exact k2_hasslot (q4 j h2)) rfl rfl hd fun H1 e1 e2 e3 => ?_
  rw [hsl] at e1 ⊢
  have hl : j < (cO G.1 S a 0 (fT ci)).length := by rw [cO_len, fT_len h1]; exact h2
  exact K p e s m args below meth c H1 _ ls hC (cW_put hH h0 hX ho he ⟨_, h1, t_OB.to (V := updV (vp_V (cO G.1 S a 0 (fT ci))) j (cv G.1 v)) ⟨_, e1, q2, q3, t_set q4 hap h2 _⟩ (fun k _ => vp_updV_set hl _ k)⟩ e2 e3) hL
theorem r_putF {a ci j ix : Nat} {ty : FieldType} {v : Value} {S' : Mm} (hd : decode cc pc = .ok (.putfield ix, 3)) (hF : FS y.cls ix ci j true ty) (hown : ∀ (C : String) (TT : u_T) (N : Nat), vwCl[ci]? = some (C, TT, N) → (TT j).1 = y.cls) (hy : y.name = "<init>") (ha : okc S a ci = true) (hn : narrow ty (cv G.1 v) = cv G.1 v) (hf : fits ty (cv G.1 v) = true) (hX : mX S' = mX S) (ho : ∀ k, k ≠ a → cE G S' k = cE G S k) (he : cE G S' a = .inr (ci, (cO G.1 S a 0 (fT ci)).set j (cv G.1 v))) (K : Sat G l y cc nL rt t mc ms ce sl (pc + 3) lv st S' T) : Sat G l y cc nL rt t mc ms ce sl pc lv (v :: .ref a :: st) S T := by
  obtain ⟨C, TT, N, ref, h1, h2, h3, h4, h5, h6⟩ := hF
  intro p e s m args below meth c H locs ls hC hH hL
  have hts := hC.2.2.2.2.2.1
  have hin : ∀ w ∈ u_ws C TT N, w ∈ Cond.code y cc nL rt :: gtb := fun w h => List.mem_cons_of_mem _ (uin h1 w h)
  have hK := hC.2.2.2.2.2.2.2.2.1
  have h0 := cE_obj (G := G) ha (ci_lt h1)
  have hap := va_apart (own := y.cls) hts hin (tyO ci) (tyO_ok h1).1 (tyO_ok h1).2 hK h1
  obtain ⟨r, g1, cell, q1, q2, q3, q4⟩ := hH.1 a _ h0
  cases g1.symm.trans h1
  obtain ⟨hS, hfc, kC, hkC, hkind⟩ := hK.1 ci _ h1
  obtain ⟨cf, kf, fi, f, hi, hsl⟩ := hS j h2
  have hlay := hts _ (hin _ (u_in_lay h2))
  unfold u_lay at hlay
  rw [if_pos h5] at hlay
  have hst := (u_facts hfc hkC (u_lays hts hin h2) hi).1
  have hcf : m.cls = cf := by
    obtain ⟨_, _, c', _, _, _, -, -, hf', -, -, -, hown2, -⟩ := Cond.laysFinal_spec hlay
    have e1 : c' = cf := by have := hi.symm.trans hf'; simp at this; exact this.1.symm
    rw [hown C TT N h1] at hown2
    rw [← e1]; exact Option.some.inj (hC.2.2.2.2.1.symm.trans hown2)
  have hfit := u_fits hfc hkC hkind (Or.inr hlay) hi h6 hn hf
  have hsame : ∀ x, s.fieldFound? (TT j).1 (TT j).2.1 (TT j).2.2.1 = some x → s.fieldFound? ref (TT j).2.1 (TT j).2.2.1 = some x := fun x hx => by
    rcases h4 with h4 | h4
    · rw [h4]; exact hx
    · exact u_same (hts _ (List.mem_cons_of_mem _ h4)) x hx
  refine W.putFinK hC.1 hC.2.1 hC.2.2.2.2.1 (hts _ (List.mem_cons_of_mem _ h3)) (hsame _ hi) hst hcf (hC.2.2.2.2.2.2.2.1.trans hy) (by rw [q2]; exact hfit) q1 q3 (by rw [hsl]; exact k2_hasslot (q4 j h2)) rfl rfl hd fun H1 e1 e2 e3 => ?_
  rw [hsl] at e1 ⊢
  have hl : j < (cO G.1 S a 0 (fT ci)).length := by rw [cO_len, fT_len h1]; exact h2
  exact K p e s m args below meth c H1 _ ls hC (cW_put hH h0 hX ho he ⟨_, h1, t_OB.to (V := updV (vp_V (cO G.1 S a 0 (fT ci))) j (cv G.1 v)) ⟨_, e1, q2, q3, t_set q4 hap h2 _⟩ (fun k _ => vp_updV_set hl _ k)⟩ e2 e3) hL
end
end
section
section
variable {G : Gt} {l : Launch} {y : MethodName} {cc : ByteArray} {nL : Nat} {rt : Option FieldType} {t mc ms ce sl pc : Nat} {lv st : List Value} {S : Mm} {T : Option Value × Mm}
theorem cO_sI {z a j : Nat} {v : Int32} : ∀ (ts : List Bool) (i : Nat), i ≤ j → ts[j - i]? = some false → cO z (sI S a j v) a i ts = (cO z S a i ts).set (j - i) (.int v)
  | [], i, hi, h => by simp at h
  | t :: ts, i, hi, h => by
    by_cases hij : j = i
    · subst hij
      rw [Nat.sub_self] at h ⊢
      simp at h
      subst h
      rw [cO, cO, List.set_cons_zero, cO_congr (S := S) (S' := sI S a j v) ts (j + 1) (fun k hk => by simp [mI_sI, u2]; omega) (fun k hk => rfl)]
      simp [cS, mI_sI, u2]
    · obtain ⟨d, hd⟩ : ∃ d, j - i = d + 1 := ⟨j - i - 1, by omega⟩
      rw [hd] at h ⊢
      have h2 : j - (i + 1) = d := by omega
      rw [List.getElem?_cons_succ] at h
      rw [cO, cO, List.set_cons_succ, cO_sI ts (i + 1) (by omega) (by rw [h2]; exact h), h2]
      congr 1
      simp [cS, mI_sI, u2, Ne.symm hij]
      rfl
theorem cO_sR {z a j r : Nat} : ∀ (ts : List Bool) (i : Nat), i ≤ j → ts[j - i]? = some true → cO z (sR S a j (some r)) a i ts = (cO z S a i ts).set (j - i) (.ref (z + r))
  | [], i, hi, h => by simp at h
  | t :: ts, i, hi, h => by
    by_cases hij : j = i
    · subst hij
      rw [Nat.sub_self] at h ⊢
      simp at h
      subst h
      rw [cO, cO, List.set_cons_zero, cO_congr (S := S) (S' := sR S a j (some r)) ts (j + 1) (fun k hk => rfl) (fun k hk => by simp [mR_sR, u2]; omega)]
      simp [cS, mR_sR, u2, va_rf]
    · obtain ⟨d, hd⟩ : ∃ d, j - i = d + 1 := ⟨j - i - 1, by omega⟩
      rw [hd] at h ⊢
      have h2 : j - (i + 1) = d := by omega
      rw [List.getElem?_cons_succ] at h
      rw [cO, cO, List.set_cons_succ, cO_sR ts (i + 1) (by omega) (by rw [h2]; exact h), h2]
      congr 1
      simp [cS, mR_sR, u2, Ne.symm hij]
      rfl
theorem cE_sIa {a ci j : Nat} {v : Int32} (h : okc S a ci = true) (hc : ci < 100) (hj : (fT ci)[j]? = some false) : cE G (sI S a j v) a = .inr (ci, (cO G.1 S a 0 (fT ci)).set j (.int v)) := by
  obtain ⟨h1, h2⟩ := okc_s h
  have h3 : mC (sI S a j v) a = ci := h2
  rw [cE, if_neg (by omega), if_neg (by omega), h3, cO_sI (fT ci) 0 (Nat.zero_le j) (by simpa using hj)]
  rfl
theorem cE_sRa {a ci j r : Nat} (h : okc S a ci = true) (hc : ci < 100) (hj : (fT ci)[j]? = some true) : cE G (sR S a j (some r)) a = .inr (ci, (cO G.1 S a 0 (fT ci)).set j (.ref (G.1 + r))) := by
  obtain ⟨h1, h2⟩ := okc_s h
  have h3 : mC (sR S a j (some r)) a = ci := h2
  rw [cE, if_neg (by omega), if_neg (by omega), h3, cO_sR (fT ci) 0 (Nat.zero_le j) (by simpa using hj)]
  rfl
theorem FS.lt {own : String} {ix ci j : Nat} {fin : Bool} {ty : FieldType} (h : FS own ix ci j fin ty) : ci < 100 := by
  obtain ⟨C, TT, N, ref, h1, -⟩ := h
  exact ci_lt h1
theorem r_putI {a ci j ix : Nat} {x : Int32} {S' : Mm} (hd : decode cc pc = .ok (.putfield ix, 3)) (hF : FS y.cls ix ci j false .int) (hj : (fT ci)[j]? = some false) (h : pI S ci a j x = some S') (K : Sat G l y cc nL rt t mc ms ce sl (pc + 3) lv st S' T) : Sat G l y cc nL rt t mc ms ce sl pc lv (.int x :: .ref a :: st) S T := by
  obtain ⟨hb, hx⟩ := oif h
  cases hx
  exact r_put (S' := sI S a j x) hd hF hb rfl rfl rfl (fun k hk => cE_sI hk) (cE_sIa hb hF.lt hj) K
theorem r_putB {a ci j ix : Nat} {x : Int32} {S' : Mm} (hd : decode cc pc = .ok (.putfield ix, 3)) (hF : FS y.cls ix ci j false .boolean) (hj : (fT ci)[j]? = some false) (h : pB S ci a j x = some S') (K : Sat G l y cc nL rt t mc ms ce sl (pc + 3) lv st S' T) : Sat G l y cc nL rt t mc ms ce sl pc lv (.int x :: .ref a :: st) S T := by
  obtain ⟨hb, hx⟩ := oif h
  cases hx
  simp only [Bool.and_eq_true, Bool.or_eq_true, beq_iff_eq] at hb
  have hn : narrow .boolean (.int x) = .int x := by rcases hb.2 with rfl | rfl <;> rfl
  have hf : fits .boolean (.int x) = true := by rcases hb.2 with rfl | rfl <;> rfl
  exact r_put (S' := sI S a j x) hd hF hb.1 hn hf rfl (fun k hk => cE_sI hk) (cE_sIa hb.1 hF.lt hj) K
theorem r_putR {a ci j ix r : Nat} {ty : FieldType} {S' : Mm} (hd : decode cc pc = .ok (.putfield ix, 3)) (hF : FS y.cls ix ci j false ty) (hj : (fT ci)[j]? = some true) (hn : ∀ k, narrow ty (.ref k) = .ref k) (hf : ∀ k, fits ty (.ref k) = true) (h : pR S ci a j r = some S') (K : Sat G l y cc nL rt t mc ms ce sl (pc + 3) lv st S' T) : Sat G l y cc nL rt t mc ms ce sl pc lv (.ref r :: .ref a :: st) S T := by
  obtain ⟨hb, hx⟩ := oif h
  cases hx
  exact r_put (S' := sR S a j (some r)) hd hF hb (hn _) (hf _) rfl (fun k hk => cE_sR hk) (cE_sRa hb hF.lt hj) K
/-- a final reference, in the constructor -/
theorem r_putFR {a ci j ix r : Nat} {ty : FieldType} {S' : Mm} (hd : decode cc pc = .ok (.putfield ix, 3)) (hF : FS y.cls ix ci j true ty) (hown : ∀ (C : String) (TT : u_T) (N : Nat), vwCl[ci]? = some (C, TT, N) → (TT j).1 = y.cls) (hy : y.name = "<init>") (hj : (fT ci)[j]? = some true) (hn : ∀ k, narrow ty (.ref k) = .ref k) (hf : ∀ k, fits ty (.ref k) = true) (h : pR S ci a j r = some S') (K : Sat G l y cc nL rt t mc ms ce sl (pc + 3) lv st S' T) : Sat G l y cc nL rt t mc ms ce sl pc lv (.ref r :: .ref a :: st) S T := by
  obtain ⟨hb, hx⟩ := oif h
  cases hx
  exact r_putF (S' := sR S a j (some r)) hd hF hown hy hb (hn _) (hf _) rfl (fun k hk => cE_sR hk) (cE_sRa hb hF.lt hj) K
/-- a final int of a house of any kind, in House's constructor -/
theorem r_putFF {a j ix : Nat} {x : Int32} {S' : Mm} (hd : decode cc pc = .ok (.putfield ix, 3)) (hF : ∀ ci, isF ci = true → FS y.cls ix ci j true .int) (hown : ∀ ci, isF ci = true → ∀ (C : String) (TT : u_T) (N : Nat), vwCl[ci]? = some (C, TT, N) → (TT j).1 = y.cls) (hy : y.name = "<init>") (hj : j < 6) (h : pF S a j x = some S') (K : Sat G l y cc nL rt t mc ms ce sl (pc + 3) lv st S' T) : Sat G l y cc nL rt t mc ms ce sl pc lv (.int x :: .ref a :: st) S T := by
  obtain ⟨hb, hx⟩ := oif h
  cases hx
  obtain ⟨h1, h2⟩ := okF_s hb
  have hj2 : (fT (mC S a))[j]? = some false := by
    rcases isF_c h2 with h | h | h | h | h | h <;> rw [h] <;> (rcases (show j = 0 ∨ j = 1 ∨ j = 2 ∨ j = 3 ∨ j = 4 ∨ j = 5 by omega) with rfl | rfl | rfl | rfl | rfl | rfl <;> rfl)
  have hc : okc S a (mC S a) = true := by simp [okc, h1]
  exact r_putF (S' := sI S a j x) hd (hF _ h2) (hown _ h2) hy hc rfl rfl rfl (fun k hk => cE_sI hk) (cE_sIa hc (hF _ h2).lt hj2) K
/-! new cells -/
theorem mX_nC {ci n : Nat} : mX (nC S ci n) = mX S + 1 := rfl
theorem cE_nC {ci n k : Nat} (hk : k ≠ mX S) : cE G (nC S ci n) k = cE G S k :=
  cE_congr (by show va_up S.1 (mX S) _ k = _; rw [va_up_ne _ _ hk]; rfl) (by show va_up S.2.1 (mX S) _ k = _; rw [va_up_ne _ _ hk]; rfl) (by show va_up S.2.2.1 (mX S) _ k = _; rw [va_up_ne _ _ hk]; rfl) (by show va_up S.2.2.2.1 (mX S) _ k = _; rw [va_up_ne _ _ hk]; rfl)
theorem cW_new {ci n : Nat} {s : State} {H H1 : Heap} {locs : List Loc} (hH : Hx G S s H locs) (hz : G.1 ≤ s.heap.size) (z1 : H1.size = H.size + 1) (o1 : ∀ q : Nat, q < H.size → H1[q]? = H[q]?) (he : va_at G.2.1 vwCl (G.1 + mX S, cE G (nC S ci n) (mX S)) H1) : Hx G (nC S ci n) s H1 locs := by
  refine ⟨fun k q hk => ?_, by rw [z1, hH.2.1, mX_nC]; omega, ⟨Nat.le_trans hH.2.2.1 (by omega), fun x h1 h2 => (o1 x (Nat.lt_of_lt_of_le h1 hH.2.2.1)).trans (hH.2.2.2.1 x h1 h2), hH.2.2.2.2⟩⟩
  obtain ⟨hl, rfl⟩ := cW_lt hk
  rw [mX_nC] at hl
  by_cases hkx : k = mX S
  · subst hkx
    exact he
  · rw [cE_nC hkx]
    exact (hH.1 k _ (cW_at (by omega))).kept (o1 _ (by rw [hH.2.1]; show G.1 + k < _; omega))
/-- how a class may be made here -/
def NS (own : String) (ix ci : Nat) (N : Nat) : Prop := ∃ (C : String) (T : u_T), vwCl[ci]? = some (C, T, N) ∧ Cond.classLink own ix C ∈ gtb ∧ Cond.instantiable C N ∈ gtb ∧ Cond.initialized C ∈ gtb
def dfl (t : Bool) : Value := if t = true then .null else .int 0
theorem cO_new {z a : Nat} : ∀ (ts : List Bool) (i : Nat), (∀ j, mI S a j = 0) → (∀ j, mR S a j = none) → cO z S a i ts = ts.map dfl
  | [], i, _, _ => rfl
  | t :: ts, i, h1, h2 => by
    rw [cO, List.map_cons, cO_new ts (i + 1) h1 h2, cS, h1, h2]
    cases t <;> rfl
theorem dfl_ok {ci : Nat} {q : vw_C} (h : vwCl[ci]? = some q) : ∀ j, j < q.2.2 → defaultValue (tyO ci j) = vp_V ((fT ci).map dfl) j := by
  have key : ∀ (n : Nat) (f g : Nat → Value), (List.range n).all (fun j => decide (f j = g j)) = true → ∀ j, j < n → f j = g j := fun n f g h j hj => by
    have := List.all_eq_true.mp h j (List.mem_range.mpr hj)
    simpa using this
  match ci, h with
  | 0, h => cases h; exact key _ _ _ (by decide +kernel)
  | 1, h => cases h; exact key _ _ _ (by decide +kernel)
  | 2, h => cases h; exact key _ _ _ (by decide +kernel)
  | 3, h => cases h; exact key _ _ _ (by decide +kernel)
  | 4, h => cases h; exact key _ _ _ (by decide +kernel)
  | 5, h => cases h; exact key _ _ _ (by decide +kernel)
  | 6, h => cases h; exact key _ _ _ (by decide +kernel)
  | 7, h => cases h; exact key _ _ _ (by decide +kernel)
  | 8, h => cases h; exact key _ _ _ (by decide +kernel)
  | 9, h => cases h; exact key _ _ _ (by decide +kernel)
  | 10, h => cases h; exact key _ _ _ (by decide +kernel)
  | 11, h => cases h; exact key _ _ _ (by decide +kernel)
  | k + 12, h => simp [vwCl] at h
theorem r_new {ix ci N : Nat} (hd : decode cc pc = .ok (.new ix, 3)) (hN : NS y.cls ix ci N) (h1 : ce + 1 ≤ mc) (h2 : sl + N ≤ ms) (K : Sat G l y cc nL rt t mc ms (ce + 1) (sl + N) (pc + 3) lv (.ref (mX S) :: st) (nC S ci 0) T) : Sat G l y cc nL rt t mc ms ce sl pc lv st S T := by
  obtain ⟨C, TT, g1, g2, g3, g4⟩ := hN
  intro p e s m args below meth c H locs ls hC hH hL
  have hts := hC.2.2.2.2.2.1
  have hin : ∀ w ∈ u_ws C TT N, w ∈ Cond.code y cc nL rt :: gtb := fun w h => List.mem_cons_of_mem _ (uin g1 w h)
  have hKn := hC.2.2.2.2.2.2.2.2.1.1 ci _ g1
  refine W.newcK hC.1 hC.2.1 hC.2.2.2.2.1 (hts _ (List.mem_cons_of_mem _ g2)) (hts _ (List.mem_cons_of_mem _ g3)) (hts _ (List.mem_cons_of_mem _ g4)) rfl hd h1 h2 hKn.2.1 hH.2.1 fun H1 kC hkC e1 z1 o1 => ?_
  refine K p e s m args below meth c H1 locs ls hC (cW_new hH hC.2.2.2.2.2.2.2.2.2.2 (by rw [z1, hH.2.1]) (fun q hq => o1 q (by rw [← hH.2.1]; exact hq)) ?_) hL
  have hc : mC (nC S ci 0) (mX S) = ci := va_up_self _ _ _
  have hl := ci_lt g1
  rw [cE, if_neg (by omega), if_neg (by omega), hc, cO_new (S := nC S ci 0) (fT ci) 0 (fun j => by show va_up S.1 (mX S) _ (mX S) j = 0; rw [va_up_self]) (fun j => by show va_up S.2.1 (mX S) _ (mX S) j = none; rw [va_up_self])]
  exact ⟨_, g1, (u_born (tyO ci) hts hin hKn hkC e1 (tyO_ok g1).1).to (dfl_ok g1)⟩
theorem r_newarray {n : Int32} {N : Nat} (hd : decode cc pc = .ok (.newarray .int, 2)) (hw : Cond.arrayClass .int ∈ gtb) (hn : ¬ n < 0) (hN : n.toNatClampNeg = N) (hb : N * 4 ≤ 536870912) (h1 : ce + 1 ≤ mc) (h2 : sl + N ≤ ms) (K : Sat G l y cc nL rt t mc ms (ce + 1) (sl + N) (pc + 2) lv (.ref (mX S) :: st) (nC S 100 N) T) : Sat G l y cc nL rt t mc ms ce sl pc lv (.int n :: st) S T := by
  intro p e s m args below meth c H locs ls hC hH hL
  have hts := hC.2.2.2.2.2.1
  refine va_newaK (atype := .int) hC.1 hC.2.1 (hts _ (List.mem_cons_of_mem _ hw)) rfl hd rfl hn hN hb h1 h2 hH.2.1 fun H1 cA e1 z1 o1 hAr hNm => ?_
  have hcA : cA = G.2.2.1 := Option.some.inj (hNm.symm.trans (hC.2.2.2.2.2.2.2.2.1.2 0 _ rfl).2)
  subst hcA
  refine K p e s m args below meth c H1 locs ls hC (cW_new hH hC.2.2.2.2.2.2.2.2.2.2 (by rw [z1, hH.2.1]) (fun q hq => o1 q (by rw [← hH.2.1]; exact hq)) ?_) hL
  have hc : mC (nC S 100 N) (mX S) = 100 := va_up_self _ _ _
  have hm : mN (nC S 100 N) (mX S) = N := va_up_self _ _ _
  have hi : mI (nC S 100 N) (mX S) = fun _ => 0 := va_up_self _ _ _
  rw [cE, if_pos hc, hm, hi]
  exact e1
theorem r_anewarray {n : Int32} {N ix : Nat} (hd : decode cc pc = .ok (.anewarray ix, 3)) (hw : Cond.classLink y.cls ix "GoodsDownhill$House" ∈ gtb) (hn : ¬ n < 0) (hN : n.toNatClampNeg = N) (hb : N * 4 ≤ 536870912) (h1 : ce + 1 ≤ mc) (h2 : sl + N ≤ ms) (K : Sat G l y cc nL rt t mc ms (ce + 1) (sl + N) (pc + 3) lv (.ref (mX S) :: st) (nC S 101 N) T) : Sat G l y cc nL rt t mc ms ce sl pc lv (.int n :: st) S T := by
  intro p e s m args below meth c H locs ls hC hH hL
  have hts := hC.2.2.2.2.2.1
  subst hN
  refine W.anew hC.1 hC.2.1 hC.2.2.2.2.1 (hts _ (List.mem_cons_of_mem _ hw)) (va_AO.use hC.2.2.2.2.2.2.2.2.2.1.2.2) rfl hd rfl hn hb h1 h2 fun cA kA comp f1 f2 f3 f4 => ?_
  have hcA : cA = G.2.2.2 := by
    obtain ⟨kA', comp', k1, k2, k3, k4⟩ := (hC.2.2.2.2.2.2.2.2.1.2 1 _ rfl).2
    exact Option.some.inj (f1.symm.trans k4)
  subst hcA
  have hz := hH.2.1
  generalize hH1 : H.push ({ cls := G.2.2.2, slots := Array.replicate n.toNatClampNeg .null, vm := .none } : Cell) = H1
  have z1 : H1.size = H.size + 1 := by rw [← hH1, Array.size_push]
  have e1 : H1[H.size]? = some (arrV G.2.2.2 n.toNatClampNeg (fun _ => .null)) := by rw [← hH1, Array.getElem?_push_size, ← arrV_new]
  have o1 : ∀ q : Nat, q < H.size → H1[q]? = H[q]? := fun q hq => by rw [← hH1, Array.getElem?_push, if_neg (Nat.ne_of_lt hq)]
  rw [hz]
  refine K p e s m args below meth c H1 locs ls hC (cW_new hH hC.2.2.2.2.2.2.2.2.2.2 z1 o1 ?_) hL
  have hc : mC (nC S 101 n.toNatClampNeg) (mX S) = 101 := va_up_self _ _ _
  have hm : mN (nC S 101 n.toNatClampNeg) (mX S) = n.toNatClampNeg := va_up_self _ _ _
  have hi : mR (nC S 101 n.toNatClampNeg) (mX S) = fun _ => none := va_up_self _ _ _
  rw [cE, if_neg (by omega), if_pos hc, hm, hi, ← hz]
  exact e1
end
end
section
section
variable {G : Gt} {l : Launch} {y : MethodName} {cc : ByteArray} {nL : Nat} {rt : Option FieldType} {t mc ms ce sl pc : Nat} {lv st : List Value} {S : Mm} {T : Option Value × Mm}
theorem isF_name {ci : Nat} (h : isF ci = true) : ∃ (C : String) (TT : u_T), vwCl[ci]? = some (C, TT, 6) ∧ (C = "GoodsDownhill$House" ∨ C ∈ nwC) := by
  rcases isF_c h with h | h | h | h | h | h <;> subst h
  · exact ⟨RX0, TX0, rfl, Or.inr (by decide)⟩
  · exact ⟨RX2, TX2, rfl, Or.inr (by decide)⟩
  · exact ⟨RX3, TX3, rfl, Or.inr (by decide)⟩
  · exact ⟨RX4, TX4, rfl, Or.inl rfl⟩
  · exact ⟨RX5, TX5, rfl, Or.inr (by decide)⟩
  · exact ⟨RX8, TX8, rfl, Or.inr (by decide)⟩
theorem isF_lt {ci : Nat} (h : isF ci = true) : ci < 100 := by rcases isF_c h with h | h | h | h | h | h <;> omega
theorem r_aastore {a r : Nat} {i : Int32} {S' : Mm} (hd : decode cc pc = .ok (.aastore, 1)) (h : aQ S a i r = some S') (K : Sat G l y cc nL rt t mc ms ce sl (pc + 1) lv st S' T) : Sat G l y cc nL rt t mc ms ce sl pc lv (.ref r :: .int i :: .ref a :: st) S T := by
  obtain ⟨hb, hx⟩ := oif h
  cases hx
  simp only [Bool.and_eq_true] at hb
  obtain ⟨⟨hb1, hb2⟩, hb3⟩ := hb
  obtain ⟨r1, r2⟩ := okF_s hb3
  obtain ⟨C, TT, hcl, hC0⟩ := isF_name r2
  intro p e s m args below meth c H locs ls hC hH hL
  have hin := inb_s hb2
  have h0 := cE_rar (G := G) hb1
  have hlt : i.toNatClampNeg < mN S a := Nat.not_le.mp fun q => hin (Or.inr q)
  have hi0 : ¬ i < 0 := fun q => hin (Or.inl q)
  have hK := hC.2.2.2.2.2.2.2.2.1
  have hv := cE_obj (G := G) (S := S) (a := r) (ci := mC S r) (by simp [okc, r1]) (isF_lt r2)
  obtain ⟨r', hr', cellV, g1, g2, g3, -⟩ := hH.1 r _ hv
  have hcls := (hK.1 _ _ hcl).2
  obtain ⟨kA, comp, k1, k2, k3, -⟩ := (hK.2 1 _ rfl).2
  obtain ⟨kE, hkE, -⟩ := Vm.findClass_spec k3
  obtain ⟨kC, hkC, -⟩ := hcls.2
  have hasg : s.vm.assignable (G.2.1.1 (mC S r)) comp = true := by
    rcases hC0 with hC0 | hC0
    · have e1 : comp = G.2.1.1 (mC S r) := Option.some.inj (k3.symm.trans (by rw [← hC0]; exact hcls.1))
      rw [e1]
      exact Vm.assignable_self _ _
    · exact vb_asgC (hC.2.2.2.2.2.2.2.2.2.1.2.1 C hC0) comp _ k3 hcls.1
  refine W.aast hC.1 hC.2.1 (hH.1 a _ h0) (fun q h => by cases h) (fun h => by cases h) k1 k2 rfl hkE ⟨hi0, by show _ < (arrV _ _ _).slots.size; rw [arrV_size]; exact hlt⟩ g1 (fun q h => by rw [g3] at h; cases h) (by rw [g2]; exact hkC) (by rw [g2]; exact hasg) rfl rfl hd fun H1 e1 z oq => ?_
  refine K p e s m args below meth c H1 _ ls hC (cW_put hH h0 (S' := sR S a i.toNatClampNeg (some r)) (E := .inl (G.2.2.2, mN S a, .inr (.inr (.inr (.inr (va_up (fun j => (mR S a j).map (fun r => G.1 + r)) i.toNatClampNeg (some (G.1 + r)))))))) rfl (fun k hk => cE_sR hk) ?_ ?_ z oq) hL
  · have hc : mC (sR S a i.toNatClampNeg (some r)) a = 101 := (okc_s hb1).2
    rw [cE, if_neg (by omega), if_pos hc]
    have hq : (fun j => (mR (sR S a i.toNatClampNeg (some r)) a j).map (fun r => G.1 + r)) = va_up (fun j => (mR S a j).map (fun r => G.1 + r)) i.toNatClampNeg (some (G.1 + r)) := by
      funext q
      by_cases hq : q = i.toNatClampNeg <;> simp [mR_sR, u2, va_up, hq]
    rw [hq]
    rfl
  · show H1[G.1 + a]? = some (vp_cell _ _)
    rw [e1]
    show some ((arrV G.2.2.2 (mN S a) (fun j => va_rf ((mR S a j).map (fun r => G.1 + r)))).setSlot _ _) = _
    rw [vp_cell_q, arrV_store]
    congr 2
    funext q
    by_cases hq : q = i.toNatClampNeg <;> simp [updV, va_up, va_rf, hq]
theorem cE_sW {a k : Nat} {f : Nat → Int32} (hk : k ≠ a) : cE G (sW S a f) k = cE G S k :=
  cE_congr (by show va_up S.1 a f k = _; rw [va_up_ne _ _ hk]; rfl) rfl rfl rfl
def arrcw (own : String) (ix : Nat) : Prop := Cond.methodLink own ix arraycopyName ∈ gtb ∧ Cond.native arraycopyName ∈ gtb ∧ Cond.static arraycopyName ∈ gtb ∧ Cond.initialized "java/lang/System" ∈ gtb
theorem r_copy {a b ix : Nat} {sp dp n : Int32} {S' : Mm} (hd : decode cc pc = .ok (.invokestatic ix, 3)) (hw : arrcw y.cls ix) (h : aC S a sp b dp n = some S') (ht : 1 ≤ t) (hst : (st.map fun v => v.category).sum + (nativeFrameWords "java/lang/System" "arraycopy" 5 + 11) ≤ 40 * t) (K : Sat G l y cc nL rt t mc ms 0 sl (pc + 3) lv st S' T) : Sat G l y cc nL rt t mc ms 0 sl pc lv (.int n :: .int dp :: .ref b :: .int sp :: .ref a :: st) S T := by
  obtain ⟨hb, hx⟩ := oif h
  cases hx
  simp only [Bool.and_eq_true, decide_eq_true_eq] at hb
  obtain ⟨⟨⟨⟨⟨⟨b1, b2⟩, b3⟩, b4⟩, b5⟩, b6⟩, b7⟩ := hb
  intro p e s m args below meth c H locs ls hC hH hL
  have hts := hC.2.2.2.2.2.1
  have hw1 : ∀ w, w ∈ gtb → w.before args s = true := fun w h => hts _ (List.mem_cons_of_mem _ h)
  have hcat : ((st.map (cv G.1)).map fun v => v.category).sum = (st.map fun v => v.category).sum := by
    rw [List.map_map]; congr 1; exact List.map_congr_left (fun v _ => cv_cat v)
  intro T00 hT00 X00
  have hz0 : T00.heap.size ≤ s.heap.size + 0 := X00.same.2.2.1
  rw [hT00] at hz0
  refine (show W _ _ _ _ _ _ _ _ _ _ _ _ _ _ _ _ from va_copyi (D := G.2.1) (tys := tyG G) (ty := .int) hC.1 hC.2.1 (hC.2.2.2.1.trans hL.1.symm) hC.2.2.2.2.1 (hw1 _ hw.1) (hw1 _ hw.2.1) (hw1 _ hw.2.2.1) (hw1 _ hw.2.2.2) hC.2.2.2.2.2.2.2.2.1 hH.1 cW_D hH.2.2 a b 0 0 (cE_arr b1) (cE_arr b2) rfl rfl rfl (Int32.not_lt.mpr b3) (Int32.not_lt.mpr b4) (Int32.not_lt.mpr b5) b6 b7 (fun i hi => rfl) ht (by rw [hcat]; exact hst) hd (fun H1 locs1 hP hD hS => ?_)) T00 hT00 X00
  intro T0 hT0 X
  have hz1 : T0.heap.size ≤ s.heap.size + 0 := X.same.2.2.1
  have hz2 := hH.2.2.1
  have hz3 := hS.1
  rw [hT0] at hz1
  refine K p e s m args below meth c H1 locs1 ls hC ⟨?_, ?_, hS⟩ hL T0 hT0 X
  · rw [← cW_set (S := S) (S' := sW S b (va_cpy (mI S a) (mI S b) sp.toNatClampNeg dp.toNatClampNeg n.toNatClampNeg)) (a := b) (E := .inl (G.2.2.1, mN S b, .inl (va_cpy (mI S a) (mI S b) sp.toNatClampNeg dp.toNatClampNeg n.toNatClampNeg))) rfl (fun k hk => cE_sW hk) ?_]
    · exact hP
    · have hc : mC (sW S b (va_cpy (mI S a) (mI S b) sp.toNatClampNeg dp.toNatClampNeg n.toNatClampNeg)) b = 100 := (okc_s b2).2
      have hi : mI (sW S b (va_cpy (mI S a) (mI S b) sp.toNatClampNeg dp.toNatClampNeg n.toNatClampNeg)) b = va_cpy (mI S a) (mI S b) sp.toNatClampNeg dp.toNatClampNeg n.toNatClampNeg := va_up_self _ _ _
      rw [cE, if_pos hc, hi]
      rfl
  · have := hH.2.1
    show H1.size = G.1 + mX S
    omega
theorem r_min {ix : Nat} {a b : Int32} (hd : decode cc pc = .ok (.invokestatic ix, 3)) (hw : Cond.methodLink y.cls ix Lib.Math.min.name ∈ gtb ∧ Cond.static Lib.Math.min.name ∈ gtb ∧ Cond.initialized "java/lang/Math" ∈ gtb ∧ Cond.code Lib.Math.min.name Lib.Math.min.code 2 (some .int) ∈ gtb) (ht : 1 ≤ t) (hst : (st.map fun v => v.category).sum + 13 ≤ 40 * t) (h1 : ce ≤ mc) (h2 : sl ≤ ms) (K : Sat G l y cc nL rt t mc ms ce sl (pc + 3) lv (.int (mnI a b) :: st) S T) : Sat G l y cc nL rt t mc ms ce sl pc lv (.int b :: .int a :: st) S T := by
  intro p e s m args below meth c H locs ls hC hH hL
  have hts := hC.2.2.2.2.2.1
  have hw1 : ∀ w, w ∈ gtb → w.before args s = true := fun w h => hts _ (List.mem_cons_of_mem _ h)
  have hcat : ((st.map (cv G.1)).map fun v => v.category).sum = (st.map fun v => v.category).sum := by
    rw [List.map_map]; congr 1; exact List.map_congr_left (fun v _ => cv_cat v)
  exact va_mmin hC.1 hC.2.1 (hC.2.2.2.1.trans hL.1.symm) hC.2.2.2.2.1 (hw1 _ hw.1) (hw1 _ hw.2.1) (hw1 _ hw.2.2.1) (hw1 _ hw.2.2.2) ht (by rw [hcat]; exact hst) h1 h2 hd (K p e s m args below meth c H locs ls hC hH hL)
theorem r_max {ix : Nat} {a b : Int32} (hd : decode cc pc = .ok (.invokestatic ix, 3)) (hw : Cond.methodLink y.cls ix Lib.Math.max.name ∈ gtb ∧ Cond.static Lib.Math.max.name ∈ gtb ∧ Cond.initialized "java/lang/Math" ∈ gtb ∧ Cond.code Lib.Math.max.name Lib.Math.max.code 2 (some .int) ∈ gtb) (ht : 1 ≤ t) (hst : (st.map fun v => v.category).sum + 13 ≤ 40 * t) (h1 : ce ≤ mc) (h2 : sl ≤ ms) (K : Sat G l y cc nL rt t mc ms ce sl (pc + 3) lv (.int (mxI a b) :: st) S T) : Sat G l y cc nL rt t mc ms ce sl pc lv (.int b :: .int a :: st) S T := by
  intro p e s m args below meth c H locs ls hC hH hL
  have hts := hC.2.2.2.2.2.1
  have hw1 : ∀ w, w ∈ gtb → w.before args s = true := fun w h => hts _ (List.mem_cons_of_mem _ h)
  have hcat : ((st.map (cv G.1)).map fun v => v.category).sum = (st.map fun v => v.category).sum := by
    rw [List.map_map]; congr 1; exact List.map_congr_left (fun v _ => cv_cat v)
  exact va_mmax hC.1 hC.2.1 (hC.2.2.2.1.trans hL.1.symm) hC.2.2.2.2.1 (hw1 _ hw.1) (hw1 _ hw.2.1) (hw1 _ hw.2.2.1) (hw1 _ hw.2.2.2) ht (by rw [hcat]; exact hst) h1 h2 hd (K p e s m args below meth c H locs ls hC hH hL)
theorem r_objInit {ix a : Nat} (hd : decode cc pc = .ok (.invokespecial ix, 3)) (hw : Cond.methodLink y.cls ix Lib.objectInit ∈ gtb ∧ Cond.instanceMethod Lib.objectInit ∈ gtb ∧ Cond.code Lib.objectInit ⟨#[0xb1]⟩ 1 none ∈ gtb) (ht : 1 ≤ t) (hst : (st.map fun v => v.category).sum + 12 ≤ 40 * t) (K : Sat G l y cc nL rt t mc ms ce sl (pc + 3) lv st S T) : Sat G l y cc nL rt t mc ms ce sl pc lv (.ref a :: st) S T := by
  intro p e s m args below meth c H locs ls hC hH hL
  have hts := hC.2.2.2.2.2.1
  have hw1 : ∀ w, w ∈ gtb → w.before args s = true := fun w h => hts _ (List.mem_cons_of_mem _ h)
  have hcat : ((st.map (cv G.1)).map fun v => v.category).sum = (st.map fun v => v.category).sum := by
    rw [List.map_map]; congr 1; exact List.map_congr_left (fun v _ => cv_cat v)
  refine W.objInit hC.1 hC.2.1 hC.2.2.2.2.1 (hw1 _ hw.1) (hw1 _ hw.2.1) (hw1 _ hw.2.2) rfl (hL.1.trans hC.2.2.2.1.symm) rfl hd ht ?_ (K p e s m args below meth c H locs ls hC hH hL)
  show 2 * 0 + ((st.map (cv G.1)).map fun v => v.category).sum + 12 ≤ 40 * t
  rw [hcat]; omega
/-! calls -/
/-- what a call runs: the callee comes to R with the rest of the stack below its answer -/
theorem cc_go {p : Program} {e : Env} {s : State} {m : MethodId} {args : Array Value} {below : List Frame} {meth : Method} {c : Code} {H : Heap} {locs : List Loc} {ls : Array Slot} {R : Option Value × Mm} {mc' ms' : Nat} {a : Array Value} {st0 : List Value}
    (hr : va_Run p l e (rmm t mc ms) s m args below meth c H locs ce sl mc' ms' (F0 m pc ls st0) (st.map (cv G.1)) (Qm G R a) (fun q => G.1 ≤ q)) (hC : Cx G y cc nL rt p s m args meth c) (hH : Hx G S s H locs) (hL : Lx G.1 ls nL lv) (K : Sat G l y cc nL rt t mc ms (ce + mc') (sl + ms') (pc + 3) lv (R.1.toList ++ st) R.2 T) :
    W p l e (rmm t mc ms) s m args below meth c H locs ce sl (MQ below (Qm G T) args s mc ms (fun q => G.1 ≤ q)) (F0 m pc ls st0) := by
  intro T0 hT0 X
  obtain ⟨v, st₀, t1, T', L, h0, X', hL', e1, e2, ⟨⟨hv, hp, hb⟩, hz, hk⟩, stp⟩ := hr T0 hT0 X
  cases hv
  rw [h0] at hz hk
  obtain ⟨t2, a1, b1⟩ := K p e s m args below meth c T'.heap (locs ++ L) ls hC ⟨by rw [e1]; exact hp, by rw [e1]; exact hb, ⟨Nat.le_trans hH.2.2.1 (by rw [e1]; exact hz), fun q h1 h2 => by
      rw [e1, hk q (Nat.lt_of_lt_of_le h1 hH.2.2.1) h2]; exact hH.2.2.2.1 q h1 h2, fun q hq => by
      rcases List.mem_append.mp hq with h | h
      · exact hH.2.2.2.2 q h
      · exact hL' q h⟩⟩ hL T' rfl X'
  refine ⟨t2, stp t2 ?_, b1⟩
  have hm : (R.1.map (cv G.1)).toList ++ st.map (cv G.1) = (R.1.toList ++ st).map (cv G.1) := by cases R.1 <;> rfl
  rw [hm]
  exact a1
theorem cc_pre {as : List Value} {s : State} {H : Heap} {locs : List Loc} (hK : va_K G.2.1 vwCl (tyG G) s) (hN : NX s) (hH : Hx G S s H locs) : PreS s H (va_Pc (as.map (cv G.1)) (fun U => va_P G.2.1 vwCl (cW G S) U.heap ∧ U.heap.size = G.1 + mX S ∧ va_K G.2.1 vwCl (tyG G) U ∧ NX U)) (as.map (cv G.1)) :=
  ⟨fun a U g mk q => by
    obtain ⟨q0, q1, q2, q3, q4⟩ := q
    exact ⟨q0, q1, q2, va_K.moved (u := U) (U := U.calling g mk a) (Vm.Alike.refl U.vm) q3, q4.calls g mk a⟩,
   fun U hU hW => ⟨rfl, by rw [hU]; exact hH.1, by rw [hU]; exact hH.2.1, va_K.moved hW.alike hK, hN.warm hW⟩⟩
theorem st_cat {z : Nat} {st : List Value} : ((st.map (cv z)).map fun v => v.category).sum = (st.map fun v => v.category).sum := by
  rw [List.map_map]; congr 1; exact List.map_congr_left (fun v _ => cv_cat v)
/-- a method's words at a call -/
def MS (y' : MethodName) (cc' : ByteArray) (nL' : Nat) (rt' : Option FieldType) (n : Nat) : Prop := Cond.code y' cc' nL' rt' ∈ gtb ∧ Cond.initialized y'.cls ∈ gtb ∧ y'.cls ≠ "java/lang/invoke/MethodHandle" ∧ y'.cls ≠ "java/lang/invoke/VarHandle" ∧ (parseMethodDescriptor y'.desc).map (fun d => d.parameters.length) = some n
theorem r_callV {y' : MethodName} {cc' : ByteArray} {nL' ix ci a n : Nat} {rt' : Option FieldType} {t' mc' ms' : Nat} {as : List Value} {R : Option Value × Mm} {N : Nat} {TT : u_T} (hd : decode cc pc = .ok (.invokevirtual ix, 3)) (hM : MS y' cc' nL' rt' n) (hw : vwCl[ci]? = some (y'.cls, TT, N) ∧ Cond.methodLink y.cls ix y' ∈ gtb ∧ Cond.instanceMethod y' ∈ gtb ∧ Cond.selects y'.cls y' y' ∈ gtb) (ha : okc S a ci = true) (hc : CC G l y' cc' nL' rt' t' mc' ms' (.ref a :: as) S R) (hn : as.length = n) (ht : t' + 1 ≤ t ∧ 8 + (nL' + 11) + 40 * t' ≤ 40 * t) (hst : (st.map fun v => v.category).sum ≤ 8) (h1 : ce + mc' ≤ mc) (h2 : sl + ms' ≤ ms) {st0 : List Value} (hs0 : as.reverse ++ .ref a :: st = st0) (K : Sat G l y cc nL rt t mc ms (ce + mc') (sl + ms') (pc + 3) lv (R.1.toList ++ st) R.2 T) : Sat G l y cc nL rt t mc ms ce sl pc lv st0 S T := by
  subst hs0
  intro p e s m args below meth c H locs ls hC hH hL
  have hts := hC.2.2.2.2.2.1
  have hK := hC.2.2.2.2.2.2.2.2.1
  have hw1 : ∀ w, w ∈ gtb → w.before args s = true := fun w h => hts _ (List.mem_cons_of_mem _ h)
  obtain ⟨w1, w2, w3, w4⟩ := hw
  have hpre := cc_pre (as := .ref a :: as) hK hC.2.2.2.2.2.2.2.2.2.1 hH
  refine cc_go (va_runV (C := y'.cls) (As := as.map (cv G.1)) (rest := st.map (cv G.1)) (n := n) (b := G.1 + a) ⟨hC.1, hC.2.1, hC.2.2.2.1, hC.2.2.2.2.1, hts⟩ hc ⟨callB_of n hts (gtb_good hM.1) rfl rfl rfl (hw1 _ hM.2.1) (hw1 _ w2) hM.2.2 ht, hw1 _ w3, hw1 _ w4⟩ ⟨hpre.1, va_recv hK hH.1 w1 (cE_obj ha (ci_lt w1)), hpre.2⟩ rfl (by rw [List.length_map]; exact hn) hL.1 ?_ (lv_room (by rw [st_cat]; exact hst)) hd ⟨h1, h2⟩) hC hH hL K
  show (as.reverse ++ .ref a :: st).map (cv G.1) = _
  rw [List.map_append, List.map_cons, List.map_reverse]
  rfl
theorem r_callS {y' : MethodName} {cc' : ByteArray} {nL' ix n : Nat} {rt' : Option FieldType} {t' mc' ms' : Nat} {as : List Value} {R : Option Value × Mm} (hd : decode cc pc = .ok (.invokestatic ix, 3)) (hM : MS y' cc' nL' rt' n) (hw : Cond.methodLink y.cls ix y' ∈ gtb ∧ Cond.static y' ∈ gtb) (hc : CC G l y' cc' nL' rt' t' mc' ms' as S R) (hn : as.length = n) (ht : t' + 1 ≤ t ∧ 8 + (nL' + 11) + 40 * t' ≤ 40 * t) (hst : (st.map fun v => v.category).sum ≤ 8) (h1 : ce + mc' ≤ mc) (h2 : sl + ms' ≤ ms) {st0 : List Value} (hs0 : as.reverse ++ st = st0) (K : Sat G l y cc nL rt t mc ms (ce + mc') (sl + ms') (pc + 3) lv (R.1.toList ++ st) R.2 T) : Sat G l y cc nL rt t mc ms ce sl pc lv st0 S T := by
  subst hs0
  intro p e s m args below meth c H locs ls hC hH hL
  have hts := hC.2.2.2.2.2.1
  have hK := hC.2.2.2.2.2.2.2.2.1
  have hw1 : ∀ w, w ∈ gtb → w.before args s = true := fun w h => hts _ (List.mem_cons_of_mem _ h)
  obtain ⟨w2, w3⟩ := hw
  refine cc_go (va_runS (As := as.map (cv G.1)) (rest := st.map (cv G.1)) (n := n) ⟨hC.1, hC.2.1, hC.2.2.2.1, hC.2.2.2.2.1, hts⟩ hc ⟨callB_of n hts (gtb_good hM.1) rfl rfl rfl (hw1 _ hM.2.1) (hw1 _ w2) hM.2.2 ht, hw1 _ w3⟩ (cc_pre (as := as) hK hC.2.2.2.2.2.2.2.2.2.1 hH) rfl (by rw [List.length_map]; exact hn) hL.1 ?_ (lv_room (by rw [st_cat]; exact hst)) hd ⟨h1, h2⟩) hC hH hL K
  show (as.reverse ++ st).map (cv G.1) = _
  rw [List.map_append, List.map_reverse]
theorem r_callSN {y' : MethodName} {cc' : ByteArray} {nL' ix n : Nat} {rt' : Option FieldType} {t' mc' ms' : Nat} {as : List Value} {R : Option Value × Mm} (hd : decode cc pc = .ok (.invokestatic ix, 3)) (hM : MS y' cc' nL' rt' n) (hw : (y.cls, ix, y') ∈ nwM ∧ Cond.static y' ∈ gtb) (hc : CC G l y' cc' nL' rt' t' mc' ms' as S R) (hn : as.length = n) (ht : t' + 1 ≤ t ∧ 8 + (nL' + 11) + 40 * t' ≤ 40 * t) (hst : (st.map fun v => v.category).sum ≤ 8) (h1 : ce + mc' ≤ mc) (h2 : sl + ms' ≤ ms) {st0 : List Value} (hs0 : as.reverse ++ st = st0) (K : Sat G l y cc nL rt t mc ms (ce + mc') (sl + ms') (pc + 3) lv (R.1.toList ++ st) R.2 T) : Sat G l y cc nL rt t mc ms ce sl pc lv st0 S T := by
  subst hs0
  intro p e s m args below meth c H locs ls hC hH hL
  have hts := hC.2.2.2.2.2.1
  have hK := hC.2.2.2.2.2.2.2.2.1
  have hw1 : ∀ w, w ∈ gtb → w.before args s = true := fun w h => hts _ (List.mem_cons_of_mem _ h)
  obtain ⟨w2, w3⟩ := hw
  refine cc_go (va_runSN (As := as.map (cv G.1)) (rest := st.map (cv G.1)) (n := n) ⟨hC.1, hC.2.1, hC.2.2.2.1, hC.2.2.2.2.1, hts⟩ hc ⟨va_cnB n hts (gtb_good hM.1) rfl rfl rfl (hC.2.2.2.2.2.2.2.2.2.1.1 _ w2) (hw1 _ hM.2.1) hM.2.2 ht, hw1 _ w3, trivial⟩ (cc_pre (as := as) hK hC.2.2.2.2.2.2.2.2.2.1 hH) rfl (by rw [List.length_map]; exact hn) hL.1 ?_ (lv_room (by rw [st_cat]; exact hst)) hd ⟨h1, h2⟩) hC hH hL K
  show (as.reverse ++ st).map (cv G.1) = _
  rw [List.map_append, List.map_reverse]
theorem r_callI {y' : MethodName} {cc' : ByteArray} {nL' ix a n : Nat} {t' mc' ms' : Nat} {as : List Value} {R : Option Value × Mm} (hd : decode cc pc = .ok (.invokespecial ix, 3)) (hM : MS y' cc' nL' none n) (hw : y'.name = "<init>" ∧ Cond.methodLink y.cls ix y' ∈ gtb ∧ Cond.instanceMethod y' ∈ gtb) (hc : CC G l y' cc' nL' none t' mc' ms' (.ref a :: as) S R) (hn : as.length = n) (ht : t' + 1 ≤ t ∧ 8 + (nL' + 11) + 40 * t' ≤ 40 * t) (hst : (st.map fun v => v.category).sum ≤ 8) (h1 : ce + mc' ≤ mc) (h2 : sl + ms' ≤ ms) {st0 : List Value} (hs0 : as.reverse ++ .ref a :: st = st0) (K : Sat G l y cc nL rt t mc ms (ce + mc') (sl + ms') (pc + 3) lv (R.1.toList ++ st) R.2 T) : Sat G l y cc nL rt t mc ms ce sl pc lv st0 S T := by
  subst hs0
  intro p e s m args below meth c H locs ls hC hH hL
  have hts := hC.2.2.2.2.2.1
  have hK := hC.2.2.2.2.2.2.2.2.1
  have hw1 : ∀ w, w ∈ gtb → w.before args s = true := fun w h => hts _ (List.mem_cons_of_mem _ h)
  obtain ⟨w0, w2, w3⟩ := hw
  refine cc_go (va_runI (As := as.map (cv G.1)) (rest := st.map (cv G.1)) (n := n) (b := G.1 + a) ⟨hC.1, hC.2.1, hC.2.2.2.1, hC.2.2.2.2.1, hts⟩ hc ⟨callB_of n hts (gtb_good hM.1) rfl rfl rfl (hw1 _ hM.2.1) (hw1 _ w2) hM.2.2 ht, w0, hw1 _ w3⟩ (cc_pre (as := .ref a :: as) hK hC.2.2.2.2.2.2.2.2.2.1 hH) rfl (by rw [List.length_map]; exact hn) hL.1 ?_ (lv_room (by rw [st_cat]; exact hst)) hd ⟨h1, h2⟩) hC hH hL K
  show (as.reverse ++ .ref a :: st).map (cv G.1) = _
  rw [List.map_append, List.map_cons, List.map_reverse]
  rfl
theorem r_callIN {y' : MethodName} {cc' : ByteArray} {nL' ix a n : Nat} {t' mc' ms' : Nat} {as : List Value} {R : Option Value × Mm} (hd : decode cc pc = .ok (.invokespecial ix, 3)) (hM : MS y' cc' nL' none n) (hw : y'.name = "<init>" ∧ (y.cls, ix, y') ∈ nwM ∧ Cond.instanceMethod y' ∈ gtb) (hc : CC G l y' cc' nL' none t' mc' ms' (.ref a :: as) S R) (hn : as.length = n) (ht : t' + 1 ≤ t ∧ 8 + (nL' + 11) + 40 * t' ≤ 40 * t) (hst : (st.map fun v => v.category).sum ≤ 8) (h1 : ce + mc' ≤ mc) (h2 : sl + ms' ≤ ms) {st0 : List Value} (hs0 : as.reverse ++ .ref a :: st = st0) (K : Sat G l y cc nL rt t mc ms (ce + mc') (sl + ms') (pc + 3) lv (R.1.toList ++ st) R.2 T) : Sat G l y cc nL rt t mc ms ce sl pc lv st0 S T := by
  subst hs0
  intro p e s m args below meth c H locs ls hC hH hL
  have hts := hC.2.2.2.2.2.1
  have hK := hC.2.2.2.2.2.2.2.2.1
  have hw1 : ∀ w, w ∈ gtb → w.before args s = true := fun w h => hts _ (List.mem_cons_of_mem _ h)
  obtain ⟨w0, w2, w3⟩ := hw
  refine cc_go (va_runIN (As := as.map (cv G.1)) (rest := st.map (cv G.1)) (n := n) (b := G.1 + a) ⟨hC.1, hC.2.1, hC.2.2.2.1, hC.2.2.2.2.1, hts⟩ hc ⟨va_cnB n hts (gtb_good hM.1) rfl rfl rfl (hC.2.2.2.2.2.2.2.2.2.1.1 _ w2) (hw1 _ hM.2.1) hM.2.2 ht, w0, hw1 _ w3⟩ (cc_pre (as := .ref a :: as) hK hC.2.2.2.2.2.2.2.2.2.1 hH) rfl (by rw [List.length_map]; exact hn) hL.1 ?_ (lv_room (by rw [st_cat]; exact hst)) hd ⟨h1, h2⟩) hC hH hL K
  show (as.reverse ++ .ref a :: st).map (cv G.1) = _
  rw [List.map_append, List.map_cons, List.map_reverse]
  rfl
/-- a method that the class of the receiver selects, under the name that House declares -/
theorem r_callO {x y' : MethodName} {cc' : ByteArray} {nL' ix ci a n : Nat} {rt' : Option FieldType} {t' mc' ms' : Nat} {as : List Value} {R : Option Value × Mm} {N : Nat} {TT : u_T} {C : String} {b0 : ByteArray} {m0 : Nat} {r0 : Option FieldType} (hd : decode cc pc = .ok (.invokevirtual ix, 3)) (hM : MS y' cc' nL' rt' n) (hw : vwCl[ci]? = some (C, TT, N) ∧ Cond.methodLink y.cls ix x ∈ gtb ∧ Cond.sameMethod x.cls x.cls x.name x.desc ∈ gtb ∧ Cond.instanceMethod x ∈ gtb ∧ Cond.selects C x y' ∈ gtb ∧ Cond.instanceMethod y' ∈ gtb ∧ Cond.code x b0 m0 r0 ∈ gtb) (hx : x.cls ≠ "java/lang/invoke/MethodHandle" ∧ x.cls ≠ "java/lang/invoke/VarHandle" ∧ (parseMethodDescriptor x.desc).map (fun d => d.parameters.length) = some n) (ha : okc S a ci = true) (hc : CC G l y' cc' nL' rt' t' mc' ms' (.ref a :: as) S R) (hn : as.length = n) (ht : t' + 1 ≤ t ∧ 8 + (nL' + 11) + 40 * t' ≤ 40 * t) (hst : (st.map fun v => v.category).sum ≤ 8) (h1 : ce + mc' ≤ mc) (h2 : sl + ms' ≤ ms) {st0 : List Value} (hs0 : as.reverse ++ .ref a :: st = st0) (K : Sat G l y cc nL rt t mc ms (ce + mc') (sl + ms') (pc + 3) lv (R.1.toList ++ st) R.2 T) : Sat G l y cc nL rt t mc ms ce sl pc lv st0 S T := by
  subst hs0
  intro p e s m args below meth c H locs ls hC hH hL
  have hts := hC.2.2.2.2.2.1
  have hK := hC.2.2.2.2.2.2.2.2.1
  obtain ⟨w1, w2, w3, w4, w5, w6, w7⟩ := hw
  have hpre := cc_pre (as := .ref a :: as) hK hC.2.2.2.2.2.2.2.2.2.1 hH
  have hG : GoodIn (Cond.code y cc nL rt :: gtb) (va_wsO y.cls ix C x.cls x y' (Cond.code y' cc' nL' rt' :: gtb)) := by
    intro w hw
    have hg : w ∈ gtb := by
      unfold va_wsO at hw
      rcases List.mem_append.mp hw with h | h
      · simp only [List.mem_cons, List.not_mem_nil, or_false] at h
        rcases h with rfl | rfl | rfl | rfl | rfl | rfl
        · exact w2
        · exact w3
        · exact w4
        · exact w5
        · exact w6
        · exact hM.2.1
      · rcases List.mem_cons.mp h with rfl | h
        · exact hM.1
        · exact h
    exact ⟨List.mem_cons_of_mem _ hg, good_of_word (List.mem_filter.mp hg).2⟩
  refine cc_go (va_runU (C := C) (owner := x.cls) (x := x) (As := as.map (cv G.1)) (rest := st.map (cv G.1)) (n := n) (b := G.1 + a) ⟨hC.1, hC.2.1, hC.2.2.2.1, hC.2.2.2.2.1, hts⟩ hc (va_cwO n hts hG rfl rfl rfl (List.mem_cons_of_mem _ w7) hx ht) ⟨hpre.1, va_recv hK hH.1 w1 (cE_obj ha (ci_lt w1)), hpre.2⟩ rfl (by rw [List.length_map]; exact hn) hL.1 ?_ (lv_room (by rw [st_cat]; exact hst)) hd ⟨h1, h2⟩) hC hH hL K
  show (as.reverse ++ .ref a :: st).map (cv G.1) = _
  rw [List.map_append, List.map_cons, List.map_reverse]
  rfl
/-! a method's contract out of its body -/
theorem lv_args_in {z : Nat} : ∀ (as : List Value) (i n k : Nat) (v : Value), (lvA n as)[k]? = some v → v ≠ .null → (∀ w ∈ as, w ≠ .null) → (i + k, cv z v) ∈ lv_args i (as.map (cv z))
  | [], i, n, k, v, h, hv, _ => by
    rw [lvA] at h
    have := List.mem_of_getElem? h
    exact absurd (List.eq_of_mem_replicate this) hv
  | w :: as, i, n, k, v, h, hv, ha => by
    rw [lvA] at h
    rw [List.map_cons, lv_args, cv_cat]
    have ha2 : ∀ w ∈ as, w ≠ .null := fun x hx => ha x (List.mem_cons_of_mem _ hx)
    split at h
    · next hc =>
      rw [if_pos hc]
      match k, h with
      | 0, h =>
        simp at h
        subst h
        exact List.mem_cons_self
      | 1, h =>
        simp at h
        exact absurd h.symm hv
      | k + 2, h =>
        have := lv_args_in (z := z) as (i + 2) (n - 2) k v (by simpa using h) hv ha2
        rw [show i + 2 + k = i + (k + 2) by omega] at this
        exact List.mem_cons_of_mem _ this
    · next hc =>
      rw [if_neg hc]
      match k, h with
      | 0, h =>
        simp at h
        subst h
        exact List.mem_cons_self
      | k + 1, h =>
        have := lv_args_in (z := z) as (i + 1) (n - 1) k v (by simpa using h) hv ha2
        rw [show i + 1 + k = i + (k + 1) by omega] at this
        exact List.mem_cons_of_mem _ this
theorem lg_len {z : Nat} : ∀ as : List Value, (lg_sl (as.map (cv z))).length = (lg_sl as).length
  | [] => rfl
  | w :: as => by
    have ih := lg_len (z := z) as
    simp only [lg_sl, List.map_cons, List.flatMap_cons, List.length_append, cv_cat] at ih ⊢
    rw [ih]
    congr 1
    split <;> rfl
theorem r_body {as : List Value} {lv : List Value} (hy : plainName y.cls = true) (hl : lvA nL as = lv) (hn : (lg_sl as).length ≤ nL) (ha : ∀ w ∈ as, w ≠ .null) (K : Sat G l y cc nL rt t mc ms 0 0 0 lv [] S T) : CC G l y cc nL rt t mc ms as S T := by
  subst hl
  refine Met.ofW (cc := cc) (maxL := nL) (ret := rt) hy rfl ?_
  intro p e s m args below meth c s₁ B hml hv
  obtain ⟨rfl, hP, hz, hK, hN⟩ := hv
  have hlg : (lg_sl (as.map (cv G.1))).length = (lg_sl as).length := lg_len as
  rw [lg_entry_eq]
  have hle := lv_entry (as.map (cv G.1)) (n := nL) (by rw [hlg]; exact hn)
  refine K p e s m _ below meth c s.heap [] _ ⟨B.exec, B.bytes, B.returns, hml, findClass_of_methodNamed B.named, atoms_spec (ws := Cond.code y cc nL rt :: gtb) B.pre, B.notSynchronized, (name_of_methodNamed B.named B.method).1, hK, hN, by omega⟩ ⟨hP, hz, va_S.rf⟩ ⟨hle.1, hle.2.1, fun k v hk hv => ?_⟩
  have := hle.2.2 (k, cv G.1 v) (by have := lv_args_in (z := G.1) as 0 nL k v hk hv ha; rwa [Nat.zero_add] at this)
  exact this
end
end
section
def FU : Nat := 3000
def eI (T : Int32 × Mm) : Option Value × Mm := (some (.int T.1), T.2)
def eV (S : Mm) : Option Value × Mm := (none, S)
def eA (T : Nat × Mm) : Option Value × Mm := (some (.ref T.1), T.2)
section
variable {G : Gt} {l : Launch} {y : MethodName} {cc : ByteArray} {nL : Nat} {rt : Option FieldType} {t mc ms ce sl pc : Nat} {lv st : List Value} {S : Mm} {T : Option Value × Mm}
def lsub : List Value → List Value → Prop
  | [], [] => True
  | v :: vs, w :: ws => (w = v ∨ w = .null) ∧ lsub vs ws
  | _, _ => False
theorem lsub_at : ∀ (lv lv' : List Value), lsub lv lv' → ∀ k : Nat, lv'[k]? = lv[k]? ∨ lv'[k]? = some .null
  | [], [], _, k => Or.inl rfl
  | [], w :: ws, h, k => h.elim
  | v :: vs, [], h, k => h.elim
  | v :: vs, w :: ws, h, 0 => by
    rcases h.1 with h | h
    · exact Or.inl (by rw [h]; rfl)
    · exact Or.inr (by rw [h]; rfl)
  | v :: vs, w :: ws, h, k + 1 => lsub_at vs ws h.2 k
theorem r_lvs {lv' : List Value} (h : lsub lv lv') (K : Sat G l y cc nL rt t mc ms ce sl pc lv' st S T) : Sat G l y cc nL rt t mc ms ce sl pc lv st S T := r_lv (lsub_at _ _ h) K
theorem r_tsIn {dflt lo hi : Int} {offs : Array Int} {len : Nat} {x k : Int32} {off : Int} {tgt : Nat} (hd : decode cc pc = .ok (.tableswitch dflt lo hi offs, len)) (hx : x = k) (h1 : ¬ k.toInt < lo) (h2 : ¬ hi < k.toInt) (ho : offs[(k.toInt - lo).toNat]? = some off) (ht : (pc : Int) + off = (tgt : Int)) (K : Sat G l y cc nL rt t mc ms ce sl tgt lv st S T) : Sat G l y cc nL rt t mc ms ce sl pc lv (.int x :: st) S T := by
  subst hx
  exact fun p e s m args below meth c H locs ls hC hH hL => lv_tableIn hC.1 hC.2.1 hd h1 h2 ho ht (K p e s m args below meth c H locs ls hC hH hL)
theorem r_tsOut {dflt lo hi : Int} {offs : Array Int} {len n : Nat} {x : Int32} {ks : List Int32} {tgt : Nat} (hd : decode cc pc = .ok (.tableswitch dflt lo hi offs, len)) (hk : ks.map Int32.toInt = (List.range n).map (fun i : Nat => lo + (i : Int))) (hn : lo + (n : Int) = hi + 1) (hx : ¬ x ∈ ks) (ht : (pc : Int) + dflt = (tgt : Int)) (K : Sat G l y cc nL rt t mc ms ce sl tgt lv st S T) : Sat G l y cc nL rt t mc ms ce sl pc lv (.int x :: st) S T := by
  have ho : x.toInt < lo ∨ hi < x.toInt := by
    by_cases h : x.toInt < lo ∨ hi < x.toInt
    · exact h
    · exfalso
      have hm : x.toInt ∈ ks.map Int32.toInt := by
        rw [hk]
        exact List.mem_map.mpr ⟨(x.toInt - lo).toNat, List.mem_range.mpr (by omega), by omega⟩
      obtain ⟨k, h1, h2⟩ := List.mem_map.mp hm
      rw [Int32.toInt_inj.mp h2] at h1
      exact hx h1
  exact fun p e s m args below meth c H locs ls hC hH hL => lv_tableOut hC.1 hC.2.1 hd ho ht (K p e s m args below meth c H locs ls hC hH hL)
theorem r_lsIn {dflt : Int} {ps : Array (Int × Int)} {len : Nat} {x k : Int32} {off : Int} {tgt : Nat} (hd : decode cc pc = .ok (.lookupswitch dflt ps, len)) (hp : (ps.toList.zip (ps.toList.drop 1)).all (fun (a, next) => a.1 < next.1) = true) (hx : x = k) (ho : Op.lookupswitch.offset ps.toList dflt k.toInt = off) (ht : (pc : Int) + off = (tgt : Int)) (K : Sat G l y cc nL rt t mc ms ce sl tgt lv st S T) : Sat G l y cc nL rt t mc ms ce sl pc lv (.int x :: st) S T := by
  subst hx
  exact fun p e s m args below meth c H locs ls hC hH hL => lv_lookup hC.1 hC.2.1 hd hp ho ht (K p e s m args below meth c H locs ls hC hH hL)
theorem ls_out {x : Int32} {d : Int} : ∀ (ps : List (Int × Int)) (ks : List Int32), ps.map Prod.fst = ks.map Int32.toInt → ¬ x ∈ ks → Op.lookupswitch.offset ps d x.toInt = d
  | [], [], _, _ => rfl
  | [], k :: ks, h, _ => by simp at h
  | p :: ps, [], h, _ => by simp at h
  | (a, o) :: ps, k :: ks, h, hx => by
    simp only [List.map_cons, List.cons.injEq] at h
    simp only [List.mem_cons, not_or] at hx
    rw [lv_osw hx.1 h.1.symm]
    exact ls_out ps ks h.2 hx.2
theorem r_lsOut {dflt : Int} {ps : Array (Int × Int)} {len : Nat} {x : Int32} {ks : List Int32} {tgt : Nat} (hd : decode cc pc = .ok (.lookupswitch dflt ps, len)) (hp : (ps.toList.zip (ps.toList.drop 1)).all (fun (a, next) => a.1 < next.1) = true) (hk : ps.toList.map Prod.fst = ks.map Int32.toInt) (hx : ¬ x ∈ ks) (ht : (pc : Int) + dflt = (tgt : Int)) (K : Sat G l y cc nL rt t mc ms ce sl tgt lv st S T) : Sat G l y cc nL rt t mc ms ce sl pc lv (.int x :: st) S T :=
  fun p e s m args below meth c H locs ls hC hH hL => lv_lookup hC.1 hC.2.1 hd hp (ls_out _ ks hk hx) ht (K p e s m args below meth c H locs ls hC hH hL)
theorem r_callVi {y' : MethodName} {cc' : ByteArray} {nL' ix n : Nat} {rt' : Option FieldType} {t' mc' ms' : Nat} {as : List Value} {q : Int32 × Mm} {N : Nat} {TT : u_T} {ci a : Nat} (hd : decode cc pc = .ok (.invokevirtual ix, 3)) (hM : MS y' cc' nL' rt' n) (hw : vwCl[ci]? = some (y'.cls, TT, N) ∧ Cond.methodLink y.cls ix y' ∈ gtb ∧ Cond.instanceMethod y' ∈ gtb ∧ Cond.selects y'.cls y' y' ∈ gtb) (ha : okc S a ci = true) (hc : CC G l y' cc' nL' rt' t' mc' ms' (.ref a :: as) S (eI q)) (hn : as.length = n) (ht : t' + 1 ≤ t ∧ 8 + (nL' + 11) + 40 * t' ≤ 40 * t) (hst : (st.map fun v => v.category).sum ≤ 8) (h1 : ce + mc' ≤ mc) (h2 : sl + ms' ≤ ms) {st0 : List Value} (hs0 : as.reverse ++ .ref a :: st = st0) (K : Sat G l y cc nL rt t mc ms (ce + mc') (sl + ms') (pc + 3) lv (.int q.1 :: st) q.2 T) : Sat G l y cc nL rt t mc ms ce sl pc lv st0 S T :=
  r_callV hd hM hw ha hc hn ht hst h1 h2 hs0 K
theorem r_callVv {y' : MethodName} {cc' : ByteArray} {nL' ix n : Nat} {rt' : Option FieldType} {t' mc' ms' : Nat} {as : List Value} {q : Mm} {N : Nat} {TT : u_T} {ci a : Nat} (hd : decode cc pc = .ok (.invokevirtual ix, 3)) (hM : MS y' cc' nL' rt' n) (hw : vwCl[ci]? = some (y'.cls, TT, N) ∧ Cond.methodLink y.cls ix y' ∈ gtb ∧ Cond.instanceMethod y' ∈ gtb ∧ Cond.selects y'.cls y' y' ∈ gtb) (ha : okc S a ci = true) (hc : CC G l y' cc' nL' rt' t' mc' ms' (.ref a :: as) S (eV q)) (hn : as.length = n) (ht : t' + 1 ≤ t ∧ 8 + (nL' + 11) + 40 * t' ≤ 40 * t) (hst : (st.map fun v => v.category).sum ≤ 8) (h1 : ce + mc' ≤ mc) (h2 : sl + ms' ≤ ms) {st0 : List Value} (hs0 : as.reverse ++ .ref a :: st = st0) (K : Sat G l y cc nL rt t mc ms (ce + mc') (sl + ms') (pc + 3) lv (st) q T) : Sat G l y cc nL rt t mc ms ce sl pc lv st0 S T :=
  r_callV hd hM hw ha hc hn ht hst h1 h2 hs0 K
theorem r_callVa {y' : MethodName} {cc' : ByteArray} {nL' ix n : Nat} {rt' : Option FieldType} {t' mc' ms' : Nat} {as : List Value} {q : Nat × Mm} {N : Nat} {TT : u_T} {ci a : Nat} (hd : decode cc pc = .ok (.invokevirtual ix, 3)) (hM : MS y' cc' nL' rt' n) (hw : vwCl[ci]? = some (y'.cls, TT, N) ∧ Cond.methodLink y.cls ix y' ∈ gtb ∧ Cond.instanceMethod y' ∈ gtb ∧ Cond.selects y'.cls y' y' ∈ gtb) (ha : okc S a ci = true) (hc : CC G l y' cc' nL' rt' t' mc' ms' (.ref a :: as) S (eA q)) (hn : as.length = n) (ht : t' + 1 ≤ t ∧ 8 + (nL' + 11) + 40 * t' ≤ 40 * t) (hst : (st.map fun v => v.category).sum ≤ 8) (h1 : ce + mc' ≤ mc) (h2 : sl + ms' ≤ ms) {st0 : List Value} (hs0 : as.reverse ++ .ref a :: st = st0) (K : Sat G l y cc nL rt t mc ms (ce + mc') (sl + ms') (pc + 3) lv (.ref q.1 :: st) q.2 T) : Sat G l y cc nL rt t mc ms ce sl pc lv st0 S T :=
  r_callV hd hM hw ha hc hn ht hst h1 h2 hs0 K
theorem r_callSi {y' : MethodName} {cc' : ByteArray} {nL' ix n : Nat} {rt' : Option FieldType} {t' mc' ms' : Nat} {as : List Value} {q : Int32 × Mm}  (hd : decode cc pc = .ok (.invokestatic ix, 3)) (hM : MS y' cc' nL' rt' n) (hw : Cond.methodLink y.cls ix y' ∈ gtb ∧ Cond.static y' ∈ gtb) (hc : CC G l y' cc' nL' rt' t' mc' ms' as S (eI q)) (hn : as.length = n) (ht : t' + 1 ≤ t ∧ 8 + (nL' + 11) + 40 * t' ≤ 40 * t) (hst : (st.map fun v => v.category).sum ≤ 8) (h1 : ce + mc' ≤ mc) (h2 : sl + ms' ≤ ms) {st0 : List Value} (hs0 : as.reverse ++ st = st0) (K : Sat G l y cc nL rt t mc ms (ce + mc') (sl + ms') (pc + 3) lv (.int q.1 :: st) q.2 T) : Sat G l y cc nL rt t mc ms ce sl pc lv st0 S T :=
  r_callS hd hM hw hc hn ht hst h1 h2 hs0 K
theorem r_callSv {y' : MethodName} {cc' : ByteArray} {nL' ix n : Nat} {rt' : Option FieldType} {t' mc' ms' : Nat} {as : List Value} {q : Mm}  (hd : decode cc pc = .ok (.invokestatic ix, 3)) (hM : MS y' cc' nL' rt' n) (hw : Cond.methodLink y.cls ix y' ∈ gtb ∧ Cond.static y' ∈ gtb) (hc : CC G l y' cc' nL' rt' t' mc' ms' as S (eV q)) (hn : as.length = n) (ht : t' + 1 ≤ t ∧ 8 + (nL' + 11) + 40 * t' ≤ 40 * t) (hst : (st.map fun v => v.category).sum ≤ 8) (h1 : ce + mc' ≤ mc) (h2 : sl + ms' ≤ ms) {st0 : List Value} (hs0 : as.reverse ++ st = st0) (K : Sat G l y cc nL rt t mc ms (ce + mc') (sl + ms') (pc + 3) lv (st) q T) : Sat G l y cc nL rt t mc ms ce sl pc lv st0 S T :=
  r_callS hd hM hw hc hn ht hst h1 h2 hs0 K
theorem r_callSa {y' : MethodName} {cc' : ByteArray} {nL' ix n : Nat} {rt' : Option FieldType} {t' mc' ms' : Nat} {as : List Value} {q : Nat × Mm}  (hd : decode cc pc = .ok (.invokestatic ix, 3)) (hM : MS y' cc' nL' rt' n) (hw : Cond.methodLink y.cls ix y' ∈ gtb ∧ Cond.static y' ∈ gtb) (hc : CC G l y' cc' nL' rt' t' mc' ms' as S (eA q)) (hn : as.length = n) (ht : t' + 1 ≤ t ∧ 8 + (nL' + 11) + 40 * t' ≤ 40 * t) (hst : (st.map fun v => v.category).sum ≤ 8) (h1 : ce + mc' ≤ mc) (h2 : sl + ms' ≤ ms) {st0 : List Value} (hs0 : as.reverse ++ st = st0) (K : Sat G l y cc nL rt t mc ms (ce + mc') (sl + ms') (pc + 3) lv (.ref q.1 :: st) q.2 T) : Sat G l y cc nL rt t mc ms ce sl pc lv st0 S T :=
  r_callS hd hM hw hc hn ht hst h1 h2 hs0 K
theorem r_callSNi {y' : MethodName} {cc' : ByteArray} {nL' ix n : Nat} {rt' : Option FieldType} {t' mc' ms' : Nat} {as : List Value} {q : Int32 × Mm}  (hd : decode cc pc = .ok (.invokestatic ix, 3)) (hM : MS y' cc' nL' rt' n) (hw : (y.cls, ix, y') ∈ nwM ∧ Cond.static y' ∈ gtb) (hc : CC G l y' cc' nL' rt' t' mc' ms' as S (eI q)) (hn : as.length = n) (ht : t' + 1 ≤ t ∧ 8 + (nL' + 11) + 40 * t' ≤ 40 * t) (hst : (st.map fun v => v.category).sum ≤ 8) (h1 : ce + mc' ≤ mc) (h2 : sl + ms' ≤ ms) {st0 : List Value} (hs0 : as.reverse ++ st = st0) (K : Sat G l y cc nL rt t mc ms (ce + mc') (sl + ms') (pc + 3) lv (.int q.1 :: st) q.2 T) : Sat G l y cc nL rt t mc ms ce sl pc lv st0 S T :=
  r_callSN hd hM hw hc hn ht hst h1 h2 hs0 K
theorem r_callSNv {y' : MethodName} {cc' : ByteArray} {nL' ix n : Nat} {rt' : Option FieldType} {t' mc' ms' : Nat} {as : List Value} {q : Mm}  (hd : decode cc pc = .ok (.invokestatic ix, 3)) (hM : MS y' cc' nL' rt' n) (hw : (y.cls, ix, y') ∈ nwM ∧ Cond.static y' ∈ gtb) (hc : CC G l y' cc' nL' rt' t' mc' ms' as S (eV q)) (hn : as.length = n) (ht : t' + 1 ≤ t ∧ 8 + (nL' + 11) + 40 * t' ≤ 40 * t) (hst : (st.map fun v => v.category).sum ≤ 8) (h1 : ce + mc' ≤ mc) (h2 : sl + ms' ≤ ms) {st0 : List Value} (hs0 : as.reverse ++ st = st0) (K : Sat G l y cc nL rt t mc ms (ce + mc') (sl + ms') (pc + 3) lv (st) q T) : Sat G l y cc nL rt t mc ms ce sl pc lv st0 S T :=
  r_callSN hd hM hw hc hn ht hst h1 h2 hs0 K
theorem r_callSNa {y' : MethodName} {cc' : ByteArray} {nL' ix n : Nat} {rt' : Option FieldType} {t' mc' ms' : Nat} {as : List Value} {q : Nat × Mm}  (hd : decode cc pc = .ok (.invokestatic ix, 3)) (hM : MS y' cc' nL' rt' n) (hw : (y.cls, ix, y') ∈ nwM ∧ Cond.static y' ∈ gtb) (hc : CC G l y' cc' nL' rt' t' mc' ms' as S (eA q)) (hn : as.length = n) (ht : t' + 1 ≤ t ∧ 8 + (nL' + 11) + 40 * t' ≤ 40 * t) (hst : (st.map fun v => v.category).sum ≤ 8) (h1 : ce + mc' ≤ mc) (h2 : sl + ms' ≤ ms) {st0 : List Value} (hs0 : as.reverse ++ st = st0) (K : Sat G l y cc nL rt t mc ms (ce + mc') (sl + ms') (pc + 3) lv (.ref q.1 :: st) q.2 T) : Sat G l y cc nL rt t mc ms ce sl pc lv st0 S T :=
  r_callSN hd hM hw hc hn ht hst h1 h2 hs0 K
theorem r_callIv {y' : MethodName} {cc' : ByteArray} {nL' ix n : Nat}  {t' mc' ms' : Nat} {as : List Value} {q : Mm} {a : Nat} (hd : decode cc pc = .ok (.invokespecial ix, 3)) (hM : MS y' cc' nL' none n) (hw : y'.name = "<init>" ∧ Cond.methodLink y.cls ix y' ∈ gtb ∧ Cond.instanceMethod y' ∈ gtb) (hc : CC G l y' cc' nL' none t' mc' ms' (.ref a :: as) S (eV q)) (hn : as.length = n) (ht : t' + 1 ≤ t ∧ 8 + (nL' + 11) + 40 * t' ≤ 40 * t) (hst : (st.map fun v => v.category).sum ≤ 8) (h1 : ce + mc' ≤ mc) (h2 : sl + ms' ≤ ms) {st0 : List Value} (hs0 : as.reverse ++ .ref a :: st = st0) (K : Sat G l y cc nL rt t mc ms (ce + mc') (sl + ms') (pc + 3) lv (st) q T) : Sat G l y cc nL rt t mc ms ce sl pc lv st0 S T :=
  r_callI hd hM hw hc hn ht hst h1 h2 hs0 K
theorem r_callINv {y' : MethodName} {cc' : ByteArray} {nL' ix n : Nat}  {t' mc' ms' : Nat} {as : List Value} {q : Mm} {a : Nat} (hd : decode cc pc = .ok (.invokespecial ix, 3)) (hM : MS y' cc' nL' none n) (hw : y'.name = "<init>" ∧ (y.cls, ix, y') ∈ nwM ∧ Cond.instanceMethod y' ∈ gtb) (hc : CC G l y' cc' nL' none t' mc' ms' (.ref a :: as) S (eV q)) (hn : as.length = n) (ht : t' + 1 ≤ t ∧ 8 + (nL' + 11) + 40 * t' ≤ 40 * t) (hst : (st.map fun v => v.category).sum ≤ 8) (h1 : ce + mc' ≤ mc) (h2 : sl + ms' ≤ ms) {st0 : List Value} (hs0 : as.reverse ++ .ref a :: st = st0) (K : Sat G l y cc nL rt t mc ms (ce + mc') (sl + ms') (pc + 3) lv (st) q T) : Sat G l y cc nL rt t mc ms ce sl pc lv st0 S T :=
  r_callIN hd hM hw hc hn ht hst h1 h2 hs0 K
theorem r_callOi {x y' : MethodName} {cc' : ByteArray} {nL' ix ci a n : Nat} {rt' : Option FieldType} {t' mc' ms' : Nat} {as : List Value} {q : Int32 × Mm} {N : Nat} {TT : u_T} {C : String} {b0 : ByteArray} {m0 : Nat} {r0 : Option FieldType} (hd : decode cc pc = .ok (.invokevirtual ix, 3)) (hM : MS y' cc' nL' rt' n) (hw : vwCl[ci]? = some (C, TT, N) ∧ Cond.methodLink y.cls ix x ∈ gtb ∧ Cond.sameMethod x.cls x.cls x.name x.desc ∈ gtb ∧ Cond.instanceMethod x ∈ gtb ∧ Cond.selects C x y' ∈ gtb ∧ Cond.instanceMethod y' ∈ gtb ∧ Cond.code x b0 m0 r0 ∈ gtb) (hx : x.cls ≠ "java/lang/invoke/MethodHandle" ∧ x.cls ≠ "java/lang/invoke/VarHandle" ∧ (parseMethodDescriptor x.desc).map (fun d => d.parameters.length) = some n) (ha : okc S a ci = true) (hc : CC G l y' cc' nL' rt' t' mc' ms' (.ref a :: as) S (eI q)) (hn : as.length = n) (ht : t' + 1 ≤ t ∧ 8 + (nL' + 11) + 40 * t' ≤ 40 * t) (hst : (st.map fun v => v.category).sum ≤ 8) (h1 : ce + mc' ≤ mc) (h2 : sl + ms' ≤ ms) {st0 : List Value} (hs0 : as.reverse ++ .ref a :: st = st0) (K : Sat G l y cc nL rt t mc ms (ce + mc') (sl + ms') (pc + 3) lv (.int q.1 :: st) q.2 T) : Sat G l y cc nL rt t mc ms ce sl pc lv st0 S T :=
  r_callO hd hM hw hx ha hc hn ht hst h1 h2 hs0 K
end
end
section
theorem tin1 {w : Cond} (h : w ∈ tables_1_1) : w ∈ lw_tbl := List.mem_append_right _ (List.mem_append_left _ h)
theorem tin2 {w : Cond} (h : w ∈ tables_1_2) : w ∈ lw_tbl := List.mem_append_right _ (List.mem_append_right _ (List.mem_append_left _ h))
theorem tin3 {w : Cond} (h : w ∈ tables_1_3) : w ∈ lw_tbl := List.mem_append_right _ (List.mem_append_right _ (List.mem_append_right _ (List.mem_append_left _ h)))
theorem tin4 {w : Cond} (h : w ∈ tables_1_4) : w ∈ lw_tbl := List.mem_append_right _ (List.mem_append_right _ (List.mem_append_right _ (List.mem_append_right _ (List.mem_append_left _ h))))
theorem tin5 {w : Cond} (h : w ∈ tables_1_5) : w ∈ lw_tbl := List.mem_append_right _ (List.mem_append_right _ (List.mem_append_right _ (List.mem_append_right _ (List.mem_append_right _ (h)))))
theorem w0_0 : Cond.selects "GoodsDownhill" ⟨"GoodsDownhill", "refuse", "(I)I"⟩ ⟨"GoodsDownhill", "refuse", "(I)I"⟩ ∈ gtb := gtb_in (List.mem_append_left _ (List.mem_map.mpr ⟨_, List.mem_of_getElem? (i := 0) (by rfl), rfl⟩)) rfl
theorem w0_1 : Cond.selects "GoodsDownhill$Letters" ⟨"GoodsDownhill$Letters", "endOfDigits", "(II)I"⟩ ⟨"GoodsDownhill$Letters", "endOfDigits", "(II)I"⟩ ∈ gtb := gtb_in (List.mem_append_left _ (List.mem_map.mpr ⟨_, List.mem_of_getElem? (i := 1) (by rfl), rfl⟩)) rfl
theorem w0_10 : Cond.selects "GoodsDownhill$Land" ⟨"GoodsDownhill$Land", "moveOnePiece", "(III)V"⟩ ⟨"GoodsDownhill$Land", "moveOnePiece", "(III)V"⟩ ∈ gtb := gtb_in (List.mem_append_left _ (List.mem_map.mpr ⟨_, List.mem_of_getElem? (i := 10) (by rfl), rfl⟩)) rfl
theorem w0_11 : Cond.selects "GoodsDownhill$Land" ⟨"GoodsDownhill$Land", "addPieces", "(III)V"⟩ ⟨"GoodsDownhill$Land", "addPieces", "(III)V"⟩ ∈ gtb := gtb_in (List.mem_append_left _ (List.mem_map.mpr ⟨_, List.mem_of_getElem? (i := 11) (by rfl), rfl⟩)) rfl
theorem w0_12 : Cond.selects "GoodsDownhill$Land" ⟨"GoodsDownhill$Land", "makeGoods", "(I)V"⟩ ⟨"GoodsDownhill$Land", "makeGoods", "(I)V"⟩ ∈ gtb := gtb_in (List.mem_append_left _ (List.mem_map.mpr ⟨_, List.mem_of_getElem? (i := 12) (by rfl), rfl⟩)) rfl
theorem w0_13 : Cond.selects "GoodsDownhill$Land" ⟨"GoodsDownhill$Land", "buyWanted", "(I)I"⟩ ⟨"GoodsDownhill$Land", "buyWanted", "(I)I"⟩ ∈ gtb := gtb_in (List.mem_append_left _ (List.mem_map.mpr ⟨_, List.mem_of_getElem? (i := 13) (by rfl), rfl⟩)) rfl
theorem w0_14 : Cond.selects "GoodsDownhill$Land" ⟨"GoodsDownhill$Land", "fullestSellerTo", "(II)I"⟩ ⟨"GoodsDownhill$Land", "fullestSellerTo", "(II)I"⟩ ∈ gtb := gtb_in (List.mem_append_left _ (List.mem_map.mpr ⟨_, List.mem_of_getElem? (i := 14) (by rfl), rfl⟩)) rfl
theorem w0_15 : Cond.selects "GoodsDownhill$Land" ⟨"GoodsDownhill$Land", "useWanted", "(I)I"⟩ ⟨"GoodsDownhill$Land", "useWanted", "(I)I"⟩ ∈ gtb := gtb_in (List.mem_append_left _ (List.mem_map.mpr ⟨_, List.mem_of_getElem? (i := 15) (by rfl), rfl⟩)) rfl
theorem w0_16 : Cond.selects "GoodsDownhill$Debts" ⟨"GoodsDownhill$Debts", "strikeTwo", "(II)I"⟩ ⟨"GoodsDownhill$Debts", "strikeTwo", "(II)I"⟩ ∈ gtb := gtb_in (List.mem_append_left _ (List.mem_map.mpr ⟨_, List.mem_of_getElem? (i := 16) (by rfl), rfl⟩)) rfl
theorem w0_17 : Cond.selects "GoodsDownhill$Debts" ⟨"GoodsDownhill$Debts", "strikeThree", "(III)I"⟩ ⟨"GoodsDownhill$Debts", "strikeThree", "(III)I"⟩ ∈ gtb := gtb_in (List.mem_append_left _ (List.mem_map.mpr ⟨_, List.mem_of_getElem? (i := 17) (by rfl), rfl⟩)) rfl
theorem w0_18 : Cond.selects "GoodsDownhill" ⟨"GoodsDownhill", "passInMind", "(IILGoodsDownhill$Tally;)V"⟩ ⟨"GoodsDownhill", "passInMind", "(IILGoodsDownhill$Tally;)V"⟩ ∈ gtb := gtb_in (List.mem_append_left _ (List.mem_map.mpr ⟨_, List.mem_of_getElem? (i := 18) (by rfl), rfl⟩)) rfl
theorem w0_19 : Cond.selects "GoodsDownhillModel" ⟨"GoodsDownhillModel", "carryAll", "([IZ)V"⟩ ⟨"GoodsDownhillModel", "carryAll", "([IZ)V"⟩ ∈ gtb := gtb_in (List.mem_append_left _ (List.mem_map.mpr ⟨_, List.mem_of_getElem? (i := 19) (by rfl), rfl⟩)) rfl
theorem w0_2 : Cond.selects "GoodsDownhill$Letters" ⟨"GoodsDownhill$Letters", "endOfStatement", "(I)I"⟩ ⟨"GoodsDownhill$Letters", "endOfStatement", "(I)I"⟩ ∈ gtb := gtb_in (List.mem_append_left _ (List.mem_map.mpr ⟨_, List.mem_of_getElem? (i := 2) (by rfl), rfl⟩)) rfl
theorem w0_20 : Cond.selects "GoodsDownhillModel" ⟨"GoodsDownhillModel", "carry", "(I)I"⟩ ⟨"GoodsDownhillModel", "carry", "(I)I"⟩ ∈ gtb := gtb_in (List.mem_append_left _ (List.mem_map.mpr ⟨_, List.mem_of_getElem? (i := 20) (by rfl), rfl⟩)) rfl
theorem w0_21 : Cond.selects "GoodsDownhillModel" ⟨"GoodsDownhillModel", "refuse", "(I)I"⟩ ⟨"GoodsDownhillModel", "refuse", "(I)I"⟩ ∈ gtb := gtb_in (List.mem_append_left _ (List.mem_map.mpr ⟨_, List.mem_of_getElem? (i := 21) (by rfl), rfl⟩)) rfl
theorem w0_22 : Cond.selects "GoodsDownhillModel" ⟨"GoodsDownhillModel", "readStatement", "()V"⟩ ⟨"GoodsDownhillModel", "readStatement", "()V"⟩ ∈ gtb := gtb_in (List.mem_append_left _ (List.mem_map.mpr ⟨_, List.mem_of_getElem? (i := 22) (by rfl), rfl⟩)) rfl
theorem w0_23 : Cond.selects "GoodsDownhillModel" ⟨"GoodsDownhillModel", "here", "()I"⟩ ⟨"GoodsDownhillModel", "here", "()I"⟩ ∈ gtb := gtb_in (List.mem_append_left _ (List.mem_map.mpr ⟨_, List.mem_of_getElem? (i := 23) (by rfl), rfl⟩)) rfl
theorem w0_24 : Cond.selects "GoodsDownhillModel" ⟨"GoodsDownhillModel", "readDigit", "()I"⟩ ⟨"GoodsDownhillModel", "readDigit", "()I"⟩ ∈ gtb := gtb_in (List.mem_append_left _ (List.mem_map.mpr ⟨_, List.mem_of_getElem? (i := 24) (by rfl), rfl⟩)) rfl
theorem w0_25 : Cond.selects "GoodsDownhillModel" ⟨"GoodsDownhillModel", "readNumber", "(I)I"⟩ ⟨"GoodsDownhillModel", "readNumber", "(I)I"⟩ ∈ gtb := gtb_in (List.mem_append_left _ (List.mem_map.mpr ⟨_, List.mem_of_getElem? (i := 25) (by rfl), rfl⟩)) rfl
theorem w0_26 : Cond.selects "GoodsDownhillModel" ⟨"GoodsDownhillModel", "open", "()V"⟩ ⟨"GoodsDownhillModel", "open", "()V"⟩ ∈ gtb := gtb_in (List.mem_append_left _ (List.mem_map.mpr ⟨_, List.mem_of_getElem? (i := 26) (by rfl), rfl⟩)) rfl
theorem w0_27 : Cond.selects "GoodsDownhillModel" ⟨"GoodsDownhillModel", "comes", "(I)Z"⟩ ⟨"GoodsDownhillModel", "comes", "(I)Z"⟩ ∈ gtb := gtb_in (List.mem_append_left _ (List.mem_map.mpr ⟨_, List.mem_of_getElem? (i := 27) (by rfl), rfl⟩)) rfl
theorem w0_28 : Cond.selects "GoodsDownhillModel" ⟨"GoodsDownhillModel", "houseComes", "(I)Z"⟩ ⟨"GoodsDownhillModel", "houseComes", "(I)Z"⟩ ∈ gtb := gtb_in (List.mem_append_left _ (List.mem_map.mpr ⟨_, List.mem_of_getElem? (i := 28) (by rfl), rfl⟩)) rfl
theorem w0_29 : Cond.selects "GoodsDownhillModel" ⟨"GoodsDownhillModel", "areTwo", "(II)Z"⟩ ⟨"GoodsDownhillModel", "areTwo", "(II)Z"⟩ ∈ gtb := gtb_in (List.mem_append_left _ (List.mem_map.mpr ⟨_, List.mem_of_getElem? (i := 29) (by rfl), rfl⟩)) rfl
theorem w0_3 : Cond.selects "GoodsDownhill$Letters" ⟨"GoodsDownhill$Letters", "tellHouse", "(LGoodsDownhill$Land;II)Z"⟩ ⟨"GoodsDownhill$Letters", "tellHouse", "(LGoodsDownhill$Land;II)Z"⟩ ∈ gtb := gtb_in (List.mem_append_left _ (List.mem_map.mpr ⟨_, List.mem_of_getElem? (i := 3) (by rfl), rfl⟩)) rfl
theorem w0_30 : Cond.selects "GoodsDownhillModel" ⟨"GoodsDownhillModel", "isHouse", "(I)Z"⟩ ⟨"GoodsDownhillModel", "isHouse", "(I)Z"⟩ ∈ gtb := gtb_in (List.mem_append_left _ (List.mem_map.mpr ⟨_, List.mem_of_getElem? (i := 30) (by rfl), rfl⟩)) rfl
theorem w0_31 : Cond.selects "GoodsDownhillModel" ⟨"GoodsDownhillModel", "close", "()V"⟩ ⟨"GoodsDownhillModel", "close", "()V"⟩ ∈ gtb := gtb_in (List.mem_append_left _ (List.mem_map.mpr ⟨_, List.mem_of_getElem? (i := 31) (by rfl), rfl⟩)) rfl
theorem w0_32 : Cond.selects "GoodsDownhillModel" ⟨"GoodsDownhillModel", "sellsAt", "(I)I"⟩ ⟨"GoodsDownhillModel", "sellsAt", "(I)I"⟩ ∈ gtb := gtb_in (List.mem_append_left _ (List.mem_map.mpr ⟨_, List.mem_of_getElem? (i := 32) (by rfl), rfl⟩)) rfl
theorem w0_33 : Cond.selects "GoodsDownhillModel" ⟨"GoodsDownhillModel", "buysAt", "(I)I"⟩ ⟨"GoodsDownhillModel", "buysAt", "(I)I"⟩ ∈ gtb := gtb_in (List.mem_append_left _ (List.mem_map.mpr ⟨_, List.mem_of_getElem? (i := 33) (by rfl), rfl⟩)) rfl
theorem w0_34 : Cond.selects "GoodsDownhillModel" ⟨"GoodsDownhillModel", "isLawful", "(II)Z"⟩ ⟨"GoodsDownhillModel", "isLawful", "(II)Z"⟩ ∈ gtb := gtb_in (List.mem_append_left _ (List.mem_map.mpr ⟨_, List.mem_of_getElem? (i := 34) (by rfl), rfl⟩)) rfl
theorem w0_35 : Cond.selects "GoodsDownhillModel" ⟨"GoodsDownhillModel", "canSell", "(III)Z"⟩ ⟨"GoodsDownhillModel", "canSell", "(III)Z"⟩ ∈ gtb := gtb_in (List.mem_append_left _ (List.mem_map.mpr ⟨_, List.mem_of_getElem? (i := 35) (by rfl), rfl⟩)) rfl
theorem w0_36 : Cond.selects "GoodsDownhillModel" ⟨"GoodsDownhillModel", "sell", "(III)V"⟩ ⟨"GoodsDownhillModel", "sell", "(III)V"⟩ ∈ gtb := gtb_in (List.mem_append_left _ (List.mem_map.mpr ⟨_, List.mem_of_getElem? (i := 36) (by rfl), rfl⟩)) rfl
theorem w0_37 : Cond.selects "GoodsDownhillModel" ⟨"GoodsDownhillModel", "weekOn", "()I"⟩ ⟨"GoodsDownhillModel", "weekOn", "()I"⟩ ∈ gtb := gtb_in (List.mem_append_left _ (List.mem_map.mpr ⟨_, List.mem_of_getElem? (i := 37) (by rfl), rfl⟩)) rfl
theorem w0_38 : Cond.selects "GoodsDownhillModel" ⟨"GoodsDownhillModel", "buyFor", "(I)V"⟩ ⟨"GoodsDownhillModel", "buyFor", "(I)V"⟩ ∈ gtb := gtb_in (List.mem_append_left _ (List.mem_map.mpr ⟨_, List.mem_of_getElem? (i := 38) (by rfl), rfl⟩)) rfl
theorem w0_39 : Cond.selects "GoodsDownhillModel" ⟨"GoodsDownhillModel", "wants", "(II)Z"⟩ ⟨"GoodsDownhillModel", "wants", "(II)Z"⟩ ∈ gtb := gtb_in (List.mem_append_left _ (List.mem_map.mpr ⟨_, List.mem_of_getElem? (i := 39) (by rfl), rfl⟩)) rfl
theorem w0_4 : Cond.selects "GoodsDownhill$Letters" ⟨"GoodsDownhill$Letters", "digit", "(I)I"⟩ ⟨"GoodsDownhill$Letters", "digit", "(I)I"⟩ ∈ gtb := gtb_in (List.mem_append_left _ (List.mem_map.mpr ⟨_, List.mem_of_getElem? (i := 4) (by rfl), rfl⟩)) rfl
theorem w0_40 : Cond.selects "GoodsDownhillModel" ⟨"GoodsDownhillModel", "debt", "(II)I"⟩ ⟨"GoodsDownhillModel", "debt", "(II)I"⟩ ∈ gtb := gtb_in (List.mem_append_left _ (List.mem_map.mpr ⟨_, List.mem_of_getElem? (i := 40) (by rfl), rfl⟩)) rfl
theorem w0_41 : Cond.selects "GoodsDownhillModel" ⟨"GoodsDownhillModel", "strikeAll", "()I"⟩ ⟨"GoodsDownhillModel", "strikeAll", "()I"⟩ ∈ gtb := gtb_in (List.mem_append_left _ (List.mem_map.mpr ⟨_, List.mem_of_getElem? (i := 41) (by rfl), rfl⟩)) rfl
theorem w0_42 : Cond.selects "GoodsDownhillModel" ⟨"GoodsDownhillModel", "strikeOne", "()Z"⟩ ⟨"GoodsDownhillModel", "strikeOne", "()Z"⟩ ∈ gtb := gtb_in (List.mem_append_left _ (List.mem_map.mpr ⟨_, List.mem_of_getElem? (i := 42) (by rfl), rfl⟩)) rfl
theorem w0_43 : Cond.selects "GoodsDownhillModel" ⟨"GoodsDownhillModel", "lessen", "(III)I"⟩ ⟨"GoodsDownhillModel", "lessen", "(III)I"⟩ ∈ gtb := gtb_in (List.mem_append_left _ (List.mem_map.mpr ⟨_, List.mem_of_getElem? (i := 43) (by rfl), rfl⟩)) rfl
theorem w0_44 : Cond.selects "GoodsDownhillModel" ⟨"GoodsDownhillModel", "servedIn", "(I)I"⟩ ⟨"GoodsDownhillModel", "servedIn", "(I)I"⟩ ∈ gtb := gtb_in (List.mem_append_left _ (List.mem_map.mpr ⟨_, List.mem_of_getElem? (i := 44) (by rfl), rfl⟩)) rfl
theorem w0_45 : Cond.selects "GoodsDownhillModel" ⟨"GoodsDownhillModel", "wantsOfAll", "()I"⟩ ⟨"GoodsDownhillModel", "wantsOfAll", "()I"⟩ ∈ gtb := gtb_in (List.mem_append_left _ (List.mem_map.mpr ⟨_, List.mem_of_getElem? (i := 45) (by rfl), rfl⟩)) rfl
theorem w0_46 : Cond.selects "GoodsDownhillModel" ⟨"GoodsDownhillModel", "mostOf", "(I)I"⟩ ⟨"GoodsDownhillModel", "mostOf", "(I)I"⟩ ∈ gtb := gtb_in (List.mem_append_left _ (List.mem_map.mpr ⟨_, List.mem_of_getElem? (i := 46) (by rfl), rfl⟩)) rfl
theorem w0_47 : Cond.selects "GoodsDownhillModel" ⟨"GoodsDownhillModel", "isPath", "(IIII)Z"⟩ ⟨"GoodsDownhillModel", "isPath", "(IIII)Z"⟩ ∈ gtb := gtb_in (List.mem_append_left _ (List.mem_map.mpr ⟨_, List.mem_of_getElem? (i := 47) (by rfl), rfl⟩)) rfl
theorem w0_48 : Cond.selects "GoodsDownhillModel" ⟨"GoodsDownhillModel", "isSold", "(III)Z"⟩ ⟨"GoodsDownhillModel", "isSold", "(III)Z"⟩ ∈ gtb := gtb_in (List.mem_append_left _ (List.mem_map.mpr ⟨_, List.mem_of_getElem? (i := 48) (by rfl), rfl⟩)) rfl
theorem w0_49 : Cond.selects "GoodsDownhillModel" ⟨"GoodsDownhillModel", "draw", "(I)I"⟩ ⟨"GoodsDownhillModel", "draw", "(I)I"⟩ ∈ gtb := gtb_in (List.mem_append_left _ (List.mem_map.mpr ⟨_, List.mem_of_getElem? (i := 49) (by rfl), rfl⟩)) rfl
theorem w0_5 : Cond.selects "GoodsDownhill$Letters" ⟨"GoodsDownhill$Letters", "number", "(II)I"⟩ ⟨"GoodsDownhill$Letters", "number", "(II)I"⟩ ∈ gtb := gtb_in (List.mem_append_left _ (List.mem_map.mpr ⟨_, List.mem_of_getElem? (i := 5) (by rfl), rfl⟩)) rfl
theorem w0_50 : Cond.selects "GoodsDownhillModel" ⟨"GoodsDownhillModel", "sumOf", "([II)I"⟩ ⟨"GoodsDownhillModel", "sumOf", "([II)I"⟩ ∈ gtb := gtb_in (List.mem_append_left _ (List.mem_map.mpr ⟨_, List.mem_of_getElem? (i := 50) (by rfl), rfl⟩)) rfl
theorem w0_6 : Cond.selects "GoodsDownhill$Letters" ⟨"GoodsDownhill$Letters", "tellPrice", "(LGoodsDownhill$Land;I)Z"⟩ ⟨"GoodsDownhill$Letters", "tellPrice", "(LGoodsDownhill$Land;I)Z"⟩ ∈ gtb := gtb_in (List.mem_append_left _ (List.mem_map.mpr ⟨_, List.mem_of_getElem? (i := 6) (by rfl), rfl⟩)) rfl
theorem w0_7 : Cond.selects "GoodsDownhill$Letters" ⟨"GoodsDownhill$Letters", "tellLaw", "(LGoodsDownhill$Land;I)Z"⟩ ⟨"GoodsDownhill$Letters", "tellLaw", "(LGoodsDownhill$Land;I)Z"⟩ ∈ gtb := gtb_in (List.mem_append_left _ (List.mem_map.mpr ⟨_, List.mem_of_getElem? (i := 7) (by rfl), rfl⟩)) rfl
theorem w0_8 : Cond.selects "GoodsDownhill$Letters" ⟨"GoodsDownhill$Letters", "tellDebt", "(LGoodsDownhill$Land;II)Z"⟩ ⟨"GoodsDownhill$Letters", "tellDebt", "(LGoodsDownhill$Land;II)Z"⟩ ∈ gtb := gtb_in (List.mem_append_left _ (List.mem_map.mpr ⟨_, List.mem_of_getElem? (i := 8) (by rfl), rfl⟩)) rfl
theorem w0_9 : Cond.selects "GoodsDownhill$Land" ⟨"GoodsDownhill$Land", "hasMeans", "(III)Z"⟩ ⟨"GoodsDownhill$Land", "hasMeans", "(III)Z"⟩ ∈ gtb := gtb_in (List.mem_append_left _ (List.mem_map.mpr ⟨_, List.mem_of_getElem? (i := 9) (by rfl), rfl⟩)) rfl
theorem w1_1 : Cond.initialized "GoodsDownhill" ∈ gtb := gtb_in (tin1 (List.mem_of_getElem? (i := 1) (by decide +kernel))) rfl
theorem w1_10 : Cond.initialized "GoodsDownhill$Joined" ∈ gtb := gtb_in (tin1 (List.mem_of_getElem? (i := 10) (by decide +kernel))) rfl
theorem w1_100 : Cond.fieldLink "GoodsDownhill$Trade" 15 "GoodsDownhill$Land" "houses" "[LGoodsDownhill$House;" ∈ gtb := gtb_in (tin1 (List.mem_of_getElem? (i := 100) (by decide +kernel))) rfl
theorem w1_101 : Cond.fieldLink "GoodsDownhill" 74 "GoodsDownhill$Land" "houses" "[LGoodsDownhill$House;" ∈ gtb := gtb_in (tin1 (List.mem_of_getElem? (i := 101) (by decide +kernel))) rfl
theorem w1_102 : Cond.fieldLink "GoodsDownhill$Trade" 9 "GoodsDownhill$Land" "size" "I" ∈ gtb := gtb_in (tin1 (List.mem_of_getElem? (i := 102) (by decide +kernel))) rfl
theorem w1_103 : Cond.fieldLink "GoodsDownhill$Land" 37 "GoodsDownhill$Land" "size" "I" ∈ gtb := gtb_in (tin1 (List.mem_of_getElem? (i := 103) (by decide +kernel))) rfl
theorem w1_104 : Cond.fieldLink "GoodsDownhill" 134 "GoodsDownhill$Land" "size" "I" ∈ gtb := gtb_in (tin1 (List.mem_of_getElem? (i := 104) (by decide +kernel))) rfl
theorem w1_105 : Cond.fieldLink "GoodsDownhill$Land" 17 "GoodsDownhill$Land" "coin" "[I" ∈ gtb := gtb_in (tin1 (List.mem_of_getElem? (i := 105) (by decide +kernel))) rfl
theorem w1_106 : Cond.fieldLink "GoodsDownhill" 108 "GoodsDownhill$Land" "coin" "[I" ∈ gtb := gtb_in (tin1 (List.mem_of_getElem? (i := 106) (by decide +kernel))) rfl
theorem w1_107 : Cond.fieldLink "GoodsDownhill$Land" 21 "GoodsDownhill$Land" "stores" "[I" ∈ gtb := gtb_in (tin1 (List.mem_of_getElem? (i := 107) (by decide +kernel))) rfl
theorem w1_108 : Cond.fieldLink "GoodsDownhill" 142 "GoodsDownhill$Land" "stores" "[I" ∈ gtb := gtb_in (tin1 (List.mem_of_getElem? (i := 108) (by decide +kernel))) rfl
theorem w1_109 : Cond.fieldLink "GoodsDownhill$Land" 24 "GoodsDownhill$Land" "prices" "[I" ∈ gtb := gtb_in (tin1 (List.mem_of_getElem? (i := 109) (by decide +kernel))) rfl
theorem w1_11 : Cond.initialized "GoodsDownhill$Hermit" ∈ gtb := gtb_in (tin1 (List.mem_of_getElem? (i := 11) (by decide +kernel))) rfl
theorem w1_110 : Cond.fieldLink "GoodsDownhill" 118 "GoodsDownhill$Land" "prices" "[I" ∈ gtb := gtb_in (tin1 (List.mem_of_getElem? (i := 110) (by decide +kernel))) rfl
theorem w1_111 : Cond.fieldLink "GoodsDownhill$Letters" 91 "GoodsDownhill$Land" "prices" "[I" ∈ gtb := gtb_in (tin1 (List.mem_of_getElem? (i := 111) (by decide +kernel))) rfl
theorem w1_112 : Cond.fieldLink "GoodsDownhill$Land" 30 "GoodsDownhill$Land" "debts" "LGoodsDownhill$Debts;" ∈ gtb := gtb_in (tin1 (List.mem_of_getElem? (i := 112) (by decide +kernel))) rfl
theorem w1_113 : Cond.fieldLink "GoodsDownhill" 145 "GoodsDownhill$Land" "debts" "LGoodsDownhill$Debts;" ∈ gtb := gtb_in (tin1 (List.mem_of_getElem? (i := 113) (by decide +kernel))) rfl
theorem w1_114 : Cond.fieldLink "GoodsDownhill$Letters" 104 "GoodsDownhill$Land" "debts" "LGoodsDownhill$Debts;" ∈ gtb := gtb_in (tin1 (List.mem_of_getElem? (i := 114) (by decide +kernel))) rfl
theorem w1_115 : Cond.fieldLink "GoodsDownhill$Land" 51 "GoodsDownhill$Land" "lawNow" "I" ∈ gtb := gtb_in (tin1 (List.mem_of_getElem? (i := 115) (by decide +kernel))) rfl
theorem w1_116 : Cond.fieldLink "GoodsDownhill" 124 "GoodsDownhill$Land" "lawNow" "I" ∈ gtb := gtb_in (tin1 (List.mem_of_getElem? (i := 116) (by decide +kernel))) rfl
theorem w1_117 : Cond.fieldLink "GoodsDownhill$Letters" 97 "GoodsDownhill$Land" "lawNow" "I" ∈ gtb := gtb_in (tin1 (List.mem_of_getElem? (i := 117) (by decide +kernel))) rfl
theorem w1_118 : Cond.fieldLink "GoodsDownhill$Land" 54 "GoodsDownhill$Land" "weekNow" "I" ∈ gtb := gtb_in (tin1 (List.mem_of_getElem? (i := 118) (by decide +kernel))) rfl
theorem w1_119 : Cond.fieldLink "GoodsDownhill" 135 "GoodsDownhill$Land" "weekNow" "I" ∈ gtb := gtb_in (tin1 (List.mem_of_getElem? (i := 119) (by decide +kernel))) rfl
theorem w1_12 : Cond.initialized "GoodsDownhill$Market" ∈ gtb := gtb_in (tin1 (List.mem_of_getElem? (i := 12) (by decide +kernel))) rfl
theorem w1_120 : Cond.fieldLink "GoodsDownhill$Land" 57 "GoodsDownhill$Land" "muleFrom" "I" ∈ gtb := gtb_in (tin1 (List.mem_of_getElem? (i := 120) (by decide +kernel))) rfl
theorem w1_121 : Cond.fieldLink "GoodsDownhill" 157 "GoodsDownhill$Land" "muleFrom" "I" ∈ gtb := gtb_in (tin1 (List.mem_of_getElem? (i := 121) (by decide +kernel))) rfl
theorem w1_13 : Cond.initialized "GoodsDownhill$Feigned" ∈ gtb := gtb_in (tin1 (List.mem_of_getElem? (i := 13) (by decide +kernel))) rfl
theorem w1_14 : Cond.initialized "java/lang/Math" ∈ gtb := gtb_in (tin1 (List.mem_of_getElem? (i := 14) (by decide +kernel))) rfl
theorem w1_141 : Cond.classLink "GoodsDownhill" 22 "GoodsDownhill$Tally" ∈ gtb := gtb_in (tin1 (List.mem_of_getElem? (i := 141) (by decide +kernel))) rfl
theorem w1_142 : Cond.instantiable "GoodsDownhill$Tally" 4 ∈ gtb := gtb_in (tin1 (List.mem_of_getElem? (i := 142) (by decide +kernel))) rfl
theorem w1_144 : Cond.instanceMethod ⟨"GoodsDownhill$Tally", "<init>", "()V"⟩ ∈ gtb := gtb_in (tin1 (List.mem_of_getElem? (i := 144) (by decide +kernel))) rfl
theorem w1_145 : Cond.code ⟨"GoodsDownhill$Tally", "<init>", "()V"⟩ prog_11_method_1_code 1 none ∈ gtb := gtb_in (tin1 (List.mem_of_getElem? (i := 145) (by decide +kernel))) rfl
theorem w1_146 : Cond.methodLink "GoodsDownhill$Tally" 3 ⟨"java/lang/Object", "<init>", "()V"⟩ ∈ gtb := gtb_in (tin1 (List.mem_of_getElem? (i := 146) (by decide +kernel))) rfl
theorem w1_147 : Cond.fieldLink "GoodsDownhill$Tally" 15 "GoodsDownhill$Tally" "servedInAll" "I" ∈ gtb := gtb_in (tin1 (List.mem_of_getElem? (i := 147) (by decide +kernel))) rfl
theorem w1_148 : Cond.fieldLink "GoodsDownhill" 176 "GoodsDownhill$Tally" "servedInAll" "I" ∈ gtb := gtb_in (tin1 (List.mem_of_getElem? (i := 148) (by decide +kernel))) rfl
theorem w1_149 : Cond.fieldLink "GoodsDownhill$Tally" 22 "GoodsDownhill$Tally" "salesOfWeek" "I" ∈ gtb := gtb_in (tin1 (List.mem_of_getElem? (i := 149) (by decide +kernel))) rfl
theorem w1_15 : Cond.initialized "GoodsDownhill$Trade" ∈ gtb := gtb_in (tin1 (List.mem_of_getElem? (i := 15) (by decide +kernel))) rfl
theorem w1_150 : Cond.fieldLink "GoodsDownhill$Land" 105 "GoodsDownhill$Tally" "salesOfWeek" "I" ∈ gtb := gtb_in (tin1 (List.mem_of_getElem? (i := 150) (by decide +kernel))) rfl
theorem w1_151 : Cond.fieldLink "GoodsDownhill" 199 "GoodsDownhill$Tally" "salesOfWeek" "I" ∈ gtb := gtb_in (tin1 (List.mem_of_getElem? (i := 151) (by decide +kernel))) rfl
theorem w1_152 : Cond.fieldLink "GoodsDownhill$Tally" 25 "GoodsDownhill$Tally" "lacksOfWeek" "I" ∈ gtb := gtb_in (tin1 (List.mem_of_getElem? (i := 152) (by decide +kernel))) rfl
theorem w1_153 : Cond.fieldLink "GoodsDownhill" 193 "GoodsDownhill$Tally" "lacksOfWeek" "I" ∈ gtb := gtb_in (tin1 (List.mem_of_getElem? (i := 153) (by decide +kernel))) rfl
theorem w1_154 : Cond.fieldLink "GoodsDownhill$Tally" 9 "GoodsDownhill$Tally" "servedOf" "[I" ∈ gtb := gtb_in (tin1 (List.mem_of_getElem? (i := 154) (by decide +kernel))) rfl
theorem w1_155 : Cond.fieldLink "GoodsDownhill" 202 "GoodsDownhill$Tally" "servedOf" "[I" ∈ gtb := gtb_in (tin1 (List.mem_of_getElem? (i := 155) (by decide +kernel))) rfl
theorem w1_165 : Cond.classLink "GoodsDownhill" 32 "GoodsDownhill$Letters" ∈ gtb := gtb_in (tin1 (List.mem_of_getElem? (i := 165) (by decide +kernel))) rfl
theorem w1_166 : Cond.instantiable "GoodsDownhill$Letters" 2 ∈ gtb := gtb_in (tin1 (List.mem_of_getElem? (i := 166) (by decide +kernel))) rfl
theorem w1_168 : Cond.instanceMethod ⟨"GoodsDownhill$Letters", "<init>", "()V"⟩ ∈ gtb := gtb_in (tin1 (List.mem_of_getElem? (i := 168) (by decide +kernel))) rfl
theorem w1_169 : Cond.code ⟨"GoodsDownhill$Letters", "<init>", "()V"⟩ prog_9_method_1_code 1 none ∈ gtb := gtb_in (tin1 (List.mem_of_getElem? (i := 169) (by decide +kernel))) rfl
theorem w1_170 : Cond.methodLink "GoodsDownhill$Letters" 3 ⟨"java/lang/Object", "<init>", "()V"⟩ ∈ gtb := gtb_in (tin1 (List.mem_of_getElem? (i := 170) (by decide +kernel))) rfl
theorem w1_171 : Cond.fieldLink "GoodsDownhill$Letters" 9 "GoodsDownhill$Letters" "signs" "[I" ∈ gtb := gtb_in (tin1 (List.mem_of_getElem? (i := 171) (by decide +kernel))) rfl
theorem w1_172 : Cond.fieldLink "GoodsDownhill$Letters" 15 "GoodsDownhill$Letters" "size" "I" ∈ gtb := gtb_in (tin1 (List.mem_of_getElem? (i := 172) (by decide +kernel))) rfl
theorem w1_173 : Cond.fieldLink "GoodsDownhill" 58 "GoodsDownhill$Letters" "size" "I" ∈ gtb := gtb_in (tin1 (List.mem_of_getElem? (i := 173) (by decide +kernel))) rfl
theorem w1_179 : Cond.fieldLink "GoodsDownhill" 10 "GoodsDownhill" "now" "LGoodsDownhill$Land;" ∈ gtb := gtb_in (tin1 (List.mem_of_getElem? (i := 179) (by decide +kernel))) rfl
theorem w1_180 : Cond.fieldLink "GoodsDownhill" 16 "GoodsDownhill" "mind" "LGoodsDownhill$Land;" ∈ gtb := gtb_in (tin1 (List.mem_of_getElem? (i := 180) (by decide +kernel))) rfl
theorem w1_181 : Cond.fieldLink "GoodsDownhill" 19 "GoodsDownhill" "kept" "LGoodsDownhill$Land;" ∈ gtb := gtb_in (tin1 (List.mem_of_getElem? (i := 181) (by decide +kernel))) rfl
theorem w1_182 : Cond.fieldLink "GoodsDownhill" 240 "GoodsDownhill" "isKept" "Z" ∈ gtb := gtb_in (tin1 (List.mem_of_getElem? (i := 182) (by decide +kernel))) rfl
theorem w1_183 : Cond.fieldLink "GoodsDownhill" 25 "GoodsDownhill" "tally" "LGoodsDownhill$Tally;" ∈ gtb := gtb_in (tin1 (List.mem_of_getElem? (i := 183) (by decide +kernel))) rfl
theorem w1_184 : Cond.fieldLink "GoodsDownhill" 29 "GoodsDownhill" "otherTally" "LGoodsDownhill$Tally;" ∈ gtb := gtb_in (tin1 (List.mem_of_getElem? (i := 184) (by decide +kernel))) rfl
theorem w1_185 : Cond.fieldLink "GoodsDownhill" 35 "GoodsDownhill" "letters" "LGoodsDownhill$Letters;" ∈ gtb := gtb_in (tin1 (List.mem_of_getElem? (i := 185) (by decide +kernel))) rfl
theorem w1_186 : Cond.fieldLink "GoodsDownhill" 39 "GoodsDownhill" "toldSales" "[I" ∈ gtb := gtb_in (tin1 (List.mem_of_getElem? (i := 186) (by decide +kernel))) rfl
theorem w1_187 : Cond.fieldLink "GoodsDownhill" 154 "GoodsDownhill" "toldCount" "I" ∈ gtb := gtb_in (tin1 (List.mem_of_getElem? (i := 187) (by decide +kernel))) rfl
theorem w1_188 : Cond.fieldLink "GoodsDownhill" 43 "GoodsDownhill" "refusals" "[I" ∈ gtb := gtb_in (tin1 (List.mem_of_getElem? (i := 188) (by decide +kernel))) rfl
theorem w1_2 : Cond.initialized "GoodsDownhill$Land" ∈ gtb := gtb_in (tin1 (List.mem_of_getElem? (i := 2) (by decide +kernel))) rfl
theorem w1_21 : Cond.methodLink "GoodsDownhill" 1 ⟨"java/lang/Object", "<init>", "()V"⟩ ∈ gtb := gtb_in (tin1 (List.mem_of_getElem? (i := 21) (by decide +kernel))) rfl
theorem w1_214 : Cond.methodLink "GoodsDownhill" 46 ⟨"GoodsDownhill", "refuse", "(I)I"⟩ ∈ gtb := gtb_in (tin1 (List.mem_of_getElem? (i := 214) (by decide +kernel))) rfl
theorem w1_216 : Cond.instanceMethod ⟨"GoodsDownhill", "refuse", "(I)I"⟩ ∈ gtb := gtb_in (tin1 (List.mem_of_getElem? (i := 216) (by decide +kernel))) rfl
theorem w1_217 : Cond.code ⟨"GoodsDownhill", "refuse", "(I)I"⟩ prog_1_method_33_code 3 (some .int) ∈ gtb := gtb_in (tin1 (List.mem_of_getElem? (i := 217) (by decide +kernel))) rfl
theorem w1_218 : Cond.methodLink "GoodsDownhill" 50 ⟨"GoodsDownhill$Letters", "isFull", "()Z"⟩ ∈ gtb := gtb_in (tin1 (List.mem_of_getElem? (i := 218) (by decide +kernel))) rfl
theorem w1_219 : Cond.instanceMethod ⟨"GoodsDownhill$Letters", "isFull", "()Z"⟩ ∈ gtb := gtb_in (tin1 (List.mem_of_getElem? (i := 219) (by decide +kernel))) rfl
theorem w1_22 : Cond.instanceMethod ⟨"java/lang/Object", "<init>", "()V"⟩ ∈ gtb := gtb_in (tin1 (List.mem_of_getElem? (i := 22) (by decide +kernel))) rfl
theorem w1_220 : Cond.selects "GoodsDownhill$Letters" ⟨"GoodsDownhill$Letters", "isFull", "()Z"⟩ ⟨"GoodsDownhill$Letters", "isFull", "()Z"⟩ ∈ gtb := gtb_in (tin1 (List.mem_of_getElem? (i := 220) (by decide +kernel))) rfl
theorem w1_221 : Cond.code ⟨"GoodsDownhill$Letters", "isFull", "()Z"⟩ prog_9_method_2_code 1 (some .boolean) ∈ gtb := gtb_in (tin1 (List.mem_of_getElem? (i := 221) (by decide +kernel))) rfl
theorem w1_222 : Cond.methodLink "GoodsDownhill" 54 ⟨"GoodsDownhill$Letters", "add", "(I)V"⟩ ∈ gtb := gtb_in (tin1 (List.mem_of_getElem? (i := 222) (by decide +kernel))) rfl
theorem w1_223 : Cond.instanceMethod ⟨"GoodsDownhill$Letters", "add", "(I)V"⟩ ∈ gtb := gtb_in (tin1 (List.mem_of_getElem? (i := 223) (by decide +kernel))) rfl
theorem w1_224 : Cond.selects "GoodsDownhill$Letters" ⟨"GoodsDownhill$Letters", "add", "(I)V"⟩ ⟨"GoodsDownhill$Letters", "add", "(I)V"⟩ ∈ gtb := gtb_in (tin1 (List.mem_of_getElem? (i := 224) (by decide +kernel))) rfl
theorem w1_225 : Cond.code ⟨"GoodsDownhill$Letters", "add", "(I)V"⟩ prog_9_method_3_code 2 none ∈ gtb := gtb_in (tin1 (List.mem_of_getElem? (i := 225) (by decide +kernel))) rfl
theorem w1_226 : Cond.methodLink "GoodsDownhill$Letters" 19 ⟨"GoodsDownhill$Letters", "isFull", "()Z"⟩ ∈ gtb := gtb_in (tin1 (List.mem_of_getElem? (i := 226) (by decide +kernel))) rfl
theorem w1_23 : Cond.code ⟨"java/lang/Object", "<init>", "()V"⟩ object_method_1_code 1 none ∈ gtb := gtb_in (tin1 (List.mem_of_getElem? (i := 23) (by decide +kernel))) rfl
theorem w1_231 : Cond.methodLink "GoodsDownhill" 62 ⟨"GoodsDownhill$Land", "copyFrom", "(LGoodsDownhill$Land;)V"⟩ ∈ gtb := gtb_in (tin1 (List.mem_of_getElem? (i := 231) (by decide +kernel))) rfl
theorem w1_232 : Cond.instanceMethod ⟨"GoodsDownhill$Land", "copyFrom", "(LGoodsDownhill$Land;)V"⟩ ∈ gtb := gtb_in (tin1 (List.mem_of_getElem? (i := 232) (by decide +kernel))) rfl
theorem w1_233 : Cond.selects "GoodsDownhill$Land" ⟨"GoodsDownhill$Land", "copyFrom", "(LGoodsDownhill$Land;)V"⟩ ⟨"GoodsDownhill$Land", "copyFrom", "(LGoodsDownhill$Land;)V"⟩ ∈ gtb := gtb_in (tin1 (List.mem_of_getElem? (i := 233) (by decide +kernel))) rfl
theorem w1_234 : Cond.code ⟨"GoodsDownhill$Land", "copyFrom", "(LGoodsDownhill$Land;)V"⟩ prog_8_method_2_code 3 none ∈ gtb := gtb_in (tin1 (List.mem_of_getElem? (i := 234) (by decide +kernel))) rfl
theorem w1_235 : Cond.methodLink "GoodsDownhill$Land" 41 ⟨"java/lang/System", "arraycopy", "(Ljava/lang/Object;ILjava/lang/Object;II)V"⟩ ∈ gtb := gtb_in (tin1 (List.mem_of_getElem? (i := 235) (by decide +kernel))) rfl
theorem w1_236 : Cond.static ⟨"java/lang/System", "arraycopy", "(Ljava/lang/Object;ILjava/lang/Object;II)V"⟩ ∈ gtb := gtb_in (tin1 (List.mem_of_getElem? (i := 236) (by decide +kernel))) rfl
theorem w1_237 : Cond.native ⟨"java/lang/System", "arraycopy", "(Ljava/lang/Object;ILjava/lang/Object;II)V"⟩ ∈ gtb := gtb_in (tin1 (List.mem_of_getElem? (i := 237) (by decide +kernel))) rfl
theorem w1_238 : Cond.methodLink "GoodsDownhill$Land" 47 ⟨"GoodsDownhill$Debts", "copyFrom", "(LGoodsDownhill$Debts;)V"⟩ ∈ gtb := gtb_in (tin1 (List.mem_of_getElem? (i := 238) (by decide +kernel))) rfl
theorem w1_239 : Cond.instanceMethod ⟨"GoodsDownhill$Debts", "copyFrom", "(LGoodsDownhill$Debts;)V"⟩ ∈ gtb := gtb_in (tin1 (List.mem_of_getElem? (i := 239) (by decide +kernel))) rfl
theorem w1_24 : Cond.classLink "GoodsDownhill" 7 "GoodsDownhill$Land" ∈ gtb := gtb_in (tin1 (List.mem_of_getElem? (i := 24) (by decide +kernel))) rfl
theorem w1_25 : Cond.instantiable "GoodsDownhill$Land" 9 ∈ gtb := gtb_in (tin1 (List.mem_of_getElem? (i := 25) (by decide +kernel))) rfl
theorem w1_26 : Cond.methodLink "GoodsDownhill" 9 ⟨"GoodsDownhill$Land", "<init>", "()V"⟩ ∈ gtb := gtb_in (tin1 (List.mem_of_getElem? (i := 26) (by decide +kernel))) rfl
theorem w1_27 : Cond.instanceMethod ⟨"GoodsDownhill$Land", "<init>", "()V"⟩ ∈ gtb := gtb_in (tin1 (List.mem_of_getElem? (i := 27) (by decide +kernel))) rfl
theorem w1_28 : Cond.code ⟨"GoodsDownhill$Land", "<init>", "()V"⟩ prog_8_method_1_code 3 none ∈ gtb := gtb_in (tin1 (List.mem_of_getElem? (i := 28) (by decide +kernel))) rfl
theorem w1_29 : Cond.methodLink "GoodsDownhill$Land" 3 ⟨"java/lang/Object", "<init>", "()V"⟩ ∈ gtb := gtb_in (tin1 (List.mem_of_getElem? (i := 29) (by decide +kernel))) rfl
theorem w1_3 : Cond.initialized "GoodsDownhill$Debts" ∈ gtb := gtb_in (tin1 (List.mem_of_getElem? (i := 3) (by decide +kernel))) rfl
theorem w1_30 : Cond.classLink "GoodsDownhill$Land" 9 "GoodsDownhill$House" ∈ gtb := gtb_in (tin1 (List.mem_of_getElem? (i := 30) (by decide +kernel))) rfl
theorem w1_32 : Cond.classLink "GoodsDownhill$Land" 27 "GoodsDownhill$Debts" ∈ gtb := gtb_in (tin1 (List.mem_of_getElem? (i := 32) (by decide +kernel))) rfl
theorem w1_33 : Cond.instantiable "GoodsDownhill$Debts" 1 ∈ gtb := gtb_in (tin1 (List.mem_of_getElem? (i := 33) (by decide +kernel))) rfl
theorem w1_35 : Cond.instanceMethod ⟨"GoodsDownhill$Debts", "<init>", "()V"⟩ ∈ gtb := gtb_in (tin1 (List.mem_of_getElem? (i := 35) (by decide +kernel))) rfl
theorem w1_36 : Cond.code ⟨"GoodsDownhill$Debts", "<init>", "()V"⟩ prog_3_method_1_code 1 none ∈ gtb := gtb_in (tin1 (List.mem_of_getElem? (i := 36) (by decide +kernel))) rfl
theorem w1_37 : Cond.methodLink "GoodsDownhill$Debts" 3 ⟨"java/lang/Object", "<init>", "()V"⟩ ∈ gtb := gtb_in (tin1 (List.mem_of_getElem? (i := 37) (by decide +kernel))) rfl
theorem w1_38 : Cond.fieldLink "GoodsDownhill$Debts" 9 "GoodsDownhill$Debts" "sums" "[I" ∈ gtb := gtb_in (tin1 (List.mem_of_getElem? (i := 38) (by decide +kernel))) rfl
theorem w1_4 : Cond.initialized "GoodsDownhill$House" ∈ gtb := gtb_in (tin1 (List.mem_of_getElem? (i := 4) (by decide +kernel))) rfl
theorem w1_42 : Cond.arrayClass .int ∈ gtb := gtb_in (tin1 (List.mem_of_getElem? (i := 42) (by decide +kernel))) rfl
theorem w1_43 : Cond.instantiable "GoodsDownhill$House" 6 ∈ gtb := gtb_in (tin1 (List.mem_of_getElem? (i := 43) (by decide +kernel))) rfl
theorem w1_44 : Cond.methodLink "GoodsDownhill$Land" 34 ⟨"GoodsDownhill$House", "<init>", "(IIIIII)V"⟩ ∈ gtb := gtb_in (tin1 (List.mem_of_getElem? (i := 44) (by decide +kernel))) rfl
theorem w1_45 : Cond.instanceMethod ⟨"GoodsDownhill$House", "<init>", "(IIIIII)V"⟩ ∈ gtb := gtb_in (tin1 (List.mem_of_getElem? (i := 45) (by decide +kernel))) rfl
theorem w1_46 : Cond.code ⟨"GoodsDownhill$House", "<init>", "(IIIIII)V"⟩ prog_6_method_1_code 7 none ∈ gtb := gtb_in (tin1 (List.mem_of_getElem? (i := 46) (by decide +kernel))) rfl
theorem w1_47 : Cond.methodLink "GoodsDownhill$House" 1 ⟨"java/lang/Object", "<init>", "()V"⟩ ∈ gtb := gtb_in (tin1 (List.mem_of_getElem? (i := 47) (by decide +kernel))) rfl
theorem w1_48 : Cond.fieldLink "GoodsDownhill$House" 7 "GoodsDownhill$House" "figure" "I" ∈ gtb := gtb_in (tin1 (List.mem_of_getElem? (i := 48) (by decide +kernel))) rfl
theorem w1_49 : Cond.fieldLink "GoodsDownhill$Market" 13 "GoodsDownhill$Market" "figure" "I" ∈ gtb := gtb_in (tin1 (List.mem_of_getElem? (i := 49) (by decide +kernel))) rfl
theorem w1_5 : Cond.initialized "GoodsDownhill$Tally" ∈ gtb := gtb_in (tin1 (List.mem_of_getElem? (i := 5) (by decide +kernel))) rfl
theorem w1_50 : Cond.sameField "GoodsDownhill$Market" "GoodsDownhill$House" "figure" "I" ∈ gtb := gtb_in (tin1 (List.mem_of_getElem? (i := 50) (by decide +kernel))) rfl
theorem w1_51 : Cond.fieldLink "GoodsDownhill$Joined" 13 "GoodsDownhill$Joined" "figure" "I" ∈ gtb := gtb_in (tin1 (List.mem_of_getElem? (i := 51) (by decide +kernel))) rfl
theorem w1_52 : Cond.sameField "GoodsDownhill$Joined" "GoodsDownhill$House" "figure" "I" ∈ gtb := gtb_in (tin1 (List.mem_of_getElem? (i := 52) (by decide +kernel))) rfl
theorem w1_53 : Cond.fieldLink "GoodsDownhill$Feigned" 13 "GoodsDownhill$Feigned" "figure" "I" ∈ gtb := gtb_in (tin1 (List.mem_of_getElem? (i := 53) (by decide +kernel))) rfl
theorem w1_54 : Cond.sameField "GoodsDownhill$Feigned" "GoodsDownhill$House" "figure" "I" ∈ gtb := gtb_in (tin1 (List.mem_of_getElem? (i := 54) (by decide +kernel))) rfl
theorem w1_55 : Cond.fieldLink "GoodsDownhill$Cellared" 27 "GoodsDownhill$Cellared" "figure" "I" ∈ gtb := gtb_in (tin1 (List.mem_of_getElem? (i := 55) (by decide +kernel))) rfl
theorem w1_56 : Cond.sameField "GoodsDownhill$Cellared" "GoodsDownhill$House" "figure" "I" ∈ gtb := gtb_in (tin1 (List.mem_of_getElem? (i := 56) (by decide +kernel))) rfl
theorem w1_57 : Cond.fieldLink "GoodsDownhill" 84 "GoodsDownhill$House" "figure" "I" ∈ gtb := gtb_in (tin1 (List.mem_of_getElem? (i := 57) (by decide +kernel))) rfl
theorem w1_58 : Cond.fieldLink "GoodsDownhill$House" 13 "GoodsDownhill$House" "height" "I" ∈ gtb := gtb_in (tin1 (List.mem_of_getElem? (i := 58) (by decide +kernel))) rfl
theorem w1_59 : Cond.fieldLink "GoodsDownhill$Cellared" 9 "GoodsDownhill$House" "height" "I" ∈ gtb := gtb_in (tin1 (List.mem_of_getElem? (i := 59) (by decide +kernel))) rfl
theorem w1_6 : Cond.initialized "GoodsDownhill$Letters" ∈ gtb := gtb_in (tin1 (List.mem_of_getElem? (i := 6) (by decide +kernel))) rfl
theorem w1_60 : Cond.fieldLink "GoodsDownhill$Market" 7 "GoodsDownhill$Market" "height" "I" ∈ gtb := gtb_in (tin1 (List.mem_of_getElem? (i := 60) (by decide +kernel))) rfl
theorem w1_61 : Cond.sameField "GoodsDownhill$Market" "GoodsDownhill$House" "height" "I" ∈ gtb := gtb_in (tin1 (List.mem_of_getElem? (i := 61) (by decide +kernel))) rfl
theorem w1_62 : Cond.fieldLink "GoodsDownhill$Joined" 7 "GoodsDownhill$Joined" "height" "I" ∈ gtb := gtb_in (tin1 (List.mem_of_getElem? (i := 62) (by decide +kernel))) rfl
theorem w1_63 : Cond.sameField "GoodsDownhill$Joined" "GoodsDownhill$House" "height" "I" ∈ gtb := gtb_in (tin1 (List.mem_of_getElem? (i := 63) (by decide +kernel))) rfl
theorem w1_64 : Cond.fieldLink "GoodsDownhill$Feigned" 7 "GoodsDownhill$Feigned" "height" "I" ∈ gtb := gtb_in (tin1 (List.mem_of_getElem? (i := 64) (by decide +kernel))) rfl
theorem w1_65 : Cond.sameField "GoodsDownhill$Feigned" "GoodsDownhill$House" "height" "I" ∈ gtb := gtb_in (tin1 (List.mem_of_getElem? (i := 65) (by decide +kernel))) rfl
theorem w1_66 : Cond.fieldLink "GoodsDownhill$Cellared" 26 "GoodsDownhill$Cellared" "height" "I" ∈ gtb := gtb_in (tin1 (List.mem_of_getElem? (i := 66) (by decide +kernel))) rfl
theorem w1_67 : Cond.sameField "GoodsDownhill$Cellared" "GoodsDownhill$House" "height" "I" ∈ gtb := gtb_in (tin1 (List.mem_of_getElem? (i := 67) (by decide +kernel))) rfl
theorem w1_68 : Cond.fieldLink "GoodsDownhill" 87 "GoodsDownhill$House" "height" "I" ∈ gtb := gtb_in (tin1 (List.mem_of_getElem? (i := 68) (by decide +kernel))) rfl
theorem w1_69 : Cond.fieldLink "GoodsDownhill$House" 16 "GoodsDownhill$House" "madeGood" "I" ∈ gtb := gtb_in (tin1 (List.mem_of_getElem? (i := 69) (by decide +kernel))) rfl
theorem w1_7 : Cond.initialized "GoodsDownhillModel" ∈ gtb := gtb_in (tin1 (List.mem_of_getElem? (i := 7) (by decide +kernel))) rfl
theorem w1_70 : Cond.fieldLink "GoodsDownhill$Cellared" 13 "GoodsDownhill$House" "madeGood" "I" ∈ gtb := gtb_in (tin1 (List.mem_of_getElem? (i := 70) (by decide +kernel))) rfl
theorem w1_71 : Cond.fieldLink "GoodsDownhill" 96 "GoodsDownhill$House" "madeGood" "I" ∈ gtb := gtb_in (tin1 (List.mem_of_getElem? (i := 71) (by decide +kernel))) rfl
theorem w1_72 : Cond.fieldLink "GoodsDownhill$Land" 121 "GoodsDownhill$House" "madeGood" "I" ∈ gtb := gtb_in (tin1 (List.mem_of_getElem? (i := 72) (by decide +kernel))) rfl
theorem w1_73 : Cond.fieldLink "GoodsDownhill$House" 19 "GoodsDownhill$House" "makes" "I" ∈ gtb := gtb_in (tin1 (List.mem_of_getElem? (i := 73) (by decide +kernel))) rfl
theorem w1_74 : Cond.fieldLink "GoodsDownhill$Cellared" 16 "GoodsDownhill$House" "makes" "I" ∈ gtb := gtb_in (tin1 (List.mem_of_getElem? (i := 74) (by decide +kernel))) rfl
theorem w1_75 : Cond.fieldLink "GoodsDownhill" 99 "GoodsDownhill$House" "makes" "I" ∈ gtb := gtb_in (tin1 (List.mem_of_getElem? (i := 75) (by decide +kernel))) rfl
theorem w1_76 : Cond.fieldLink "GoodsDownhill$Land" 124 "GoodsDownhill$House" "makes" "I" ∈ gtb := gtb_in (tin1 (List.mem_of_getElem? (i := 76) (by decide +kernel))) rfl
theorem w1_77 : Cond.fieldLink "GoodsDownhill$House" 22 "GoodsDownhill$House" "wantedGood" "I" ∈ gtb := gtb_in (tin1 (List.mem_of_getElem? (i := 77) (by decide +kernel))) rfl
theorem w1_78 : Cond.fieldLink "GoodsDownhill$Cellared" 19 "GoodsDownhill$House" "wantedGood" "I" ∈ gtb := gtb_in (tin1 (List.mem_of_getElem? (i := 78) (by decide +kernel))) rfl
theorem w1_79 : Cond.fieldLink "GoodsDownhill" 102 "GoodsDownhill$House" "wantedGood" "I" ∈ gtb := gtb_in (tin1 (List.mem_of_getElem? (i := 79) (by decide +kernel))) rfl
theorem w1_8 : Cond.initialized "java/lang/System" ∈ gtb := gtb_in (tin1 (List.mem_of_getElem? (i := 8) (by decide +kernel))) rfl
theorem w1_80 : Cond.fieldLink "GoodsDownhill$Land" 132 "GoodsDownhill$House" "wantedGood" "I" ∈ gtb := gtb_in (tin1 (List.mem_of_getElem? (i := 80) (by decide +kernel))) rfl
theorem w1_81 : Cond.fieldLink "GoodsDownhill$House" 25 "GoodsDownhill$House" "wants" "I" ∈ gtb := gtb_in (tin1 (List.mem_of_getElem? (i := 81) (by decide +kernel))) rfl
theorem w1_82 : Cond.fieldLink "GoodsDownhill$Cellared" 22 "GoodsDownhill$House" "wants" "I" ∈ gtb := gtb_in (tin1 (List.mem_of_getElem? (i := 82) (by decide +kernel))) rfl
theorem w1_83 : Cond.fieldLink "GoodsDownhill" 105 "GoodsDownhill$House" "wants" "I" ∈ gtb := gtb_in (tin1 (List.mem_of_getElem? (i := 83) (by decide +kernel))) rfl
theorem w1_84 : Cond.fieldLink "GoodsDownhill$Trade" 52 "GoodsDownhill$House" "wants" "I" ∈ gtb := gtb_in (tin1 (List.mem_of_getElem? (i := 84) (by decide +kernel))) rfl
theorem w1_85 : Cond.fieldLink "GoodsDownhill$Land" 115 "GoodsDownhill$House" "wants" "I" ∈ gtb := gtb_in (tin1 (List.mem_of_getElem? (i := 85) (by decide +kernel))) rfl
theorem w1_9 : Cond.initialized "GoodsDownhill$Cellared" ∈ gtb := gtb_in (tin1 (List.mem_of_getElem? (i := 9) (by decide +kernel))) rfl
theorem w1_99 : Cond.fieldLink "GoodsDownhill$Land" 11 "GoodsDownhill$Land" "houses" "[LGoodsDownhill$House;" ∈ gtb := gtb_in (tin1 (List.mem_of_getElem? (i := 99) (by decide +kernel))) rfl
theorem w2_0 : Cond.selects "GoodsDownhill$Debts" ⟨"GoodsDownhill$Debts", "copyFrom", "(LGoodsDownhill$Debts;)V"⟩ ⟨"GoodsDownhill$Debts", "copyFrom", "(LGoodsDownhill$Debts;)V"⟩ ∈ gtb := gtb_in (tin2 (List.mem_of_getElem? (i := 0) (by decide +kernel))) rfl
theorem w2_1 : Cond.code ⟨"GoodsDownhill$Debts", "copyFrom", "(LGoodsDownhill$Debts;)V"⟩ prog_3_method_2_code 2 none ∈ gtb := gtb_in (tin2 (List.mem_of_getElem? (i := 1) (by decide +kernel))) rfl
theorem w2_10 : Cond.code ⟨"GoodsDownhill$Letters", "firstWrongPlace", "()I"⟩ prog_9_method_4_code 5 (some .int) ∈ gtb := gtb_in (tin2 (List.mem_of_getElem? (i := 10) (by decide +kernel))) rfl
theorem w2_107 : Cond.methodLink "GoodsDownhill$Letters" 85 ⟨"GoodsDownhill$Land", "addHouse", "(LGoodsDownhill$House;I)Z"⟩ ∈ gtb := gtb_in (tin2 (List.mem_of_getElem? (i := 107) (by decide +kernel))) rfl
theorem w2_108 : Cond.instanceMethod ⟨"GoodsDownhill$Land", "addHouse", "(LGoodsDownhill$House;I)Z"⟩ ∈ gtb := gtb_in (tin2 (List.mem_of_getElem? (i := 108) (by decide +kernel))) rfl
theorem w2_109 : Cond.selects "GoodsDownhill$Land" ⟨"GoodsDownhill$Land", "addHouse", "(LGoodsDownhill$House;I)Z"⟩ ⟨"GoodsDownhill$Land", "addHouse", "(LGoodsDownhill$House;I)Z"⟩ ∈ gtb := gtb_in (tin2 (List.mem_of_getElem? (i := 109) (by decide +kernel))) rfl
theorem w2_11 : Cond.methodLink "GoodsDownhill$Letters" 23 ⟨"GoodsDownhill$Letters", "mostDigits", "(I)I"⟩ ∈ gtb := gtb_in (tin2 (List.mem_of_getElem? (i := 11) (by decide +kernel))) rfl
theorem w2_110 : Cond.code ⟨"GoodsDownhill$Land", "addHouse", "(LGoodsDownhill$House;I)Z"⟩ prog_8_method_3_code 3 (some .boolean) ∈ gtb := gtb_in (tin2 (List.mem_of_getElem? (i := 110) (by decide +kernel))) rfl
theorem w2_111 : Cond.methodLink "GoodsDownhill$Letters" 48 ⟨"GoodsDownhill$Letters", "tellPrice", "(LGoodsDownhill$Land;I)Z"⟩ ∈ gtb := gtb_in (tin2 (List.mem_of_getElem? (i := 111) (by decide +kernel))) rfl
theorem w2_113 : Cond.instanceMethod ⟨"GoodsDownhill$Letters", "tellPrice", "(LGoodsDownhill$Land;I)Z"⟩ ∈ gtb := gtb_in (tin2 (List.mem_of_getElem? (i := 113) (by decide +kernel))) rfl
theorem w2_114 : Cond.code ⟨"GoodsDownhill$Letters", "tellPrice", "(LGoodsDownhill$Land;I)Z"⟩ prog_9_method_13_code 5 (some .boolean) ∈ gtb := gtb_in (tin2 (List.mem_of_getElem? (i := 114) (by decide +kernel))) rfl
theorem w2_115 : Cond.methodLink "GoodsDownhill$Letters" 52 ⟨"GoodsDownhill$Letters", "tellLaw", "(LGoodsDownhill$Land;I)Z"⟩ ∈ gtb := gtb_in (tin2 (List.mem_of_getElem? (i := 115) (by decide +kernel))) rfl
theorem w2_117 : Cond.instanceMethod ⟨"GoodsDownhill$Letters", "tellLaw", "(LGoodsDownhill$Land;I)Z"⟩ ∈ gtb := gtb_in (tin2 (List.mem_of_getElem? (i := 117) (by decide +kernel))) rfl
theorem w2_118 : Cond.code ⟨"GoodsDownhill$Letters", "tellLaw", "(LGoodsDownhill$Land;I)Z"⟩ prog_9_method_14_code 4 (some .boolean) ∈ gtb := gtb_in (tin2 (List.mem_of_getElem? (i := 118) (by decide +kernel))) rfl
theorem w2_12 : Cond.static ⟨"GoodsDownhill$Letters", "mostDigits", "(I)I"⟩ ∈ gtb := gtb_in (tin2 (List.mem_of_getElem? (i := 12) (by decide +kernel))) rfl
theorem w2_120 : Cond.static ⟨"GoodsDownhill", "isLaw", "(I)Z"⟩ ∈ gtb := gtb_in (tin2 (List.mem_of_getElem? (i := 120) (by decide +kernel))) rfl
theorem w2_121 : Cond.code ⟨"GoodsDownhill", "isLaw", "(I)Z"⟩ prog_1_method_35_code 1 (some .boolean) ∈ gtb := gtb_in (tin2 (List.mem_of_getElem? (i := 121) (by decide +kernel))) rfl
theorem w2_122 : Cond.methodLink "GoodsDownhill$Letters" 55 ⟨"GoodsDownhill$Letters", "tellDebt", "(LGoodsDownhill$Land;II)Z"⟩ ∈ gtb := gtb_in (tin2 (List.mem_of_getElem? (i := 122) (by decide +kernel))) rfl
theorem w2_124 : Cond.instanceMethod ⟨"GoodsDownhill$Letters", "tellDebt", "(LGoodsDownhill$Land;II)Z"⟩ ∈ gtb := gtb_in (tin2 (List.mem_of_getElem? (i := 124) (by decide +kernel))) rfl
theorem w2_125 : Cond.code ⟨"GoodsDownhill$Letters", "tellDebt", "(LGoodsDownhill$Land;II)Z"⟩ prog_9_method_15_code 6 (some .boolean) ∈ gtb := gtb_in (tin2 (List.mem_of_getElem? (i := 125) (by decide +kernel))) rfl
theorem w2_126 : Cond.methodLink "GoodsDownhill$Letters" 100 ⟨"GoodsDownhill$Land", "areTwo", "(II)Z"⟩ ∈ gtb := gtb_in (tin2 (List.mem_of_getElem? (i := 126) (by decide +kernel))) rfl
theorem w2_127 : Cond.instanceMethod ⟨"GoodsDownhill$Land", "areTwo", "(II)Z"⟩ ∈ gtb := gtb_in (tin2 (List.mem_of_getElem? (i := 127) (by decide +kernel))) rfl
theorem w2_128 : Cond.selects "GoodsDownhill$Land" ⟨"GoodsDownhill$Land", "areTwo", "(II)Z"⟩ ⟨"GoodsDownhill$Land", "areTwo", "(II)Z"⟩ ∈ gtb := gtb_in (tin2 (List.mem_of_getElem? (i := 128) (by decide +kernel))) rfl
theorem w2_129 : Cond.code ⟨"GoodsDownhill$Land", "areTwo", "(II)Z"⟩ prog_8_method_5_code 3 (some .boolean) ∈ gtb := gtb_in (tin2 (List.mem_of_getElem? (i := 129) (by decide +kernel))) rfl
theorem w2_13 : Cond.code ⟨"GoodsDownhill$Letters", "mostDigits", "(I)I"⟩ prog_9_method_7_code 1 (some .int) ∈ gtb := gtb_in (tin2 (List.mem_of_getElem? (i := 13) (by decide +kernel))) rfl
theorem w2_130 : Cond.methodLink "GoodsDownhill$Land" 60 ⟨"GoodsDownhill$Land", "hasHouse", "(I)Z"⟩ ∈ gtb := gtb_in (tin2 (List.mem_of_getElem? (i := 130) (by decide +kernel))) rfl
theorem w2_131 : Cond.instanceMethod ⟨"GoodsDownhill$Land", "hasHouse", "(I)Z"⟩ ∈ gtb := gtb_in (tin2 (List.mem_of_getElem? (i := 131) (by decide +kernel))) rfl
theorem w2_132 : Cond.selects "GoodsDownhill$Land" ⟨"GoodsDownhill$Land", "hasHouse", "(I)Z"⟩ ⟨"GoodsDownhill$Land", "hasHouse", "(I)Z"⟩ ∈ gtb := gtb_in (tin2 (List.mem_of_getElem? (i := 132) (by decide +kernel))) rfl
theorem w2_133 : Cond.code ⟨"GoodsDownhill$Land", "hasHouse", "(I)Z"⟩ prog_8_method_4_code 2 (some .boolean) ∈ gtb := gtb_in (tin2 (List.mem_of_getElem? (i := 133) (by decide +kernel))) rfl
theorem w2_134 : Cond.methodLink "GoodsDownhill$Letters" 108 ⟨"GoodsDownhill$Debts", "put", "(III)V"⟩ ∈ gtb := gtb_in (tin2 (List.mem_of_getElem? (i := 134) (by decide +kernel))) rfl
theorem w2_135 : Cond.instanceMethod ⟨"GoodsDownhill$Debts", "put", "(III)V"⟩ ∈ gtb := gtb_in (tin2 (List.mem_of_getElem? (i := 135) (by decide +kernel))) rfl
theorem w2_136 : Cond.selects "GoodsDownhill$Debts" ⟨"GoodsDownhill$Debts", "put", "(III)V"⟩ ⟨"GoodsDownhill$Debts", "put", "(III)V"⟩ ∈ gtb := gtb_in (tin2 (List.mem_of_getElem? (i := 136) (by decide +kernel))) rfl
theorem w2_137 : Cond.code ⟨"GoodsDownhill$Debts", "put", "(III)V"⟩ prog_3_method_4_code 4 none ∈ gtb := gtb_in (tin2 (List.mem_of_getElem? (i := 137) (by decide +kernel))) rfl
theorem w2_14 : Cond.methodLink "GoodsDownhill$Letters" 27 ⟨"GoodsDownhill$Letters", "endOfDigits", "(II)I"⟩ ∈ gtb := gtb_in (tin2 (List.mem_of_getElem? (i := 14) (by decide +kernel))) rfl
theorem w2_142 : Cond.methodLink "GoodsDownhill" 70 ⟨"GoodsDownhill$Land", "hasHouse", "(I)Z"⟩ ∈ gtb := gtb_in (tin2 (List.mem_of_getElem? (i := 142) (by decide +kernel))) rfl
theorem w2_143 : Cond.methodLink "GoodsDownhill" 78 ⟨"GoodsDownhill$House", "kind", "()I"⟩ ∈ gtb := gtb_in (tin2 (List.mem_of_getElem? (i := 143) (by decide +kernel))) rfl
theorem w2_144 : Cond.instanceMethod ⟨"GoodsDownhill$House", "kind", "()I"⟩ ∈ gtb := gtb_in (tin2 (List.mem_of_getElem? (i := 144) (by decide +kernel))) rfl
theorem w2_145 : Cond.selects "GoodsDownhill$House" ⟨"GoodsDownhill$House", "kind", "()I"⟩ ⟨"GoodsDownhill$House", "kind", "()I"⟩ ∈ gtb := gtb_in (tin2 (List.mem_of_getElem? (i := 145) (by decide +kernel))) rfl
theorem w2_146 : Cond.sameMethod "GoodsDownhill$House" "GoodsDownhill$House" "kind" "()I" ∈ gtb := gtb_in (tin2 (List.mem_of_getElem? (i := 146) (by decide +kernel))) rfl
theorem w2_147 : Cond.selects "GoodsDownhill$Cellared" ⟨"GoodsDownhill$House", "kind", "()I"⟩ ⟨"GoodsDownhill$Cellared", "kind", "()I"⟩ ∈ gtb := gtb_in (tin2 (List.mem_of_getElem? (i := 147) (by decide +kernel))) rfl
theorem w2_148 : Cond.instanceMethod ⟨"GoodsDownhill$Cellared", "kind", "()I"⟩ ∈ gtb := gtb_in (tin2 (List.mem_of_getElem? (i := 148) (by decide +kernel))) rfl
theorem w2_149 : Cond.code ⟨"GoodsDownhill$Cellared", "kind", "()I"⟩ prog_2_method_3_code 1 (some .int) ∈ gtb := gtb_in (tin2 (List.mem_of_getElem? (i := 149) (by decide +kernel))) rfl
theorem w2_150 : Cond.selects "GoodsDownhill$Feigned" ⟨"GoodsDownhill$House", "kind", "()I"⟩ ⟨"GoodsDownhill$Feigned", "kind", "()I"⟩ ∈ gtb := gtb_in (tin2 (List.mem_of_getElem? (i := 150) (by decide +kernel))) rfl
theorem w2_151 : Cond.instanceMethod ⟨"GoodsDownhill$Feigned", "kind", "()I"⟩ ∈ gtb := gtb_in (tin2 (List.mem_of_getElem? (i := 151) (by decide +kernel))) rfl
theorem w2_152 : Cond.code ⟨"GoodsDownhill$Feigned", "kind", "()I"⟩ prog_4_method_2_code 1 (some .int) ∈ gtb := gtb_in (tin2 (List.mem_of_getElem? (i := 152) (by decide +kernel))) rfl
theorem w2_153 : Cond.selects "GoodsDownhill$Hermit" ⟨"GoodsDownhill$House", "kind", "()I"⟩ ⟨"GoodsDownhill$Hermit", "kind", "()I"⟩ ∈ gtb := gtb_in (tin2 (List.mem_of_getElem? (i := 153) (by decide +kernel))) rfl
theorem w2_154 : Cond.instanceMethod ⟨"GoodsDownhill$Hermit", "kind", "()I"⟩ ∈ gtb := gtb_in (tin2 (List.mem_of_getElem? (i := 154) (by decide +kernel))) rfl
theorem w2_155 : Cond.code ⟨"GoodsDownhill$Hermit", "kind", "()I"⟩ prog_5_method_2_code 1 (some .int) ∈ gtb := gtb_in (tin2 (List.mem_of_getElem? (i := 155) (by decide +kernel))) rfl
theorem w2_156 : Cond.selects "GoodsDownhill$Joined" ⟨"GoodsDownhill$House", "kind", "()I"⟩ ⟨"GoodsDownhill$Joined", "kind", "()I"⟩ ∈ gtb := gtb_in (tin2 (List.mem_of_getElem? (i := 156) (by decide +kernel))) rfl
theorem w2_157 : Cond.instanceMethod ⟨"GoodsDownhill$Joined", "kind", "()I"⟩ ∈ gtb := gtb_in (tin2 (List.mem_of_getElem? (i := 157) (by decide +kernel))) rfl
theorem w2_158 : Cond.code ⟨"GoodsDownhill$Joined", "kind", "()I"⟩ prog_7_method_2_code 1 (some .int) ∈ gtb := gtb_in (tin2 (List.mem_of_getElem? (i := 158) (by decide +kernel))) rfl
theorem w2_159 : Cond.selects "GoodsDownhill$Market" ⟨"GoodsDownhill$House", "kind", "()I"⟩ ⟨"GoodsDownhill$Market", "kind", "()I"⟩ ∈ gtb := gtb_in (tin2 (List.mem_of_getElem? (i := 159) (by decide +kernel))) rfl
theorem w2_16 : Cond.instanceMethod ⟨"GoodsDownhill$Letters", "endOfDigits", "(II)I"⟩ ∈ gtb := gtb_in (tin2 (List.mem_of_getElem? (i := 16) (by decide +kernel))) rfl
theorem w2_160 : Cond.instanceMethod ⟨"GoodsDownhill$Market", "kind", "()I"⟩ ∈ gtb := gtb_in (tin2 (List.mem_of_getElem? (i := 160) (by decide +kernel))) rfl
theorem w2_161 : Cond.code ⟨"GoodsDownhill$Market", "kind", "()I"⟩ prog_10_method_2_code 1 (some .int) ∈ gtb := gtb_in (tin2 (List.mem_of_getElem? (i := 161) (by decide +kernel))) rfl
theorem w2_162 : Cond.code ⟨"GoodsDownhill$House", "kind", "()I"⟩ prog_6_method_2_code 1 (some .int) ∈ gtb := gtb_in (tin2 (List.mem_of_getElem? (i := 162) (by decide +kernel))) rfl
theorem w2_163 : Cond.methodLink "GoodsDownhill" 90 ⟨"GoodsDownhill$House", "sellsAt", "()I"⟩ ∈ gtb := gtb_in (tin2 (List.mem_of_getElem? (i := 163) (by decide +kernel))) rfl
theorem w2_164 : Cond.instanceMethod ⟨"GoodsDownhill$House", "sellsAt", "()I"⟩ ∈ gtb := gtb_in (tin2 (List.mem_of_getElem? (i := 164) (by decide +kernel))) rfl
theorem w2_165 : Cond.selects "GoodsDownhill$House" ⟨"GoodsDownhill$House", "sellsAt", "()I"⟩ ⟨"GoodsDownhill$House", "sellsAt", "()I"⟩ ∈ gtb := gtb_in (tin2 (List.mem_of_getElem? (i := 165) (by decide +kernel))) rfl
theorem w2_166 : Cond.sameMethod "GoodsDownhill$House" "GoodsDownhill$House" "sellsAt" "()I" ∈ gtb := gtb_in (tin2 (List.mem_of_getElem? (i := 166) (by decide +kernel))) rfl
theorem w2_167 : Cond.selects "GoodsDownhill$Cellared" ⟨"GoodsDownhill$House", "sellsAt", "()I"⟩ ⟨"GoodsDownhill$House", "sellsAt", "()I"⟩ ∈ gtb := gtb_in (tin2 (List.mem_of_getElem? (i := 167) (by decide +kernel))) rfl
theorem w2_168 : Cond.selects "GoodsDownhill$Feigned" ⟨"GoodsDownhill$House", "sellsAt", "()I"⟩ ⟨"GoodsDownhill$Market", "sellsAt", "()I"⟩ ∈ gtb := gtb_in (tin2 (List.mem_of_getElem? (i := 168) (by decide +kernel))) rfl
theorem w2_169 : Cond.instanceMethod ⟨"GoodsDownhill$Market", "sellsAt", "()I"⟩ ∈ gtb := gtb_in (tin2 (List.mem_of_getElem? (i := 169) (by decide +kernel))) rfl
theorem w2_17 : Cond.code ⟨"GoodsDownhill$Letters", "endOfDigits", "(II)I"⟩ prog_9_method_5_code 4 (some .int) ∈ gtb := gtb_in (tin2 (List.mem_of_getElem? (i := 17) (by decide +kernel))) rfl
theorem w2_170 : Cond.code ⟨"GoodsDownhill$Market", "sellsAt", "()I"⟩ prog_10_method_3_code 1 (some .int) ∈ gtb := gtb_in (tin2 (List.mem_of_getElem? (i := 170) (by decide +kernel))) rfl
theorem w2_171 : Cond.selects "GoodsDownhill$Hermit" ⟨"GoodsDownhill$House", "sellsAt", "()I"⟩ ⟨"GoodsDownhill$House", "sellsAt", "()I"⟩ ∈ gtb := gtb_in (tin2 (List.mem_of_getElem? (i := 171) (by decide +kernel))) rfl
theorem w2_172 : Cond.selects "GoodsDownhill$Joined" ⟨"GoodsDownhill$House", "sellsAt", "()I"⟩ ⟨"GoodsDownhill$Joined", "sellsAt", "()I"⟩ ∈ gtb := gtb_in (tin2 (List.mem_of_getElem? (i := 172) (by decide +kernel))) rfl
theorem w2_173 : Cond.instanceMethod ⟨"GoodsDownhill$Joined", "sellsAt", "()I"⟩ ∈ gtb := gtb_in (tin2 (List.mem_of_getElem? (i := 173) (by decide +kernel))) rfl
theorem w2_174 : Cond.code ⟨"GoodsDownhill$Joined", "sellsAt", "()I"⟩ prog_7_method_3_code 1 (some .int) ∈ gtb := gtb_in (tin2 (List.mem_of_getElem? (i := 174) (by decide +kernel))) rfl
theorem w2_175 : Cond.selects "GoodsDownhill$Market" ⟨"GoodsDownhill$House", "sellsAt", "()I"⟩ ⟨"GoodsDownhill$Market", "sellsAt", "()I"⟩ ∈ gtb := gtb_in (tin2 (List.mem_of_getElem? (i := 175) (by decide +kernel))) rfl
theorem w2_176 : Cond.code ⟨"GoodsDownhill$House", "sellsAt", "()I"⟩ prog_6_method_3_code 1 (some .int) ∈ gtb := gtb_in (tin2 (List.mem_of_getElem? (i := 176) (by decide +kernel))) rfl
theorem w2_177 : Cond.methodLink "GoodsDownhill" 93 ⟨"GoodsDownhill$House", "buysAt", "()I"⟩ ∈ gtb := gtb_in (tin2 (List.mem_of_getElem? (i := 177) (by decide +kernel))) rfl
theorem w2_178 : Cond.instanceMethod ⟨"GoodsDownhill$House", "buysAt", "()I"⟩ ∈ gtb := gtb_in (tin2 (List.mem_of_getElem? (i := 178) (by decide +kernel))) rfl
theorem w2_179 : Cond.selects "GoodsDownhill$House" ⟨"GoodsDownhill$House", "buysAt", "()I"⟩ ⟨"GoodsDownhill$House", "buysAt", "()I"⟩ ∈ gtb := gtb_in (tin2 (List.mem_of_getElem? (i := 179) (by decide +kernel))) rfl
theorem w2_18 : Cond.methodLink "GoodsDownhill$Letters" 31 ⟨"GoodsDownhill$Letters", "leastDigits", "(I)I"⟩ ∈ gtb := gtb_in (tin2 (List.mem_of_getElem? (i := 18) (by decide +kernel))) rfl
theorem w2_180 : Cond.sameMethod "GoodsDownhill$House" "GoodsDownhill$House" "buysAt" "()I" ∈ gtb := gtb_in (tin2 (List.mem_of_getElem? (i := 180) (by decide +kernel))) rfl
theorem w2_181 : Cond.selects "GoodsDownhill$Cellared" ⟨"GoodsDownhill$House", "buysAt", "()I"⟩ ⟨"GoodsDownhill$Cellared", "buysAt", "()I"⟩ ∈ gtb := gtb_in (tin2 (List.mem_of_getElem? (i := 181) (by decide +kernel))) rfl
theorem w2_182 : Cond.instanceMethod ⟨"GoodsDownhill$Cellared", "buysAt", "()I"⟩ ∈ gtb := gtb_in (tin2 (List.mem_of_getElem? (i := 182) (by decide +kernel))) rfl
theorem w2_183 : Cond.code ⟨"GoodsDownhill$Cellared", "buysAt", "()I"⟩ prog_2_method_4_code 1 (some .int) ∈ gtb := gtb_in (tin2 (List.mem_of_getElem? (i := 183) (by decide +kernel))) rfl
theorem w2_184 : Cond.selects "GoodsDownhill$Feigned" ⟨"GoodsDownhill$House", "buysAt", "()I"⟩ ⟨"GoodsDownhill$Feigned", "buysAt", "()I"⟩ ∈ gtb := gtb_in (tin2 (List.mem_of_getElem? (i := 184) (by decide +kernel))) rfl
theorem w2_185 : Cond.instanceMethod ⟨"GoodsDownhill$Feigned", "buysAt", "()I"⟩ ∈ gtb := gtb_in (tin2 (List.mem_of_getElem? (i := 185) (by decide +kernel))) rfl
theorem w2_186 : Cond.code ⟨"GoodsDownhill$Feigned", "buysAt", "()I"⟩ prog_4_method_3_code 1 (some .int) ∈ gtb := gtb_in (tin2 (List.mem_of_getElem? (i := 186) (by decide +kernel))) rfl
theorem w2_187 : Cond.selects "GoodsDownhill$Hermit" ⟨"GoodsDownhill$House", "buysAt", "()I"⟩ ⟨"GoodsDownhill$Hermit", "buysAt", "()I"⟩ ∈ gtb := gtb_in (tin2 (List.mem_of_getElem? (i := 187) (by decide +kernel))) rfl
theorem w2_188 : Cond.instanceMethod ⟨"GoodsDownhill$Hermit", "buysAt", "()I"⟩ ∈ gtb := gtb_in (tin2 (List.mem_of_getElem? (i := 188) (by decide +kernel))) rfl
theorem w2_189 : Cond.code ⟨"GoodsDownhill$Hermit", "buysAt", "()I"⟩ prog_5_method_3_code 1 (some .int) ∈ gtb := gtb_in (tin2 (List.mem_of_getElem? (i := 189) (by decide +kernel))) rfl
theorem w2_19 : Cond.static ⟨"GoodsDownhill$Letters", "leastDigits", "(I)I"⟩ ∈ gtb := gtb_in (tin2 (List.mem_of_getElem? (i := 19) (by decide +kernel))) rfl
theorem w2_190 : Cond.selects "GoodsDownhill$Joined" ⟨"GoodsDownhill$House", "buysAt", "()I"⟩ ⟨"GoodsDownhill$House", "buysAt", "()I"⟩ ∈ gtb := gtb_in (tin2 (List.mem_of_getElem? (i := 190) (by decide +kernel))) rfl
theorem w2_191 : Cond.selects "GoodsDownhill$Market" ⟨"GoodsDownhill$House", "buysAt", "()I"⟩ ⟨"GoodsDownhill$Cellared", "buysAt", "()I"⟩ ∈ gtb := gtb_in (tin2 (List.mem_of_getElem? (i := 191) (by decide +kernel))) rfl
theorem w2_192 : Cond.code ⟨"GoodsDownhill$House", "buysAt", "()I"⟩ prog_6_method_4_code 1 (some .int) ∈ gtb := gtb_in (tin2 (List.mem_of_getElem? (i := 192) (by decide +kernel))) rfl
theorem w2_197 : Cond.methodLink "GoodsDownhill" 111 ⟨"GoodsDownhill", "isGood", "(I)Z"⟩ ∈ gtb := gtb_in (tin2 (List.mem_of_getElem? (i := 197) (by decide +kernel))) rfl
theorem w2_198 : Cond.methodLink "GoodsDownhill" 114 ⟨"GoodsDownhill$Land", "piecesOf", "(II)I"⟩ ∈ gtb := gtb_in (tin2 (List.mem_of_getElem? (i := 198) (by decide +kernel))) rfl
theorem w2_199 : Cond.instanceMethod ⟨"GoodsDownhill$Land", "piecesOf", "(II)I"⟩ ∈ gtb := gtb_in (tin2 (List.mem_of_getElem? (i := 199) (by decide +kernel))) rfl
theorem w2_2 : Cond.methodLink "GoodsDownhill$Debts" 15 ⟨"java/lang/System", "arraycopy", "(Ljava/lang/Object;ILjava/lang/Object;II)V"⟩ ∈ gtb := gtb_in (tin2 (List.mem_of_getElem? (i := 2) (by decide +kernel))) rfl
theorem w2_20 : Cond.code ⟨"GoodsDownhill$Letters", "leastDigits", "(I)I"⟩ prog_9_method_6_code 1 (some .int) ∈ gtb := gtb_in (tin2 (List.mem_of_getElem? (i := 20) (by decide +kernel))) rfl
theorem w2_200 : Cond.selects "GoodsDownhill$Land" ⟨"GoodsDownhill$Land", "piecesOf", "(II)I"⟩ ⟨"GoodsDownhill$Land", "piecesOf", "(II)I"⟩ ∈ gtb := gtb_in (tin2 (List.mem_of_getElem? (i := 200) (by decide +kernel))) rfl
theorem w2_201 : Cond.code ⟨"GoodsDownhill$Land", "piecesOf", "(II)I"⟩ prog_8_method_6_code 3 (some .int) ∈ gtb := gtb_in (tin2 (List.mem_of_getElem? (i := 201) (by decide +kernel))) rfl
theorem w2_21 : Cond.methodLink "GoodsDownhill$Letters" 41 ⟨"GoodsDownhill$Letters", "endOfStatement", "(I)I"⟩ ∈ gtb := gtb_in (tin2 (List.mem_of_getElem? (i := 21) (by decide +kernel))) rfl
theorem w2_210 : Cond.methodLink "GoodsDownhill" 121 ⟨"GoodsDownhill", "isLaw", "(I)Z"⟩ ∈ gtb := gtb_in (tin2 (List.mem_of_getElem? (i := 210) (by decide +kernel))) rfl
theorem w2_215 : Cond.methodLink "GoodsDownhill" 127 ⟨"GoodsDownhill$Land", "areTwo", "(II)Z"⟩ ∈ gtb := gtb_in (tin2 (List.mem_of_getElem? (i := 215) (by decide +kernel))) rfl
theorem w2_216 : Cond.methodLink "GoodsDownhill" 131 ⟨"GoodsDownhill$Land", "isLawful", "(II)Z"⟩ ∈ gtb := gtb_in (tin2 (List.mem_of_getElem? (i := 216) (by decide +kernel))) rfl
theorem w2_217 : Cond.instanceMethod ⟨"GoodsDownhill$Land", "isLawful", "(II)Z"⟩ ∈ gtb := gtb_in (tin2 (List.mem_of_getElem? (i := 217) (by decide +kernel))) rfl
theorem w2_218 : Cond.selects "GoodsDownhill$Land" ⟨"GoodsDownhill$Land", "isLawful", "(II)Z"⟩ ⟨"GoodsDownhill$Land", "isLawful", "(II)Z"⟩ ∈ gtb := gtb_in (tin2 (List.mem_of_getElem? (i := 218) (by decide +kernel))) rfl
theorem w2_219 : Cond.code ⟨"GoodsDownhill$Land", "isLawful", "(II)Z"⟩ prog_8_method_8_code 5 (some .boolean) ∈ gtb := gtb_in (tin2 (List.mem_of_getElem? (i := 219) (by decide +kernel))) rfl
theorem w2_220 : Cond.methodLink "GoodsDownhill$Land" 64 ⟨"GoodsDownhill$House", "buysAt", "()I"⟩ ∈ gtb := gtb_in (tin2 (List.mem_of_getElem? (i := 220) (by decide +kernel))) rfl
theorem w2_221 : Cond.methodLink "GoodsDownhill$Land" 68 ⟨"GoodsDownhill$House", "sellsAt", "()I"⟩ ∈ gtb := gtb_in (tin2 (List.mem_of_getElem? (i := 221) (by decide +kernel))) rfl
theorem w2_226 : Cond.methodLink "GoodsDownhill" 138 ⟨"GoodsDownhill", "sumOf", "([I)I"⟩ ∈ gtb := gtb_in (tin2 (List.mem_of_getElem? (i := 226) (by decide +kernel))) rfl
theorem w2_227 : Cond.static ⟨"GoodsDownhill", "sumOf", "([I)I"⟩ ∈ gtb := gtb_in (tin2 (List.mem_of_getElem? (i := 227) (by decide +kernel))) rfl
theorem w2_228 : Cond.code ⟨"GoodsDownhill", "sumOf", "([I)I"⟩ prog_1_method_36_code 6 (some .int) ∈ gtb := gtb_in (tin2 (List.mem_of_getElem? (i := 228) (by decide +kernel))) rfl
theorem w2_229 : Cond.methodLink "GoodsDownhill" 149 ⟨"GoodsDownhill$Debts", "total", "()I"⟩ ∈ gtb := gtb_in (tin2 (List.mem_of_getElem? (i := 229) (by decide +kernel))) rfl
theorem w2_23 : Cond.instanceMethod ⟨"GoodsDownhill$Letters", "endOfStatement", "(I)I"⟩ ∈ gtb := gtb_in (tin2 (List.mem_of_getElem? (i := 23) (by decide +kernel))) rfl
theorem w2_230 : Cond.instanceMethod ⟨"GoodsDownhill$Debts", "total", "()I"⟩ ∈ gtb := gtb_in (tin2 (List.mem_of_getElem? (i := 230) (by decide +kernel))) rfl
theorem w2_231 : Cond.selects "GoodsDownhill$Debts" ⟨"GoodsDownhill$Debts", "total", "()I"⟩ ⟨"GoodsDownhill$Debts", "total", "()I"⟩ ∈ gtb := gtb_in (tin2 (List.mem_of_getElem? (i := 231) (by decide +kernel))) rfl
theorem w2_232 : Cond.code ⟨"GoodsDownhill$Debts", "total", "()I"⟩ prog_3_method_5_code 1 (some .int) ∈ gtb := gtb_in (tin2 (List.mem_of_getElem? (i := 232) (by decide +kernel))) rfl
theorem w2_234 : Cond.methodLink "GoodsDownhill" 160 ⟨"java/lang/Math", "max", "(II)I"⟩ ∈ gtb := gtb_in (tin2 (List.mem_of_getElem? (i := 234) (by decide +kernel))) rfl
theorem w2_235 : Cond.static ⟨"java/lang/Math", "max", "(II)I"⟩ ∈ gtb := gtb_in (tin2 (List.mem_of_getElem? (i := 235) (by decide +kernel))) rfl
theorem w2_236 : Cond.code ⟨"java/lang/Math", "max", "(II)I"⟩ prog_15_method_65_code 2 (some .int) ∈ gtb := gtb_in (tin2 (List.mem_of_getElem? (i := 236) (by decide +kernel))) rfl
theorem w2_24 : Cond.code ⟨"GoodsDownhill$Letters", "endOfStatement", "(I)I"⟩ prog_9_method_8_code 3 (some .int) ∈ gtb := gtb_in (tin2 (List.mem_of_getElem? (i := 24) (by decide +kernel))) rfl
theorem w2_25 : Cond.methodLink "GoodsDownhill$Letters" 44 ⟨"GoodsDownhill$Letters", "tellHouse", "(LGoodsDownhill$Land;II)Z"⟩ ∈ gtb := gtb_in (tin2 (List.mem_of_getElem? (i := 25) (by decide +kernel))) rfl
theorem w2_27 : Cond.instanceMethod ⟨"GoodsDownhill$Letters", "tellHouse", "(LGoodsDownhill$Land;II)Z"⟩ ∈ gtb := gtb_in (tin2 (List.mem_of_getElem? (i := 27) (by decide +kernel))) rfl
theorem w2_28 : Cond.code ⟨"GoodsDownhill$Letters", "tellHouse", "(LGoodsDownhill$Land;II)Z"⟩ prog_9_method_12_code 11 (some .boolean) ∈ gtb := gtb_in (tin2 (List.mem_of_getElem? (i := 28) (by decide +kernel))) rfl
theorem w2_29 : Cond.methodLink "GoodsDownhill$Letters" 58 ⟨"GoodsDownhill$Letters", "digit", "(I)I"⟩ ∈ gtb := gtb_in (tin2 (List.mem_of_getElem? (i := 29) (by decide +kernel))) rfl
theorem w2_3 : Cond.methodLink "GoodsDownhill" 66 ⟨"GoodsDownhill$Letters", "tellTo", "(LGoodsDownhill$Land;)I"⟩ ∈ gtb := gtb_in (tin2 (List.mem_of_getElem? (i := 3) (by decide +kernel))) rfl
theorem w2_31 : Cond.instanceMethod ⟨"GoodsDownhill$Letters", "digit", "(I)I"⟩ ∈ gtb := gtb_in (tin2 (List.mem_of_getElem? (i := 31) (by decide +kernel))) rfl
theorem w2_32 : Cond.code ⟨"GoodsDownhill$Letters", "digit", "(I)I"⟩ prog_9_method_10_code 2 (some .int) ∈ gtb := gtb_in (tin2 (List.mem_of_getElem? (i := 32) (by decide +kernel))) rfl
theorem w2_33 : Cond.methodLink "GoodsDownhill$Letters" 34 ⟨"GoodsDownhill$Letters", "number", "(II)I"⟩ ∈ gtb := gtb_in (tin2 (List.mem_of_getElem? (i := 33) (by decide +kernel))) rfl
theorem w2_35 : Cond.instanceMethod ⟨"GoodsDownhill$Letters", "number", "(II)I"⟩ ∈ gtb := gtb_in (tin2 (List.mem_of_getElem? (i := 35) (by decide +kernel))) rfl
theorem w2_36 : Cond.code ⟨"GoodsDownhill$Letters", "number", "(II)I"⟩ prog_9_method_9_code 5 (some .int) ∈ gtb := gtb_in (tin2 (List.mem_of_getElem? (i := 36) (by decide +kernel))) rfl
theorem w2_38 : Cond.static ⟨"GoodsDownhill", "isGood", "(I)Z"⟩ ∈ gtb := gtb_in (tin2 (List.mem_of_getElem? (i := 38) (by decide +kernel))) rfl
theorem w2_39 : Cond.code ⟨"GoodsDownhill", "isGood", "(I)Z"⟩ prog_1_method_34_code 1 (some .boolean) ∈ gtb := gtb_in (tin2 (List.mem_of_getElem? (i := 39) (by decide +kernel))) rfl
theorem w2_4 : Cond.instanceMethod ⟨"GoodsDownhill$Letters", "tellTo", "(LGoodsDownhill$Land;)I"⟩ ∈ gtb := gtb_in (tin2 (List.mem_of_getElem? (i := 4) (by decide +kernel))) rfl
theorem w2_40 : Cond.classLink "GoodsDownhill$Letters" 65 "GoodsDownhill$House" ∈ gtb := gtb_in (tin2 (List.mem_of_getElem? (i := 40) (by decide +kernel))) rfl
theorem w2_41 : Cond.methodLink "GoodsDownhill$Letters" 67 ⟨"GoodsDownhill$House", "<init>", "(IIIIII)V"⟩ ∈ gtb := gtb_in (tin2 (List.mem_of_getElem? (i := 41) (by decide +kernel))) rfl
theorem w2_42 : Cond.classLink "GoodsDownhill$Letters" 70 "GoodsDownhill$Cellared" ∈ gtb := gtb_in (tin2 (List.mem_of_getElem? (i := 42) (by decide +kernel))) rfl
theorem w2_43 : Cond.instantiable "GoodsDownhill$Cellared" 6 ∈ gtb := gtb_in (tin2 (List.mem_of_getElem? (i := 43) (by decide +kernel))) rfl
theorem w2_44 : Cond.methodLink "GoodsDownhill$Letters" 72 ⟨"GoodsDownhill$Cellared", "<init>", "(IIIIII)V"⟩ ∈ gtb := gtb_in (tin2 (List.mem_of_getElem? (i := 44) (by decide +kernel))) rfl
theorem w2_45 : Cond.instanceMethod ⟨"GoodsDownhill$Cellared", "<init>", "(IIIIII)V"⟩ ∈ gtb := gtb_in (tin2 (List.mem_of_getElem? (i := 45) (by decide +kernel))) rfl
theorem w2_46 : Cond.code ⟨"GoodsDownhill$Cellared", "<init>", "(IIIIII)V"⟩ prog_2_method_1_code 7 none ∈ gtb := gtb_in (tin2 (List.mem_of_getElem? (i := 46) (by decide +kernel))) rfl
theorem w2_47 : Cond.methodLink "GoodsDownhill$Cellared" 1 ⟨"GoodsDownhill$House", "<init>", "(IIIIII)V"⟩ ∈ gtb := gtb_in (tin2 (List.mem_of_getElem? (i := 47) (by decide +kernel))) rfl
theorem w2_5 : Cond.selects "GoodsDownhill$Letters" ⟨"GoodsDownhill$Letters", "tellTo", "(LGoodsDownhill$Land;)I"⟩ ⟨"GoodsDownhill$Letters", "tellTo", "(LGoodsDownhill$Land;)I"⟩ ∈ gtb := gtb_in (tin2 (List.mem_of_getElem? (i := 5) (by decide +kernel))) rfl
theorem w2_55 : Cond.classLink "GoodsDownhill$Letters" 73 "GoodsDownhill$Joined" ∈ gtb := gtb_in (tin2 (List.mem_of_getElem? (i := 55) (by decide +kernel))) rfl
theorem w2_56 : Cond.instantiable "GoodsDownhill$Joined" 6 ∈ gtb := gtb_in (tin2 (List.mem_of_getElem? (i := 56) (by decide +kernel))) rfl
theorem w2_57 : Cond.methodLink "GoodsDownhill$Letters" 75 ⟨"GoodsDownhill$Joined", "<init>", "(IIIIII)V"⟩ ∈ gtb := gtb_in (tin2 (List.mem_of_getElem? (i := 57) (by decide +kernel))) rfl
theorem w2_58 : Cond.instanceMethod ⟨"GoodsDownhill$Joined", "<init>", "(IIIIII)V"⟩ ∈ gtb := gtb_in (tin2 (List.mem_of_getElem? (i := 58) (by decide +kernel))) rfl
theorem w2_59 : Cond.code ⟨"GoodsDownhill$Joined", "<init>", "(IIIIII)V"⟩ prog_7_method_1_code 7 none ∈ gtb := gtb_in (tin2 (List.mem_of_getElem? (i := 59) (by decide +kernel))) rfl
theorem w2_6 : Cond.code ⟨"GoodsDownhill$Letters", "tellTo", "(LGoodsDownhill$Land;)I"⟩ prog_9_method_11_code 7 (some .int) ∈ gtb := gtb_in (tin2 (List.mem_of_getElem? (i := 6) (by decide +kernel))) rfl
theorem w2_60 : Cond.methodLink "GoodsDownhill$Joined" 1 ⟨"GoodsDownhill$House", "<init>", "(IIIIII)V"⟩ ∈ gtb := gtb_in (tin2 (List.mem_of_getElem? (i := 60) (by decide +kernel))) rfl
theorem w2_68 : Cond.classLink "GoodsDownhill$Letters" 76 "GoodsDownhill$Hermit" ∈ gtb := gtb_in (tin2 (List.mem_of_getElem? (i := 68) (by decide +kernel))) rfl
theorem w2_69 : Cond.instantiable "GoodsDownhill$Hermit" 6 ∈ gtb := gtb_in (tin2 (List.mem_of_getElem? (i := 69) (by decide +kernel))) rfl
theorem w2_7 : Cond.methodLink "GoodsDownhill$Letters" 37 ⟨"GoodsDownhill$Letters", "firstWrongPlace", "()I"⟩ ∈ gtb := gtb_in (tin2 (List.mem_of_getElem? (i := 7) (by decide +kernel))) rfl
theorem w2_70 : Cond.methodLink "GoodsDownhill$Letters" 78 ⟨"GoodsDownhill$Hermit", "<init>", "(IIIIII)V"⟩ ∈ gtb := gtb_in (tin2 (List.mem_of_getElem? (i := 70) (by decide +kernel))) rfl
theorem w2_71 : Cond.instanceMethod ⟨"GoodsDownhill$Hermit", "<init>", "(IIIIII)V"⟩ ∈ gtb := gtb_in (tin2 (List.mem_of_getElem? (i := 71) (by decide +kernel))) rfl
theorem w2_72 : Cond.code ⟨"GoodsDownhill$Hermit", "<init>", "(IIIIII)V"⟩ prog_5_method_1_code 7 none ∈ gtb := gtb_in (tin2 (List.mem_of_getElem? (i := 72) (by decide +kernel))) rfl
theorem w2_73 : Cond.methodLink "GoodsDownhill$Hermit" 3 ⟨"GoodsDownhill$House", "<init>", "(IIIIII)V"⟩ ∈ gtb := gtb_in (tin2 (List.mem_of_getElem? (i := 73) (by decide +kernel))) rfl
theorem w2_8 : Cond.instanceMethod ⟨"GoodsDownhill$Letters", "firstWrongPlace", "()I"⟩ ∈ gtb := gtb_in (tin2 (List.mem_of_getElem? (i := 8) (by decide +kernel))) rfl
theorem w2_81 : Cond.classLink "GoodsDownhill$Letters" 79 "GoodsDownhill$Market" ∈ gtb := gtb_in (tin2 (List.mem_of_getElem? (i := 81) (by decide +kernel))) rfl
theorem w2_82 : Cond.instantiable "GoodsDownhill$Market" 6 ∈ gtb := gtb_in (tin2 (List.mem_of_getElem? (i := 82) (by decide +kernel))) rfl
theorem w2_83 : Cond.methodLink "GoodsDownhill$Letters" 81 ⟨"GoodsDownhill$Market", "<init>", "(IIIIII)V"⟩ ∈ gtb := gtb_in (tin2 (List.mem_of_getElem? (i := 83) (by decide +kernel))) rfl
theorem w2_84 : Cond.instanceMethod ⟨"GoodsDownhill$Market", "<init>", "(IIIIII)V"⟩ ∈ gtb := gtb_in (tin2 (List.mem_of_getElem? (i := 84) (by decide +kernel))) rfl
theorem w2_85 : Cond.code ⟨"GoodsDownhill$Market", "<init>", "(IIIIII)V"⟩ prog_10_method_1_code 7 none ∈ gtb := gtb_in (tin2 (List.mem_of_getElem? (i := 85) (by decide +kernel))) rfl
theorem w2_86 : Cond.methodLink "GoodsDownhill$Market" 1 ⟨"GoodsDownhill$Cellared", "<init>", "(IIIIII)V"⟩ ∈ gtb := gtb_in (tin2 (List.mem_of_getElem? (i := 86) (by decide +kernel))) rfl
theorem w2_9 : Cond.selects "GoodsDownhill$Letters" ⟨"GoodsDownhill$Letters", "firstWrongPlace", "()I"⟩ ⟨"GoodsDownhill$Letters", "firstWrongPlace", "()I"⟩ ∈ gtb := gtb_in (tin2 (List.mem_of_getElem? (i := 9) (by decide +kernel))) rfl
theorem w2_94 : Cond.classLink "GoodsDownhill$Letters" 82 "GoodsDownhill$Feigned" ∈ gtb := gtb_in (tin2 (List.mem_of_getElem? (i := 94) (by decide +kernel))) rfl
theorem w2_95 : Cond.instantiable "GoodsDownhill$Feigned" 6 ∈ gtb := gtb_in (tin2 (List.mem_of_getElem? (i := 95) (by decide +kernel))) rfl
theorem w2_96 : Cond.methodLink "GoodsDownhill$Letters" 84 ⟨"GoodsDownhill$Feigned", "<init>", "(IIIIII)V"⟩ ∈ gtb := gtb_in (tin2 (List.mem_of_getElem? (i := 96) (by decide +kernel))) rfl
theorem w2_97 : Cond.instanceMethod ⟨"GoodsDownhill$Feigned", "<init>", "(IIIIII)V"⟩ ∈ gtb := gtb_in (tin2 (List.mem_of_getElem? (i := 97) (by decide +kernel))) rfl
theorem w2_98 : Cond.code ⟨"GoodsDownhill$Feigned", "<init>", "(IIIIII)V"⟩ prog_4_method_1_code 7 none ∈ gtb := gtb_in (tin2 (List.mem_of_getElem? (i := 98) (by decide +kernel))) rfl
theorem w2_99 : Cond.methodLink "GoodsDownhill$Feigned" 1 ⟨"GoodsDownhill$Market", "<init>", "(IIIIII)V"⟩ ∈ gtb := gtb_in (tin2 (List.mem_of_getElem? (i := 99) (by decide +kernel))) rfl
theorem w3_1 : Cond.methodLink "GoodsDownhill" 165 ⟨"GoodsDownhill$Land", "trySale", "(III)Z"⟩ ∈ gtb := gtb_in (tin3 (List.mem_of_getElem? (i := 1) (by decide +kernel))) rfl
theorem w3_10 : Cond.instanceMethod ⟨"GoodsDownhill$Land", "hasMeans", "(III)Z"⟩ ∈ gtb := gtb_in (tin3 (List.mem_of_getElem? (i := 10) (by decide +kernel))) rfl
theorem w3_100 : Cond.methodLink "GoodsDownhill$Debts" 32 ⟨"GoodsDownhill$Debts", "strikeThree", "(III)I"⟩ ∈ gtb := gtb_in (tin3 (List.mem_of_getElem? (i := 100) (by decide +kernel))) rfl
theorem w3_102 : Cond.instanceMethod ⟨"GoodsDownhill$Debts", "strikeThree", "(III)I"⟩ ∈ gtb := gtb_in (tin3 (List.mem_of_getElem? (i := 102) (by decide +kernel))) rfl
theorem w3_103 : Cond.code ⟨"GoodsDownhill$Debts", "strikeThree", "(III)I"⟩ prog_3_method_9_code 5 (some .int) ∈ gtb := gtb_in (tin3 (List.mem_of_getElem? (i := 103) (by decide +kernel))) rfl
theorem w3_108 : Cond.methodLink "GoodsDownhill" 189 ⟨"GoodsDownhill", "passInMind", "(IILGoodsDownhill$Tally;)V"⟩ ∈ gtb := gtb_in (tin3 (List.mem_of_getElem? (i := 108) (by decide +kernel))) rfl
theorem w3_11 : Cond.code ⟨"GoodsDownhill$Land", "hasMeans", "(III)Z"⟩ prog_8_method_9_code 4 (some .boolean) ∈ gtb := gtb_in (tin3 (List.mem_of_getElem? (i := 11) (by decide +kernel))) rfl
theorem w3_110 : Cond.instanceMethod ⟨"GoodsDownhill", "passInMind", "(IILGoodsDownhill$Tally;)V"⟩ ∈ gtb := gtb_in (tin3 (List.mem_of_getElem? (i := 110) (by decide +kernel))) rfl
theorem w3_111 : Cond.code ⟨"GoodsDownhill", "passInMind", "(IILGoodsDownhill$Tally;)V"⟩ prog_1_method_19_code 5 none ∈ gtb := gtb_in (tin3 (List.mem_of_getElem? (i := 111) (by decide +kernel))) rfl
theorem w3_12 : Cond.methodLink "GoodsDownhill$Land" 71 ⟨"GoodsDownhill$Land", "piecesOf", "(II)I"⟩ ∈ gtb := gtb_in (tin3 (List.mem_of_getElem? (i := 12) (by decide +kernel))) rfl
theorem w3_120 : Cond.methodLink "GoodsDownhill" 196 ⟨"GoodsDownhill$Land", "richest", "()I"⟩ ∈ gtb := gtb_in (tin3 (List.mem_of_getElem? (i := 120) (by decide +kernel))) rfl
theorem w3_121 : Cond.instanceMethod ⟨"GoodsDownhill$Land", "richest", "()I"⟩ ∈ gtb := gtb_in (tin3 (List.mem_of_getElem? (i := 121) (by decide +kernel))) rfl
theorem w3_122 : Cond.selects "GoodsDownhill$Land" ⟨"GoodsDownhill$Land", "richest", "()I"⟩ ⟨"GoodsDownhill$Land", "richest", "()I"⟩ ∈ gtb := gtb_in (tin3 (List.mem_of_getElem? (i := 122) (by decide +kernel))) rfl
theorem w3_123 : Cond.code ⟨"GoodsDownhill$Land", "richest", "()I"⟩ prog_8_method_17_code 3 (some .int) ∈ gtb := gtb_in (tin3 (List.mem_of_getElem? (i := 123) (by decide +kernel))) rfl
theorem w3_13 : Cond.methodLink "GoodsDownhill$Land" 93 ⟨"GoodsDownhill$Land", "moveOnePiece", "(III)V"⟩ ∈ gtb := gtb_in (tin3 (List.mem_of_getElem? (i := 13) (by decide +kernel))) rfl
theorem w3_136 : Cond.methodLink "GoodsDownhill" 205 ⟨"GoodsDownhill", "nextSeed", "(I)I"⟩ ∈ gtb := gtb_in (tin3 (List.mem_of_getElem? (i := 136) (by decide +kernel))) rfl
theorem w3_137 : Cond.static ⟨"GoodsDownhill", "nextSeed", "(I)I"⟩ ∈ gtb := gtb_in (tin3 (List.mem_of_getElem? (i := 137) (by decide +kernel))) rfl
theorem w3_138 : Cond.code ⟨"GoodsDownhill", "nextSeed", "(I)I"⟩ prog_1_method_22_code 1 (some .int) ∈ gtb := gtb_in (tin3 (List.mem_of_getElem? (i := 138) (by decide +kernel))) rfl
theorem w3_139 : Cond.constant "GoodsDownhill" 211 1103515245 ∈ gtb := gtb_in (tin3 (List.mem_of_getElem? (i := 139) (by decide +kernel))) rfl
theorem w3_140 : Cond.methodLink "GoodsDownhill" 208 ⟨"GoodsDownhill", "drawBelow", "(II)I"⟩ ∈ gtb := gtb_in (tin3 (List.mem_of_getElem? (i := 140) (by decide +kernel))) rfl
theorem w3_141 : Cond.static ⟨"GoodsDownhill", "drawBelow", "(II)I"⟩ ∈ gtb := gtb_in (tin3 (List.mem_of_getElem? (i := 141) (by decide +kernel))) rfl
theorem w3_142 : Cond.code ⟨"GoodsDownhill", "drawBelow", "(II)I"⟩ prog_1_method_23_code 2 (some .int) ∈ gtb := gtb_in (tin3 (List.mem_of_getElem? (i := 142) (by decide +kernel))) rfl
theorem w3_143 : Cond.constant "GoodsDownhill" 212 2147483647 ∈ gtb := gtb_in (tin3 (List.mem_of_getElem? (i := 143) (by decide +kernel))) rfl
theorem w3_144 : Cond.constant "GoodsDownhill" 213 65536 ∈ gtb := gtb_in (tin3 (List.mem_of_getElem? (i := 144) (by decide +kernel))) rfl
theorem w3_149 : Cond.methodLink "GoodsDownhill" 214 ⟨"GoodsDownhill$Trade", "stuckOf", "(LGoodsDownhill$Land;I)I"⟩ ∈ gtb := gtb_in (tin3 (List.mem_of_getElem? (i := 149) (by decide +kernel))) rfl
theorem w3_15 : Cond.instanceMethod ⟨"GoodsDownhill$Land", "moveOnePiece", "(III)V"⟩ ∈ gtb := gtb_in (tin3 (List.mem_of_getElem? (i := 15) (by decide +kernel))) rfl
theorem w3_150 : Cond.static ⟨"GoodsDownhill$Trade", "stuckOf", "(LGoodsDownhill$Land;I)I"⟩ ∈ gtb := gtb_in (tin3 (List.mem_of_getElem? (i := 150) (by decide +kernel))) rfl
theorem w3_151 : Cond.code ⟨"GoodsDownhill$Trade", "stuckOf", "(LGoodsDownhill$Land;I)I"⟩ prog_12_method_2_code 4 (some .int) ∈ gtb := gtb_in (tin3 (List.mem_of_getElem? (i := 151) (by decide +kernel))) rfl
theorem w3_152 : Cond.methodLink "GoodsDownhill$Trade" 19 ⟨"GoodsDownhill$House", "wantsSome", "(I)Z"⟩ ∈ gtb := gtb_in (tin3 (List.mem_of_getElem? (i := 152) (by decide +kernel))) rfl
theorem w3_153 : Cond.methodLink "GoodsDownhill$Trade" 25 ⟨"GoodsDownhill$Trade", "hasBuyer", "(LGoodsDownhill$Land;II)Z"⟩ ∈ gtb := gtb_in (tin3 (List.mem_of_getElem? (i := 153) (by decide +kernel))) rfl
theorem w3_154 : Cond.static ⟨"GoodsDownhill$Trade", "hasBuyer", "(LGoodsDownhill$Land;II)Z"⟩ ∈ gtb := gtb_in (tin3 (List.mem_of_getElem? (i := 154) (by decide +kernel))) rfl
theorem w3_155 : Cond.code ⟨"GoodsDownhill$Trade", "hasBuyer", "(LGoodsDownhill$Land;II)Z"⟩ prog_12_method_3_code 4 (some .boolean) ∈ gtb := gtb_in (tin3 (List.mem_of_getElem? (i := 155) (by decide +kernel))) rfl
theorem w3_156 : Cond.methodLink "GoodsDownhill$Trade" 35 ⟨"GoodsDownhill$Land", "isLawful", "(II)Z"⟩ ∈ gtb := gtb_in (tin3 (List.mem_of_getElem? (i := 156) (by decide +kernel))) rfl
theorem w3_157 : Cond.methodLink "GoodsDownhill$Trade" 31 ⟨"GoodsDownhill$Land", "piecesOf", "(II)I"⟩ ∈ gtb := gtb_in (tin3 (List.mem_of_getElem? (i := 157) (by decide +kernel))) rfl
theorem w3_16 : Cond.code ⟨"GoodsDownhill$Land", "moveOnePiece", "(III)V"⟩ prog_8_method_10_code 4 none ∈ gtb := gtb_in (tin3 (List.mem_of_getElem? (i := 16) (by decide +kernel))) rfl
theorem w3_162 : Cond.methodLink "GoodsDownhill" 220 ⟨"GoodsDownhill$Trade", "mostOf", "(LGoodsDownhill$Land;I)I"⟩ ∈ gtb := gtb_in (tin3 (List.mem_of_getElem? (i := 162) (by decide +kernel))) rfl
theorem w3_163 : Cond.static ⟨"GoodsDownhill$Trade", "mostOf", "(LGoodsDownhill$Land;I)I"⟩ ∈ gtb := gtb_in (tin3 (List.mem_of_getElem? (i := 163) (by decide +kernel))) rfl
theorem w3_164 : Cond.code ⟨"GoodsDownhill$Trade", "mostOf", "(LGoodsDownhill$Land;I)I"⟩ prog_12_method_4_code 4 (some .int) ∈ gtb := gtb_in (tin3 (List.mem_of_getElem? (i := 164) (by decide +kernel))) rfl
theorem w3_165 : Cond.methodLink "GoodsDownhill$Trade" 39 ⟨"GoodsDownhill$Trade", "cutBeside", "(LGoodsDownhill$Land;II)I"⟩ ∈ gtb := gtb_in (tin3 (List.mem_of_getElem? (i := 165) (by decide +kernel))) rfl
theorem w3_166 : Cond.static ⟨"GoodsDownhill$Trade", "cutBeside", "(LGoodsDownhill$Land;II)I"⟩ ∈ gtb := gtb_in (tin3 (List.mem_of_getElem? (i := 166) (by decide +kernel))) rfl
theorem w3_167 : Cond.code ⟨"GoodsDownhill$Trade", "cutBeside", "(LGoodsDownhill$Land;II)I"⟩ prog_12_method_5_code 5 (some .int) ∈ gtb := gtb_in (tin3 (List.mem_of_getElem? (i := 167) (by decide +kernel))) rfl
theorem w3_168 : Cond.methodLink "GoodsDownhill$Trade" 48 ⟨"GoodsDownhill$Trade", "hasSellerAmong", "(LGoodsDownhill$Land;III)Z"⟩ ∈ gtb := gtb_in (tin3 (List.mem_of_getElem? (i := 168) (by decide +kernel))) rfl
theorem w3_169 : Cond.static ⟨"GoodsDownhill$Trade", "hasSellerAmong", "(LGoodsDownhill$Land;III)Z"⟩ ∈ gtb := gtb_in (tin3 (List.mem_of_getElem? (i := 169) (by decide +kernel))) rfl
theorem w3_17 : Cond.methodLink "GoodsDownhill$Land" 75 ⟨"GoodsDownhill$Land", "addPieces", "(III)V"⟩ ∈ gtb := gtb_in (tin3 (List.mem_of_getElem? (i := 17) (by decide +kernel))) rfl
theorem w3_170 : Cond.code ⟨"GoodsDownhill$Trade", "hasSellerAmong", "(LGoodsDownhill$Land;III)Z"⟩ prog_12_method_6_code 5 (some .boolean) ∈ gtb := gtb_in (tin3 (List.mem_of_getElem? (i := 170) (by decide +kernel))) rfl
theorem w3_171 : Cond.methodLink "GoodsDownhill$Trade" 43 ⟨"java/lang/Math", "min", "(II)I"⟩ ∈ gtb := gtb_in (tin3 (List.mem_of_getElem? (i := 171) (by decide +kernel))) rfl
theorem w3_176 : Cond.constant "GoodsDownhill" 223 1000000000 ∈ gtb := gtb_in (tin3 (List.mem_of_getElem? (i := 176) (by decide +kernel))) rfl
theorem w3_177 : Cond.methodLink "GoodsDownhill" 224 ⟨"GoodsDownhill$Cellared", "insteadOf", "(LGoodsDownhill$House;I)LGoodsDownhill$House;"⟩ ∈ gtb := gtb_in (tin3 (List.mem_of_getElem? (i := 177) (by decide +kernel))) rfl
theorem w3_178 : Cond.static ⟨"GoodsDownhill$Cellared", "insteadOf", "(LGoodsDownhill$House;I)LGoodsDownhill$House;"⟩ ∈ gtb := gtb_in (tin3 (List.mem_of_getElem? (i := 178) (by decide +kernel))) rfl
theorem w3_179 : Cond.code ⟨"GoodsDownhill$Cellared", "insteadOf", "(LGoodsDownhill$House;I)LGoodsDownhill$House;"⟩ prog_2_method_2_code 2 (some (.object "GoodsDownhill$House")) ∈ gtb := gtb_in (tin3 (List.mem_of_getElem? (i := 179) (by decide +kernel))) rfl
theorem w3_180 : Cond.classLink "GoodsDownhill$Cellared" 7 "GoodsDownhill$Cellared" ∈ gtb := gtb_in (tin3 (List.mem_of_getElem? (i := 180) (by decide +kernel))) rfl
theorem w3_181 : Cond.methodLink "GoodsDownhill$Cellared" 25 ⟨"GoodsDownhill$Cellared", "<init>", "(IIIIII)V"⟩ ∈ gtb := gtb_in (tin3 (List.mem_of_getElem? (i := 181) (by decide +kernel))) rfl
theorem w3_186 : Cond.methodLink "GoodsDownhill" 230 ⟨"GoodsDownhill$Trade", "ways", "(LGoodsDownhill$Land;II)I"⟩ ∈ gtb := gtb_in (tin3 (List.mem_of_getElem? (i := 186) (by decide +kernel))) rfl
theorem w3_187 : Cond.static ⟨"GoodsDownhill$Trade", "ways", "(LGoodsDownhill$Land;II)I"⟩ ∈ gtb := gtb_in (tin3 (List.mem_of_getElem? (i := 187) (by decide +kernel))) rfl
theorem w3_188 : Cond.code ⟨"GoodsDownhill$Trade", "ways", "(LGoodsDownhill$Land;II)I"⟩ prog_12_method_7_code 3 (some .int) ∈ gtb := gtb_in (tin3 (List.mem_of_getElem? (i := 188) (by decide +kernel))) rfl
theorem w3_189 : Cond.methodLink "GoodsDownhill$Trade" 55 ⟨"GoodsDownhill$Trade", "waysOn", "(LGoodsDownhill$Land;IIII)I"⟩ ∈ gtb := gtb_in (tin3 (List.mem_of_getElem? (i := 189) (by decide +kernel))) rfl
theorem w3_19 : Cond.instanceMethod ⟨"GoodsDownhill$Land", "addPieces", "(III)V"⟩ ∈ gtb := gtb_in (tin3 (List.mem_of_getElem? (i := 19) (by decide +kernel))) rfl
theorem w3_190 : Cond.static ⟨"GoodsDownhill$Trade", "waysOn", "(LGoodsDownhill$Land;IIII)I"⟩ ∈ gtb := gtb_in (tin3 (List.mem_of_getElem? (i := 190) (by decide +kernel))) rfl
theorem w3_191 : Cond.code ⟨"GoodsDownhill$Trade", "waysOn", "(LGoodsDownhill$Land;IIII)I"⟩ prog_12_method_8_code 7 (some .int) ∈ gtb := gtb_in (tin3 (List.mem_of_getElem? (i := 191) (by decide +kernel))) rfl
theorem w3_192 : Cond.methodLink "GoodsDownhill" 234 ⟨"GoodsDownhill$Trade", "fewestSales", "(LGoodsDownhill$Land;II)I"⟩ ∈ gtb := gtb_in (tin3 (List.mem_of_getElem? (i := 192) (by decide +kernel))) rfl
theorem w3_193 : Cond.static ⟨"GoodsDownhill$Trade", "fewestSales", "(LGoodsDownhill$Land;II)I"⟩ ∈ gtb := gtb_in (tin3 (List.mem_of_getElem? (i := 193) (by decide +kernel))) rfl
theorem w3_194 : Cond.code ⟨"GoodsDownhill$Trade", "fewestSales", "(LGoodsDownhill$Land;II)I"⟩ prog_12_method_9_code 5 (some .int) ∈ gtb := gtb_in (tin3 (List.mem_of_getElem? (i := 194) (by decide +kernel))) rfl
theorem w3_195 : Cond.methodLink "GoodsDownhill$Trade" 59 ⟨"GoodsDownhill$Trade", "oneSaleBehind", "(LGoodsDownhill$Land;I)I"⟩ ∈ gtb := gtb_in (tin3 (List.mem_of_getElem? (i := 195) (by decide +kernel))) rfl
theorem w3_196 : Cond.static ⟨"GoodsDownhill$Trade", "oneSaleBehind", "(LGoodsDownhill$Land;I)I"⟩ ∈ gtb := gtb_in (tin3 (List.mem_of_getElem? (i := 196) (by decide +kernel))) rfl
theorem w3_197 : Cond.code ⟨"GoodsDownhill$Trade", "oneSaleBehind", "(LGoodsDownhill$Land;I)I"⟩ prog_12_method_10_code 5 (some .int) ∈ gtb := gtb_in (tin3 (List.mem_of_getElem? (i := 197) (by decide +kernel))) rfl
theorem w3_2 : Cond.instanceMethod ⟨"GoodsDownhill$Land", "trySale", "(III)Z"⟩ ∈ gtb := gtb_in (tin3 (List.mem_of_getElem? (i := 2) (by decide +kernel))) rfl
theorem w3_20 : Cond.code ⟨"GoodsDownhill$Land", "addPieces", "(III)V"⟩ prog_8_method_7_code 4 none ∈ gtb := gtb_in (tin3 (List.mem_of_getElem? (i := 20) (by decide +kernel))) rfl
theorem w3_202 : Cond.methodLink "GoodsDownhill" 237 ⟨"GoodsDownhill$Debts", "owedTo", "(I)I"⟩ ∈ gtb := gtb_in (tin3 (List.mem_of_getElem? (i := 202) (by decide +kernel))) rfl
theorem w3_203 : Cond.instanceMethod ⟨"GoodsDownhill$Debts", "owedTo", "(I)I"⟩ ∈ gtb := gtb_in (tin3 (List.mem_of_getElem? (i := 203) (by decide +kernel))) rfl
theorem w3_204 : Cond.selects "GoodsDownhill$Debts" ⟨"GoodsDownhill$Debts", "owedTo", "(I)I"⟩ ⟨"GoodsDownhill$Debts", "owedTo", "(I)I"⟩ ∈ gtb := gtb_in (tin3 (List.mem_of_getElem? (i := 204) (by decide +kernel))) rfl
theorem w3_205 : Cond.code ⟨"GoodsDownhill$Debts", "owedTo", "(I)I"⟩ prog_3_method_6_code 4 (some .int) ∈ gtb := gtb_in (tin3 (List.mem_of_getElem? (i := 205) (by decide +kernel))) rfl
theorem w3_227 : Cond.methodLink "GoodsDownhillModel" 1 ⟨"java/lang/Object", "<init>", "()V"⟩ ∈ gtb := gtb_in (tin3 (List.mem_of_getElem? (i := 227) (by decide +kernel))) rfl
theorem w3_228 : Cond.fieldLink "GoodsDownhillModel" 77 "GoodsDownhillModel" "houses" "I" ∈ gtb := gtb_in (tin3 (List.mem_of_getElem? (i := 228) (by decide +kernel))) rfl
theorem w3_229 : Cond.fieldLink "GoodsDownhillModel" 97 "GoodsDownhillModel" "law" "I" ∈ gtb := gtb_in (tin3 (List.mem_of_getElem? (i := 229) (by decide +kernel))) rfl
theorem w3_230 : Cond.fieldLink "GoodsDownhillModel" 122 "GoodsDownhillModel" "weeks" "I" ∈ gtb := gtb_in (tin3 (List.mem_of_getElem? (i := 230) (by decide +kernel))) rfl
theorem w3_231 : Cond.fieldLink "GoodsDownhillModel" 153 "GoodsDownhillModel" "muleWeek" "I" ∈ gtb := gtb_in (tin3 (List.mem_of_getElem? (i := 231) (by decide +kernel))) rfl
theorem w3_232 : Cond.fieldLink "GoodsDownhillModel" 7 "GoodsDownhillModel" "kinds" "[I" ∈ gtb := gtb_in (tin3 (List.mem_of_getElem? (i := 232) (by decide +kernel))) rfl
theorem w3_233 : Cond.fieldLink "GoodsDownhillModel" 13 "GoodsDownhillModel" "figures" "[I" ∈ gtb := gtb_in (tin3 (List.mem_of_getElem? (i := 233) (by decide +kernel))) rfl
theorem w3_234 : Cond.fieldLink "GoodsDownhillModel" 16 "GoodsDownhillModel" "heights" "[I" ∈ gtb := gtb_in (tin3 (List.mem_of_getElem? (i := 234) (by decide +kernel))) rfl
theorem w3_235 : Cond.fieldLink "GoodsDownhillModel" 19 "GoodsDownhillModel" "madeGood" "[I" ∈ gtb := gtb_in (tin3 (List.mem_of_getElem? (i := 235) (by decide +kernel))) rfl
theorem w3_236 : Cond.fieldLink "GoodsDownhillModel" 22 "GoodsDownhillModel" "madeMany" "[I" ∈ gtb := gtb_in (tin3 (List.mem_of_getElem? (i := 236) (by decide +kernel))) rfl
theorem w3_237 : Cond.fieldLink "GoodsDownhillModel" 25 "GoodsDownhillModel" "wantGood" "[I" ∈ gtb := gtb_in (tin3 (List.mem_of_getElem? (i := 237) (by decide +kernel))) rfl
theorem w3_238 : Cond.fieldLink "GoodsDownhillModel" 28 "GoodsDownhillModel" "wantMany" "[I" ∈ gtb := gtb_in (tin3 (List.mem_of_getElem? (i := 238) (by decide +kernel))) rfl
theorem w3_239 : Cond.fieldLink "GoodsDownhillModel" 31 "GoodsDownhillModel" "coins" "[I" ∈ gtb := gtb_in (tin3 (List.mem_of_getElem? (i := 239) (by decide +kernel))) rfl
theorem w3_25 : Cond.methodLink "GoodsDownhill" 169 ⟨"GoodsDownhill$Tally", "clear", "()V"⟩ ∈ gtb := gtb_in (tin3 (List.mem_of_getElem? (i := 25) (by decide +kernel))) rfl
theorem w3_26 : Cond.instanceMethod ⟨"GoodsDownhill$Tally", "clear", "()V"⟩ ∈ gtb := gtb_in (tin3 (List.mem_of_getElem? (i := 26) (by decide +kernel))) rfl
theorem w3_27 : Cond.selects "GoodsDownhill$Tally" ⟨"GoodsDownhill$Tally", "clear", "()V"⟩ ⟨"GoodsDownhill$Tally", "clear", "()V"⟩ ∈ gtb := gtb_in (tin3 (List.mem_of_getElem? (i := 27) (by decide +kernel))) rfl
theorem w3_28 : Cond.code ⟨"GoodsDownhill$Tally", "clear", "()V"⟩ prog_11_method_2_code 2 none ∈ gtb := gtb_in (tin3 (List.mem_of_getElem? (i := 28) (by decide +kernel))) rfl
theorem w3_29 : Cond.methodLink "GoodsDownhill$Tally" 19 ⟨"GoodsDownhill$Tally", "beginWeek", "()V"⟩ ∈ gtb := gtb_in (tin3 (List.mem_of_getElem? (i := 29) (by decide +kernel))) rfl
theorem w3_3 : Cond.selects "GoodsDownhill$Land" ⟨"GoodsDownhill$Land", "trySale", "(III)Z"⟩ ⟨"GoodsDownhill$Land", "trySale", "(III)Z"⟩ ∈ gtb := gtb_in (tin3 (List.mem_of_getElem? (i := 3) (by decide +kernel))) rfl
theorem w3_30 : Cond.instanceMethod ⟨"GoodsDownhill$Tally", "beginWeek", "()V"⟩ ∈ gtb := gtb_in (tin3 (List.mem_of_getElem? (i := 30) (by decide +kernel))) rfl
theorem w3_31 : Cond.selects "GoodsDownhill$Tally" ⟨"GoodsDownhill$Tally", "beginWeek", "()V"⟩ ⟨"GoodsDownhill$Tally", "beginWeek", "()V"⟩ ∈ gtb := gtb_in (tin3 (List.mem_of_getElem? (i := 31) (by decide +kernel))) rfl
theorem w3_32 : Cond.code ⟨"GoodsDownhill$Tally", "beginWeek", "()V"⟩ prog_11_method_3_code 1 none ∈ gtb := gtb_in (tin3 (List.mem_of_getElem? (i := 32) (by decide +kernel))) rfl
theorem w3_33 : Cond.methodLink "GoodsDownhill" 172 ⟨"GoodsDownhill$Land", "passWeek", "(LGoodsDownhill$Tally;)V"⟩ ∈ gtb := gtb_in (tin3 (List.mem_of_getElem? (i := 33) (by decide +kernel))) rfl
theorem w3_34 : Cond.instanceMethod ⟨"GoodsDownhill$Land", "passWeek", "(LGoodsDownhill$Tally;)V"⟩ ∈ gtb := gtb_in (tin3 (List.mem_of_getElem? (i := 34) (by decide +kernel))) rfl
theorem w3_35 : Cond.selects "GoodsDownhill$Land" ⟨"GoodsDownhill$Land", "passWeek", "(LGoodsDownhill$Tally;)V"⟩ ⟨"GoodsDownhill$Land", "passWeek", "(LGoodsDownhill$Tally;)V"⟩ ∈ gtb := gtb_in (tin3 (List.mem_of_getElem? (i := 35) (by decide +kernel))) rfl
theorem w3_36 : Cond.code ⟨"GoodsDownhill$Land", "passWeek", "(LGoodsDownhill$Tally;)V"⟩ prog_8_method_12_code 3 none ∈ gtb := gtb_in (tin3 (List.mem_of_getElem? (i := 36) (by decide +kernel))) rfl
theorem w3_37 : Cond.methodLink "GoodsDownhill$Land" 96 ⟨"GoodsDownhill$Tally", "beginWeek", "()V"⟩ ∈ gtb := gtb_in (tin3 (List.mem_of_getElem? (i := 37) (by decide +kernel))) rfl
theorem w3_38 : Cond.methodLink "GoodsDownhill$Land" 101 ⟨"GoodsDownhill$Land", "makeGoods", "(I)V"⟩ ∈ gtb := gtb_in (tin3 (List.mem_of_getElem? (i := 38) (by decide +kernel))) rfl
theorem w3_4 : Cond.code ⟨"GoodsDownhill$Land", "trySale", "(III)Z"⟩ prog_8_method_11_code 4 (some .boolean) ∈ gtb := gtb_in (tin3 (List.mem_of_getElem? (i := 4) (by decide +kernel))) rfl
theorem w3_40 : Cond.instanceMethod ⟨"GoodsDownhill$Land", "makeGoods", "(I)V"⟩ ∈ gtb := gtb_in (tin3 (List.mem_of_getElem? (i := 40) (by decide +kernel))) rfl
theorem w3_41 : Cond.code ⟨"GoodsDownhill$Land", "makeGoods", "(I)V"⟩ prog_8_method_13_code 4 none ∈ gtb := gtb_in (tin3 (List.mem_of_getElem? (i := 41) (by decide +kernel))) rfl
theorem w3_42 : Cond.methodLink "GoodsDownhill$Land" 127 ⟨"java/lang/Math", "min", "(II)I"⟩ ∈ gtb := gtb_in (tin3 (List.mem_of_getElem? (i := 42) (by decide +kernel))) rfl
theorem w3_43 : Cond.static ⟨"java/lang/Math", "min", "(II)I"⟩ ∈ gtb := gtb_in (tin3 (List.mem_of_getElem? (i := 43) (by decide +kernel))) rfl
theorem w3_44 : Cond.code ⟨"java/lang/Math", "min", "(II)I"⟩ prog_15_method_69_code 2 (some .int) ∈ gtb := gtb_in (tin3 (List.mem_of_getElem? (i := 44) (by decide +kernel))) rfl
theorem w3_45 : Cond.methodLink "GoodsDownhill$Land" 108 ⟨"GoodsDownhill$Land", "buyWanted", "(I)I"⟩ ∈ gtb := gtb_in (tin3 (List.mem_of_getElem? (i := 45) (by decide +kernel))) rfl
theorem w3_47 : Cond.instanceMethod ⟨"GoodsDownhill$Land", "buyWanted", "(I)I"⟩ ∈ gtb := gtb_in (tin3 (List.mem_of_getElem? (i := 47) (by decide +kernel))) rfl
theorem w3_48 : Cond.code ⟨"GoodsDownhill$Land", "buyWanted", "(I)I"⟩ prog_8_method_14_code 6 (some .int) ∈ gtb := gtb_in (tin3 (List.mem_of_getElem? (i := 48) (by decide +kernel))) rfl
theorem w3_49 : Cond.methodLink "GoodsDownhill$Land" 135 ⟨"GoodsDownhill$Land", "fullestSellerTo", "(II)I"⟩ ∈ gtb := gtb_in (tin3 (List.mem_of_getElem? (i := 49) (by decide +kernel))) rfl
theorem w3_5 : Cond.methodLink "GoodsDownhill$Land" 79 ⟨"GoodsDownhill$Land", "areTwo", "(II)Z"⟩ ∈ gtb := gtb_in (tin3 (List.mem_of_getElem? (i := 5) (by decide +kernel))) rfl
theorem w3_51 : Cond.instanceMethod ⟨"GoodsDownhill$Land", "fullestSellerTo", "(II)I"⟩ ∈ gtb := gtb_in (tin3 (List.mem_of_getElem? (i := 51) (by decide +kernel))) rfl
theorem w3_52 : Cond.code ⟨"GoodsDownhill$Land", "fullestSellerTo", "(II)I"⟩ prog_8_method_15_code 5 (some .int) ∈ gtb := gtb_in (tin3 (List.mem_of_getElem? (i := 52) (by decide +kernel))) rfl
theorem w3_53 : Cond.methodLink "GoodsDownhill$Land" 141 ⟨"GoodsDownhill$House", "wantsSome", "(I)Z"⟩ ∈ gtb := gtb_in (tin3 (List.mem_of_getElem? (i := 53) (by decide +kernel))) rfl
theorem w3_54 : Cond.instanceMethod ⟨"GoodsDownhill$House", "wantsSome", "(I)Z"⟩ ∈ gtb := gtb_in (tin3 (List.mem_of_getElem? (i := 54) (by decide +kernel))) rfl
theorem w3_55 : Cond.selects "GoodsDownhill$House" ⟨"GoodsDownhill$House", "wantsSome", "(I)Z"⟩ ⟨"GoodsDownhill$House", "wantsSome", "(I)Z"⟩ ∈ gtb := gtb_in (tin3 (List.mem_of_getElem? (i := 55) (by decide +kernel))) rfl
theorem w3_56 : Cond.sameMethod "GoodsDownhill$House" "GoodsDownhill$House" "wantsSome" "(I)Z" ∈ gtb := gtb_in (tin3 (List.mem_of_getElem? (i := 56) (by decide +kernel))) rfl
theorem w3_57 : Cond.selects "GoodsDownhill$Cellared" ⟨"GoodsDownhill$House", "wantsSome", "(I)Z"⟩ ⟨"GoodsDownhill$House", "wantsSome", "(I)Z"⟩ ∈ gtb := gtb_in (tin3 (List.mem_of_getElem? (i := 57) (by decide +kernel))) rfl
theorem w3_58 : Cond.selects "GoodsDownhill$Feigned" ⟨"GoodsDownhill$House", "wantsSome", "(I)Z"⟩ ⟨"GoodsDownhill$House", "wantsSome", "(I)Z"⟩ ∈ gtb := gtb_in (tin3 (List.mem_of_getElem? (i := 58) (by decide +kernel))) rfl
theorem w3_59 : Cond.selects "GoodsDownhill$Hermit" ⟨"GoodsDownhill$House", "wantsSome", "(I)Z"⟩ ⟨"GoodsDownhill$House", "wantsSome", "(I)Z"⟩ ∈ gtb := gtb_in (tin3 (List.mem_of_getElem? (i := 59) (by decide +kernel))) rfl
theorem w3_60 : Cond.selects "GoodsDownhill$Joined" ⟨"GoodsDownhill$House", "wantsSome", "(I)Z"⟩ ⟨"GoodsDownhill$House", "wantsSome", "(I)Z"⟩ ∈ gtb := gtb_in (tin3 (List.mem_of_getElem? (i := 60) (by decide +kernel))) rfl
theorem w3_61 : Cond.selects "GoodsDownhill$Market" ⟨"GoodsDownhill$House", "wantsSome", "(I)Z"⟩ ⟨"GoodsDownhill$House", "wantsSome", "(I)Z"⟩ ∈ gtb := gtb_in (tin3 (List.mem_of_getElem? (i := 61) (by decide +kernel))) rfl
theorem w3_62 : Cond.code ⟨"GoodsDownhill$House", "wantsSome", "(I)Z"⟩ prog_6_method_5_code 2 (some .boolean) ∈ gtb := gtb_in (tin3 (List.mem_of_getElem? (i := 62) (by decide +kernel))) rfl
theorem w3_63 : Cond.methodLink "GoodsDownhill$Land" 138 ⟨"java/lang/Math", "max", "(II)I"⟩ ∈ gtb := gtb_in (tin3 (List.mem_of_getElem? (i := 63) (by decide +kernel))) rfl
theorem w3_64 : Cond.methodLink "GoodsDownhill$Land" 112 ⟨"GoodsDownhill$Land", "useWanted", "(I)I"⟩ ∈ gtb := gtb_in (tin3 (List.mem_of_getElem? (i := 64) (by decide +kernel))) rfl
theorem w3_66 : Cond.instanceMethod ⟨"GoodsDownhill$Land", "useWanted", "(I)I"⟩ ∈ gtb := gtb_in (tin3 (List.mem_of_getElem? (i := 66) (by decide +kernel))) rfl
theorem w3_67 : Cond.code ⟨"GoodsDownhill$Land", "useWanted", "(I)I"⟩ prog_8_method_16_code 4 (some .int) ∈ gtb := gtb_in (tin3 (List.mem_of_getElem? (i := 67) (by decide +kernel))) rfl
theorem w3_68 : Cond.methodLink "GoodsDownhill$Land" 118 ⟨"GoodsDownhill$Tally", "addUse", "(III)V"⟩ ∈ gtb := gtb_in (tin3 (List.mem_of_getElem? (i := 68) (by decide +kernel))) rfl
theorem w3_69 : Cond.instanceMethod ⟨"GoodsDownhill$Tally", "addUse", "(III)V"⟩ ∈ gtb := gtb_in (tin3 (List.mem_of_getElem? (i := 69) (by decide +kernel))) rfl
theorem w3_7 : Cond.methodLink "GoodsDownhill$Land" 86 ⟨"GoodsDownhill$Land", "isLawful", "(II)Z"⟩ ∈ gtb := gtb_in (tin3 (List.mem_of_getElem? (i := 7) (by decide +kernel))) rfl
theorem w3_70 : Cond.selects "GoodsDownhill$Tally" ⟨"GoodsDownhill$Tally", "addUse", "(III)V"⟩ ⟨"GoodsDownhill$Tally", "addUse", "(III)V"⟩ ∈ gtb := gtb_in (tin3 (List.mem_of_getElem? (i := 70) (by decide +kernel))) rfl
theorem w3_71 : Cond.code ⟨"GoodsDownhill$Tally", "addUse", "(III)V"⟩ prog_11_method_4_code 4 none ∈ gtb := gtb_in (tin3 (List.mem_of_getElem? (i := 71) (by decide +kernel))) rfl
theorem w3_8 : Cond.methodLink "GoodsDownhill$Land" 89 ⟨"GoodsDownhill$Land", "hasMeans", "(III)Z"⟩ ∈ gtb := gtb_in (tin3 (List.mem_of_getElem? (i := 8) (by decide +kernel))) rfl
theorem w3_80 : Cond.methodLink "GoodsDownhill" 179 ⟨"GoodsDownhill$Debts", "from", "(II)I"⟩ ∈ gtb := gtb_in (tin3 (List.mem_of_getElem? (i := 80) (by decide +kernel))) rfl
theorem w3_81 : Cond.instanceMethod ⟨"GoodsDownhill$Debts", "from", "(II)I"⟩ ∈ gtb := gtb_in (tin3 (List.mem_of_getElem? (i := 81) (by decide +kernel))) rfl
theorem w3_82 : Cond.selects "GoodsDownhill$Debts" ⟨"GoodsDownhill$Debts", "from", "(II)I"⟩ ⟨"GoodsDownhill$Debts", "from", "(II)I"⟩ ∈ gtb := gtb_in (tin3 (List.mem_of_getElem? (i := 82) (by decide +kernel))) rfl
theorem w3_83 : Cond.code ⟨"GoodsDownhill$Debts", "from", "(II)I"⟩ prog_3_method_3_code 3 (some .int) ∈ gtb := gtb_in (tin3 (List.mem_of_getElem? (i := 83) (by decide +kernel))) rfl
theorem w3_84 : Cond.methodLink "GoodsDownhill" 182 ⟨"GoodsDownhill$Debts", "put", "(III)V"⟩ ∈ gtb := gtb_in (tin3 (List.mem_of_getElem? (i := 84) (by decide +kernel))) rfl
theorem w3_89 : Cond.methodLink "GoodsDownhill" 186 ⟨"GoodsDownhill$Debts", "strikeRings", "()I"⟩ ∈ gtb := gtb_in (tin3 (List.mem_of_getElem? (i := 89) (by decide +kernel))) rfl
theorem w3_90 : Cond.instanceMethod ⟨"GoodsDownhill$Debts", "strikeRings", "()I"⟩ ∈ gtb := gtb_in (tin3 (List.mem_of_getElem? (i := 90) (by decide +kernel))) rfl
theorem w3_91 : Cond.selects "GoodsDownhill$Debts" ⟨"GoodsDownhill$Debts", "strikeRings", "()I"⟩ ⟨"GoodsDownhill$Debts", "strikeRings", "()I"⟩ ∈ gtb := gtb_in (tin3 (List.mem_of_getElem? (i := 91) (by decide +kernel))) rfl
theorem w3_92 : Cond.code ⟨"GoodsDownhill$Debts", "strikeRings", "()I"⟩ prog_3_method_7_code 5 (some .int) ∈ gtb := gtb_in (tin3 (List.mem_of_getElem? (i := 92) (by decide +kernel))) rfl
theorem w3_93 : Cond.methodLink "GoodsDownhill$Debts" 29 ⟨"GoodsDownhill$Debts", "strikeTwo", "(II)I"⟩ ∈ gtb := gtb_in (tin3 (List.mem_of_getElem? (i := 93) (by decide +kernel))) rfl
theorem w3_95 : Cond.instanceMethod ⟨"GoodsDownhill$Debts", "strikeTwo", "(II)I"⟩ ∈ gtb := gtb_in (tin3 (List.mem_of_getElem? (i := 95) (by decide +kernel))) rfl
theorem w3_96 : Cond.code ⟨"GoodsDownhill$Debts", "strikeTwo", "(II)I"⟩ prog_3_method_8_code 4 (some .int) ∈ gtb := gtb_in (tin3 (List.mem_of_getElem? (i := 96) (by decide +kernel))) rfl
theorem w3_97 : Cond.methodLink "GoodsDownhill$Debts" 25 ⟨"GoodsDownhill$Debts", "from", "(II)I"⟩ ∈ gtb := gtb_in (tin3 (List.mem_of_getElem? (i := 97) (by decide +kernel))) rfl
theorem w3_98 : Cond.methodLink "GoodsDownhill$Debts" 36 ⟨"java/lang/Math", "min", "(II)I"⟩ ∈ gtb := gtb_in (tin3 (List.mem_of_getElem? (i := 98) (by decide +kernel))) rfl
theorem w3_99 : Cond.methodLink "GoodsDownhill$Debts" 41 ⟨"GoodsDownhill$Debts", "put", "(III)V"⟩ ∈ gtb := gtb_in (tin3 (List.mem_of_getElem? (i := 99) (by decide +kernel))) rfl
theorem w4_0 : Cond.fieldLink "GoodsDownhillModel" 34 "GoodsDownhillModel" "stores" "[I" ∈ gtb := gtb_in (tin4 (List.mem_of_getElem? (i := 0) (by decide +kernel))) rfl
theorem w4_1 : Cond.fieldLink "GoodsDownhillModel" 37 "GoodsDownhillModel" "debts" "[I" ∈ gtb := gtb_in (tin4 (List.mem_of_getElem? (i := 1) (by decide +kernel))) rfl
theorem w4_10 : Cond.fieldLink "GoodsDownhillModel" 160 "GoodsDownhillModel" "hasImage" "Z" ∈ gtb := gtb_in (tin4 (List.mem_of_getElem? (i := 10) (by decide +kernel))) rfl
theorem w4_107 : Cond.methodLink "GoodsDownhillModel" 156 ⟨"GoodsDownhillModel", "carryAll", "([IZ)V"⟩ ∈ gtb := gtb_in (tin4 (List.mem_of_getElem? (i := 107) (by decide +kernel))) rfl
theorem w4_109 : Cond.instanceMethod ⟨"GoodsDownhillModel", "carryAll", "([IZ)V"⟩ ∈ gtb := gtb_in (tin4 (List.mem_of_getElem? (i := 109) (by decide +kernel))) rfl
theorem w4_11 : Cond.fieldLink "GoodsDownhillModel" 147 "GoodsDownhillModel" "place" "I" ∈ gtb := gtb_in (tin4 (List.mem_of_getElem? (i := 11) (by decide +kernel))) rfl
theorem w4_110 : Cond.code ⟨"GoodsDownhillModel", "carryAll", "([IZ)V"⟩ prog_14_method_21_code 4 none ∈ gtb := gtb_in (tin4 (List.mem_of_getElem? (i := 110) (by decide +kernel))) rfl
theorem w4_111 : Cond.methodLink "GoodsDownhillModel" 150 ⟨"GoodsDownhillModel", "carry", "(I)I"⟩ ∈ gtb := gtb_in (tin4 (List.mem_of_getElem? (i := 111) (by decide +kernel))) rfl
theorem w4_113 : Cond.instanceMethod ⟨"GoodsDownhillModel", "carry", "(I)I"⟩ ∈ gtb := gtb_in (tin4 (List.mem_of_getElem? (i := 113) (by decide +kernel))) rfl
theorem w4_114 : Cond.code ⟨"GoodsDownhillModel", "carry", "(I)I"⟩ prog_14_method_20_code 2 (some .int) ∈ gtb := gtb_in (tin4 (List.mem_of_getElem? (i := 114) (by decide +kernel))) rfl
theorem w4_119 : Cond.methodLink "GoodsDownhillModel" 163 ⟨"GoodsDownhillModel", "refuse", "(I)I"⟩ ∈ gtb := gtb_in (tin4 (List.mem_of_getElem? (i := 119) (by decide +kernel))) rfl
theorem w4_12 : Cond.fieldLink "GoodsDownhillModel" 140 "GoodsDownhillModel" "isTaking" "Z" ∈ gtb := gtb_in (tin4 (List.mem_of_getElem? (i := 12) (by decide +kernel))) rfl
theorem w4_121 : Cond.instanceMethod ⟨"GoodsDownhillModel", "refuse", "(I)I"⟩ ∈ gtb := gtb_in (tin4 (List.mem_of_getElem? (i := 121) (by decide +kernel))) rfl
theorem w4_122 : Cond.code ⟨"GoodsDownhillModel", "refuse", "(I)I"⟩ prog_14_method_4_code 2 (some .int) ∈ gtb := gtb_in (tin4 (List.mem_of_getElem? (i := 122) (by decide +kernel))) rfl
theorem w4_13 : Cond.fieldLink "GoodsDownhillModel" 144 "GoodsDownhillModel" "keptIn" "[I" ∈ gtb := gtb_in (tin4 (List.mem_of_getElem? (i := 13) (by decide +kernel))) rfl
theorem w4_131 : Cond.methodLink "GoodsDownhillModel" 198 ⟨"GoodsDownhillModel", "readStatement", "()V"⟩ ∈ gtb := gtb_in (tin4 (List.mem_of_getElem? (i := 131) (by decide +kernel))) rfl
theorem w4_133 : Cond.instanceMethod ⟨"GoodsDownhillModel", "readStatement", "()V"⟩ ∈ gtb := gtb_in (tin4 (List.mem_of_getElem? (i := 133) (by decide +kernel))) rfl
theorem w4_134 : Cond.code ⟨"GoodsDownhillModel", "readStatement", "()V"⟩ prog_14_method_30_code 5 none ∈ gtb := gtb_in (tin4 (List.mem_of_getElem? (i := 134) (by decide +kernel))) rfl
theorem w4_135 : Cond.methodLink "GoodsDownhillModel" 175 ⟨"GoodsDownhillModel", "here", "()I"⟩ ∈ gtb := gtb_in (tin4 (List.mem_of_getElem? (i := 135) (by decide +kernel))) rfl
theorem w4_137 : Cond.instanceMethod ⟨"GoodsDownhillModel", "here", "()I"⟩ ∈ gtb := gtb_in (tin4 (List.mem_of_getElem? (i := 137) (by decide +kernel))) rfl
theorem w4_138 : Cond.code ⟨"GoodsDownhillModel", "here", "()I"⟩ prog_14_method_27_code 1 (some .int) ∈ gtb := gtb_in (tin4 (List.mem_of_getElem? (i := 138) (by decide +kernel))) rfl
theorem w4_139 : Cond.methodLink "GoodsDownhillModel" 183 ⟨"GoodsDownhillModel", "readDigit", "()I"⟩ ∈ gtb := gtb_in (tin4 (List.mem_of_getElem? (i := 139) (by decide +kernel))) rfl
theorem w4_14 : Cond.fieldLink "GoodsDownhillModel" 55 "GoodsDownhillModel" "letters" "[I" ∈ gtb := gtb_in (tin4 (List.mem_of_getElem? (i := 14) (by decide +kernel))) rfl
theorem w4_141 : Cond.instanceMethod ⟨"GoodsDownhillModel", "readDigit", "()I"⟩ ∈ gtb := gtb_in (tin4 (List.mem_of_getElem? (i := 141) (by decide +kernel))) rfl
theorem w4_142 : Cond.code ⟨"GoodsDownhillModel", "readDigit", "()I"⟩ prog_14_method_28_code 1 (some .int) ∈ gtb := gtb_in (tin4 (List.mem_of_getElem? (i := 142) (by decide +kernel))) rfl
theorem w4_143 : Cond.constantLong "GoodsDownhillModel" 179 48 ∈ gtb := gtb_in (tin4 (List.mem_of_getElem? (i := 143) (by decide +kernel))) rfl
theorem w4_144 : Cond.constantLong "GoodsDownhillModel" 181 57 ∈ gtb := gtb_in (tin4 (List.mem_of_getElem? (i := 144) (by decide +kernel))) rfl
theorem w4_145 : Cond.methodLink "GoodsDownhillModel" 80 ⟨"GoodsDownhillModel", "in", "(JJJ)Z"⟩ ∈ gtb := gtb_in (tin4 (List.mem_of_getElem? (i := 145) (by decide +kernel))) rfl
theorem w4_146 : Cond.static ⟨"GoodsDownhillModel", "in", "(JJJ)Z"⟩ ∈ gtb := gtb_in (tin4 (List.mem_of_getElem? (i := 146) (by decide +kernel))) rfl
theorem w4_147 : Cond.code ⟨"GoodsDownhillModel", "in", "(JJJ)Z"⟩ prog_14_method_3_code 6 (some .boolean) ∈ gtb := gtb_in (tin4 (List.mem_of_getElem? (i := 147) (by decide +kernel))) rfl
theorem w4_148 : Cond.methodLink "GoodsDownhillModel" 189 ⟨"GoodsDownhillModel", "readNumber", "(I)I"⟩ ∈ gtb := gtb_in (tin4 (List.mem_of_getElem? (i := 148) (by decide +kernel))) rfl
theorem w4_15 : Cond.fieldLink "GoodsDownhillModel" 166 "GoodsDownhillModel" "letterMany" "I" ∈ gtb := gtb_in (tin4 (List.mem_of_getElem? (i := 15) (by decide +kernel))) rfl
theorem w4_150 : Cond.instanceMethod ⟨"GoodsDownhillModel", "readNumber", "(I)I"⟩ ∈ gtb := gtb_in (tin4 (List.mem_of_getElem? (i := 150) (by decide +kernel))) rfl
theorem w4_151 : Cond.code ⟨"GoodsDownhillModel", "readNumber", "(I)I"⟩ prog_14_method_29_code 4 (some .int) ∈ gtb := gtb_in (tin4 (List.mem_of_getElem? (i := 151) (by decide +kernel))) rfl
theorem w4_152 : Cond.methodLink "GoodsDownhillModel" 201 ⟨"GoodsDownhillModel", "open", "()V"⟩ ∈ gtb := gtb_in (tin4 (List.mem_of_getElem? (i := 152) (by decide +kernel))) rfl
theorem w4_154 : Cond.instanceMethod ⟨"GoodsDownhillModel", "open", "()V"⟩ ∈ gtb := gtb_in (tin4 (List.mem_of_getElem? (i := 154) (by decide +kernel))) rfl
theorem w4_155 : Cond.code ⟨"GoodsDownhillModel", "open", "()V"⟩ prog_14_method_22_code 2 none ∈ gtb := gtb_in (tin4 (List.mem_of_getElem? (i := 155) (by decide +kernel))) rfl
theorem w4_156 : Cond.methodLink "GoodsDownhillModel" 204 ⟨"GoodsDownhillModel", "comes", "(I)Z"⟩ ∈ gtb := gtb_in (tin4 (List.mem_of_getElem? (i := 156) (by decide +kernel))) rfl
theorem w4_158 : Cond.instanceMethod ⟨"GoodsDownhillModel", "comes", "(I)Z"⟩ ∈ gtb := gtb_in (tin4 (List.mem_of_getElem? (i := 158) (by decide +kernel))) rfl
theorem w4_159 : Cond.code ⟨"GoodsDownhillModel", "comes", "(I)Z"⟩ prog_14_method_32_code 5 (some .boolean) ∈ gtb := gtb_in (tin4 (List.mem_of_getElem? (i := 159) (by decide +kernel))) rfl
theorem w4_16 : Cond.fieldLink "GoodsDownhillModel" 169 "GoodsDownhillModel" "at" "I" ∈ gtb := gtb_in (tin4 (List.mem_of_getElem? (i := 16) (by decide +kernel))) rfl
theorem w4_160 : Cond.methodLink "GoodsDownhillModel" 192 ⟨"GoodsDownhillModel", "houseComes", "(I)Z"⟩ ∈ gtb := gtb_in (tin4 (List.mem_of_getElem? (i := 160) (by decide +kernel))) rfl
theorem w4_162 : Cond.instanceMethod ⟨"GoodsDownhillModel", "houseComes", "(I)Z"⟩ ∈ gtb := gtb_in (tin4 (List.mem_of_getElem? (i := 162) (by decide +kernel))) rfl
theorem w4_163 : Cond.code ⟨"GoodsDownhillModel", "houseComes", "(I)Z"⟩ prog_14_method_31_code 5 (some .boolean) ∈ gtb := gtb_in (tin4 (List.mem_of_getElem? (i := 163) (by decide +kernel))) rfl
theorem w4_164 : Cond.methodLink "GoodsDownhillModel" 195 ⟨"GoodsDownhillModel", "areTwo", "(II)Z"⟩ ∈ gtb := gtb_in (tin4 (List.mem_of_getElem? (i := 164) (by decide +kernel))) rfl
theorem w4_166 : Cond.instanceMethod ⟨"GoodsDownhillModel", "areTwo", "(II)Z"⟩ ∈ gtb := gtb_in (tin4 (List.mem_of_getElem? (i := 166) (by decide +kernel))) rfl
theorem w4_167 : Cond.code ⟨"GoodsDownhillModel", "areTwo", "(II)Z"⟩ prog_14_method_6_code 3 (some .boolean) ∈ gtb := gtb_in (tin4 (List.mem_of_getElem? (i := 167) (by decide +kernel))) rfl
theorem w4_168 : Cond.methodLink "GoodsDownhillModel" 84 ⟨"GoodsDownhillModel", "isHouse", "(I)Z"⟩ ∈ gtb := gtb_in (tin4 (List.mem_of_getElem? (i := 168) (by decide +kernel))) rfl
theorem w4_17 : Cond.fieldLink "GoodsDownhillModel" 172 "GoodsDownhillModel" "isBad" "Z" ∈ gtb := gtb_in (tin4 (List.mem_of_getElem? (i := 17) (by decide +kernel))) rfl
theorem w4_170 : Cond.instanceMethod ⟨"GoodsDownhillModel", "isHouse", "(I)Z"⟩ ∈ gtb := gtb_in (tin4 (List.mem_of_getElem? (i := 170) (by decide +kernel))) rfl
theorem w4_171 : Cond.code ⟨"GoodsDownhillModel", "isHouse", "(I)Z"⟩ prog_14_method_5_code 2 (some .boolean) ∈ gtb := gtb_in (tin4 (List.mem_of_getElem? (i := 171) (by decide +kernel))) rfl
theorem w4_172 : Cond.methodLink "GoodsDownhillModel" 207 ⟨"GoodsDownhillModel", "close", "()V"⟩ ∈ gtb := gtb_in (tin4 (List.mem_of_getElem? (i := 172) (by decide +kernel))) rfl
theorem w4_174 : Cond.instanceMethod ⟨"GoodsDownhillModel", "close", "()V"⟩ ∈ gtb := gtb_in (tin4 (List.mem_of_getElem? (i := 174) (by decide +kernel))) rfl
theorem w4_175 : Cond.code ⟨"GoodsDownhillModel", "close", "()V"⟩ prog_14_method_23_code 1 none ∈ gtb := gtb_in (tin4 (List.mem_of_getElem? (i := 175) (by decide +kernel))) rfl
theorem w4_18 : Cond.fieldLink "GoodsDownhillModel" 186 "GoodsDownhillModel" "statements" "I" ∈ gtb := gtb_in (tin4 (List.mem_of_getElem? (i := 18) (by decide +kernel))) rfl
theorem w4_180 : Cond.methodLink "GoodsDownhillModel" 90 ⟨"GoodsDownhillModel", "sellsAt", "(I)I"⟩ ∈ gtb := gtb_in (tin4 (List.mem_of_getElem? (i := 180) (by decide +kernel))) rfl
theorem w4_182 : Cond.instanceMethod ⟨"GoodsDownhillModel", "sellsAt", "(I)I"⟩ ∈ gtb := gtb_in (tin4 (List.mem_of_getElem? (i := 182) (by decide +kernel))) rfl
theorem w4_183 : Cond.code ⟨"GoodsDownhillModel", "sellsAt", "(I)I"⟩ prog_14_method_8_code 3 (some .int) ∈ gtb := gtb_in (tin4 (List.mem_of_getElem? (i := 183) (by decide +kernel))) rfl
theorem w4_184 : Cond.methodLink "GoodsDownhillModel" 94 ⟨"GoodsDownhillModel", "buysAt", "(I)I"⟩ ∈ gtb := gtb_in (tin4 (List.mem_of_getElem? (i := 184) (by decide +kernel))) rfl
theorem w4_186 : Cond.instanceMethod ⟨"GoodsDownhillModel", "buysAt", "(I)I"⟩ ∈ gtb := gtb_in (tin4 (List.mem_of_getElem? (i := 186) (by decide +kernel))) rfl
theorem w4_187 : Cond.code ⟨"GoodsDownhillModel", "buysAt", "(I)I"⟩ prog_14_method_9_code 4 (some .int) ∈ gtb := gtb_in (tin4 (List.mem_of_getElem? (i := 187) (by decide +kernel))) rfl
theorem w4_19 : Cond.fieldLink "GoodsDownhillModel" 58 "GoodsDownhillModel" "placeOf" "[I" ∈ gtb := gtb_in (tin4 (List.mem_of_getElem? (i := 19) (by decide +kernel))) rfl
theorem w4_192 : Cond.methodLink "GoodsDownhillModel" 210 ⟨"GoodsDownhillModel", "isGood", "(I)Z"⟩ ∈ gtb := gtb_in (tin4 (List.mem_of_getElem? (i := 192) (by decide +kernel))) rfl
theorem w4_193 : Cond.static ⟨"GoodsDownhillModel", "isGood", "(I)Z"⟩ ∈ gtb := gtb_in (tin4 (List.mem_of_getElem? (i := 193) (by decide +kernel))) rfl
theorem w4_194 : Cond.code ⟨"GoodsDownhillModel", "isGood", "(I)Z"⟩ prog_14_method_7_code 1 (some .boolean) ∈ gtb := gtb_in (tin4 (List.mem_of_getElem? (i := 194) (by decide +kernel))) rfl
theorem w4_195 : Cond.constantLong "GoodsDownhillModel" 88 2 ∈ gtb := gtb_in (tin4 (List.mem_of_getElem? (i := 195) (by decide +kernel))) rfl
theorem w4_2 : Cond.fieldLink "GoodsDownhillModel" 40 "GoodsDownhillModel" "prices" "[I" ∈ gtb := gtb_in (tin4 (List.mem_of_getElem? (i := 2) (by decide +kernel))) rfl
theorem w4_20 : Cond.fieldLink "GoodsDownhillModel" 61 "GoodsDownhillModel" "letterOf" "[I" ∈ gtb := gtb_in (tin4 (List.mem_of_getElem? (i := 20) (by decide +kernel))) rfl
theorem w4_208 : Cond.methodLink "GoodsDownhillModel" 100 ⟨"GoodsDownhillModel", "isLawful", "(II)Z"⟩ ∈ gtb := gtb_in (tin4 (List.mem_of_getElem? (i := 208) (by decide +kernel))) rfl
theorem w4_21 : Cond.fieldLink "GoodsDownhillModel" 64 "GoodsDownhillModel" "told" "[I" ∈ gtb := gtb_in (tin4 (List.mem_of_getElem? (i := 21) (by decide +kernel))) rfl
theorem w4_210 : Cond.instanceMethod ⟨"GoodsDownhillModel", "isLawful", "(II)Z"⟩ ∈ gtb := gtb_in (tin4 (List.mem_of_getElem? (i := 210) (by decide +kernel))) rfl
theorem w4_211 : Cond.code ⟨"GoodsDownhillModel", "isLawful", "(II)Z"⟩ prog_14_method_10_code 5 (some .boolean) ∈ gtb := gtb_in (tin4 (List.mem_of_getElem? (i := 211) (by decide +kernel))) rfl
theorem w4_216 : Cond.methodLink "GoodsDownhillModel" 107 ⟨"GoodsDownhillModel", "canSell", "(III)Z"⟩ ∈ gtb := gtb_in (tin4 (List.mem_of_getElem? (i := 216) (by decide +kernel))) rfl
theorem w4_218 : Cond.instanceMethod ⟨"GoodsDownhillModel", "canSell", "(III)Z"⟩ ∈ gtb := gtb_in (tin4 (List.mem_of_getElem? (i := 218) (by decide +kernel))) rfl
theorem w4_219 : Cond.code ⟨"GoodsDownhillModel", "canSell", "(III)Z"⟩ prog_14_method_11_code 4 (some .boolean) ∈ gtb := gtb_in (tin4 (List.mem_of_getElem? (i := 219) (by decide +kernel))) rfl
theorem w4_22 : Cond.fieldLink "GoodsDownhillModel" 67 "GoodsDownhillModel" "servedNow" "[I" ∈ gtb := gtb_in (tin4 (List.mem_of_getElem? (i := 22) (by decide +kernel))) rfl
theorem w4_220 : Cond.methodLink "GoodsDownhillModel" 111 ⟨"GoodsDownhillModel", "sell", "(III)V"⟩ ∈ gtb := gtb_in (tin4 (List.mem_of_getElem? (i := 220) (by decide +kernel))) rfl
theorem w4_222 : Cond.instanceMethod ⟨"GoodsDownhillModel", "sell", "(III)V"⟩ ∈ gtb := gtb_in (tin4 (List.mem_of_getElem? (i := 222) (by decide +kernel))) rfl
theorem w4_223 : Cond.code ⟨"GoodsDownhillModel", "sell", "(III)V"⟩ prog_14_method_12_code 4 none ∈ gtb := gtb_in (tin4 (List.mem_of_getElem? (i := 223) (by decide +kernel))) rfl
theorem w4_228 : Cond.methodLink "GoodsDownhillModel" 213 ⟨"GoodsDownhillModel", "weekOn", "()I"⟩ ∈ gtb := gtb_in (tin4 (List.mem_of_getElem? (i := 228) (by decide +kernel))) rfl
theorem w4_23 : Cond.fieldLink "GoodsDownhillModel" 70 "GoodsDownhillModel" "row" "[I" ∈ gtb := gtb_in (tin4 (List.mem_of_getElem? (i := 23) (by decide +kernel))) rfl
theorem w4_230 : Cond.instanceMethod ⟨"GoodsDownhillModel", "weekOn", "()I"⟩ ∈ gtb := gtb_in (tin4 (List.mem_of_getElem? (i := 230) (by decide +kernel))) rfl
theorem w4_231 : Cond.code ⟨"GoodsDownhillModel", "weekOn", "()I"⟩ prog_14_method_15_code 5 (some .int) ∈ gtb := gtb_in (tin4 (List.mem_of_getElem? (i := 231) (by decide +kernel))) rfl
theorem w4_232 : Cond.methodLink "GoodsDownhillModel" 118 ⟨"GoodsDownhillModel", "buyFor", "(I)V"⟩ ∈ gtb := gtb_in (tin4 (List.mem_of_getElem? (i := 232) (by decide +kernel))) rfl
theorem w4_234 : Cond.instanceMethod ⟨"GoodsDownhillModel", "buyFor", "(I)V"⟩ ∈ gtb := gtb_in (tin4 (List.mem_of_getElem? (i := 234) (by decide +kernel))) rfl
theorem w4_235 : Cond.code ⟨"GoodsDownhillModel", "buyFor", "(I)V"⟩ prog_14_method_14_code 7 none ∈ gtb := gtb_in (tin4 (List.mem_of_getElem? (i := 235) (by decide +kernel))) rfl
theorem w4_236 : Cond.methodLink "GoodsDownhillModel" 104 ⟨"GoodsDownhillModel", "wants", "(II)Z"⟩ ∈ gtb := gtb_in (tin4 (List.mem_of_getElem? (i := 236) (by decide +kernel))) rfl
theorem w4_238 : Cond.instanceMethod ⟨"GoodsDownhillModel", "wants", "(II)Z"⟩ ∈ gtb := gtb_in (tin4 (List.mem_of_getElem? (i := 238) (by decide +kernel))) rfl
theorem w4_239 : Cond.code ⟨"GoodsDownhillModel", "wants", "(II)Z"⟩ prog_14_method_13_code 3 (some .boolean) ∈ gtb := gtb_in (tin4 (List.mem_of_getElem? (i := 239) (by decide +kernel))) rfl
theorem w4_24 : Cond.fieldLink "GoodsDownhillModel" 233 "GoodsDownhillModel" "rowMany" "I" ∈ gtb := gtb_in (tin4 (List.mem_of_getElem? (i := 24) (by decide +kernel))) rfl
theorem w4_25 : Cond.fieldLink "GoodsDownhillModel" 239 "GoodsDownhillModel" "seed" "I" ∈ gtb := gtb_in (tin4 (List.mem_of_getElem? (i := 25) (by decide +kernel))) rfl
theorem w4_3 : Cond.fieldLink "GoodsDownhillModel" 73 "GoodsDownhillModel" "thrown" "I" ∈ gtb := gtb_in (tin4 (List.mem_of_getElem? (i := 3) (by decide +kernel))) rfl
theorem w4_4 : Cond.fieldLink "GoodsDownhillModel" 43 "GoodsDownhillModel" "refusals" "[I" ∈ gtb := gtb_in (tin4 (List.mem_of_getElem? (i := 4) (by decide +kernel))) rfl
theorem w4_5 : Cond.fieldLink "GoodsDownhillModel" 115 "GoodsDownhillModel" "sales" "I" ∈ gtb := gtb_in (tin4 (List.mem_of_getElem? (i := 5) (by decide +kernel))) rfl
theorem w4_6 : Cond.fieldLink "GoodsDownhillModel" 46 "GoodsDownhillModel" "servedOf" "[I" ∈ gtb := gtb_in (tin4 (List.mem_of_getElem? (i := 6) (by decide +kernel))) rfl
theorem w4_7 : Cond.fieldLink "GoodsDownhillModel" 133 "GoodsDownhillModel" "struckSum" "I" ∈ gtb := gtb_in (tin4 (List.mem_of_getElem? (i := 7) (by decide +kernel))) rfl
theorem w4_8 : Cond.fieldLink "GoodsDownhillModel" 49 "GoodsDownhillModel" "kept" "[I" ∈ gtb := gtb_in (tin4 (List.mem_of_getElem? (i := 8) (by decide +kernel))) rfl
theorem w4_9 : Cond.fieldLink "GoodsDownhillModel" 52 "GoodsDownhillModel" "imaged" "[I" ∈ gtb := gtb_in (tin4 (List.mem_of_getElem? (i := 9) (by decide +kernel))) rfl
theorem w5_10 : Cond.instanceMethod ⟨"GoodsDownhillModel", "debt", "(II)I"⟩ ∈ gtb := gtb_in (tin5 (List.mem_of_getElem? (i := 10) (by decide +kernel))) rfl
theorem w5_101 : Cond.methodLink "GoodsDownhillModel" 245 ⟨"GoodsDownhillModel", "draw", "(I)I"⟩ ∈ gtb := gtb_in (tin5 (List.mem_of_getElem? (i := 101) (by decide +kernel))) rfl
theorem w5_103 : Cond.instanceMethod ⟨"GoodsDownhillModel", "draw", "(I)I"⟩ ∈ gtb := gtb_in (tin5 (List.mem_of_getElem? (i := 103) (by decide +kernel))) rfl
theorem w5_104 : Cond.code ⟨"GoodsDownhillModel", "draw", "(I)I"⟩ prog_14_method_61_code 2 (some .int) ∈ gtb := gtb_in (tin5 (List.mem_of_getElem? (i := 104) (by decide +kernel))) rfl
theorem w5_105 : Cond.constant "GoodsDownhillModel" 242 1103515245 ∈ gtb := gtb_in (tin5 (List.mem_of_getElem? (i := 105) (by decide +kernel))) rfl
theorem w5_106 : Cond.constant "GoodsDownhillModel" 243 2147483647 ∈ gtb := gtb_in (tin5 (List.mem_of_getElem? (i := 106) (by decide +kernel))) rfl
theorem w5_107 : Cond.constant "GoodsDownhillModel" 244 65536 ∈ gtb := gtb_in (tin5 (List.mem_of_getElem? (i := 107) (by decide +kernel))) rfl
theorem w5_11 : Cond.code ⟨"GoodsDownhillModel", "debt", "(II)I"⟩ prog_14_method_16_code 3 (some .int) ∈ gtb := gtb_in (tin5 (List.mem_of_getElem? (i := 11) (by decide +kernel))) rfl
theorem w5_112 : Cond.methodLink "GoodsDownhillModel" 248 ⟨"GoodsDownhillModel", "sumOf", "([II)I"⟩ ∈ gtb := gtb_in (tin5 (List.mem_of_getElem? (i := 112) (by decide +kernel))) rfl
theorem w5_114 : Cond.instanceMethod ⟨"GoodsDownhillModel", "sumOf", "([II)I"⟩ ∈ gtb := gtb_in (tin5 (List.mem_of_getElem? (i := 114) (by decide +kernel))) rfl
theorem w5_115 : Cond.code ⟨"GoodsDownhillModel", "sumOf", "([II)I"⟩ prog_14_method_63_code 5 (some .int) ∈ gtb := gtb_in (tin5 (List.mem_of_getElem? (i := 115) (by decide +kernel))) rfl
theorem w5_116 : Cond.constantLong "GoodsDownhillModel" 252 11 ∈ gtb := gtb_in (tin5 (List.mem_of_getElem? (i := 116) (by decide +kernel))) rfl
theorem w5_117 : Cond.constantLong "GoodsDownhillModel" 254 16 ∈ gtb := gtb_in (tin5 (List.mem_of_getElem? (i := 117) (by decide +kernel))) rfl
theorem w5_16 : Cond.methodLink "GoodsDownhillModel" 216 ⟨"GoodsDownhillModel", "strikeAll", "()I"⟩ ∈ gtb := gtb_in (tin5 (List.mem_of_getElem? (i := 16) (by decide +kernel))) rfl
theorem w5_18 : Cond.instanceMethod ⟨"GoodsDownhillModel", "strikeAll", "()I"⟩ ∈ gtb := gtb_in (tin5 (List.mem_of_getElem? (i := 18) (by decide +kernel))) rfl
theorem w5_19 : Cond.code ⟨"GoodsDownhillModel", "strikeAll", "()I"⟩ prog_14_method_19_code 2 (some .int) ∈ gtb := gtb_in (tin5 (List.mem_of_getElem? (i := 19) (by decide +kernel))) rfl
theorem w5_20 : Cond.methodLink "GoodsDownhillModel" 136 ⟨"GoodsDownhillModel", "strikeOne", "()Z"⟩ ∈ gtb := gtb_in (tin5 (List.mem_of_getElem? (i := 20) (by decide +kernel))) rfl
theorem w5_22 : Cond.instanceMethod ⟨"GoodsDownhillModel", "strikeOne", "()Z"⟩ ∈ gtb := gtb_in (tin5 (List.mem_of_getElem? (i := 22) (by decide +kernel))) rfl
theorem w5_23 : Cond.code ⟨"GoodsDownhillModel", "strikeOne", "()Z"⟩ prog_14_method_18_code 6 (some .boolean) ∈ gtb := gtb_in (tin5 (List.mem_of_getElem? (i := 23) (by decide +kernel))) rfl
theorem w5_24 : Cond.methodLink "GoodsDownhillModel" 129 ⟨"GoodsDownhillModel", "lessen", "(III)I"⟩ ∈ gtb := gtb_in (tin5 (List.mem_of_getElem? (i := 24) (by decide +kernel))) rfl
theorem w5_26 : Cond.instanceMethod ⟨"GoodsDownhillModel", "lessen", "(III)I"⟩ ∈ gtb := gtb_in (tin5 (List.mem_of_getElem? (i := 26) (by decide +kernel))) rfl
theorem w5_27 : Cond.code ⟨"GoodsDownhillModel", "lessen", "(III)I"⟩ prog_14_method_17_code 6 (some .int) ∈ gtb := gtb_in (tin5 (List.mem_of_getElem? (i := 27) (by decide +kernel))) rfl
theorem w5_32 : Cond.methodLink "GoodsDownhillModel" 219 ⟨"GoodsDownhillModel", "servedIn", "(I)I"⟩ ∈ gtb := gtb_in (tin5 (List.mem_of_getElem? (i := 32) (by decide +kernel))) rfl
theorem w5_34 : Cond.instanceMethod ⟨"GoodsDownhillModel", "servedIn", "(I)I"⟩ ∈ gtb := gtb_in (tin5 (List.mem_of_getElem? (i := 34) (by decide +kernel))) rfl
theorem w5_35 : Cond.code ⟨"GoodsDownhillModel", "servedIn", "(I)I"⟩ prog_14_method_44_code 4 (some .int) ∈ gtb := gtb_in (tin5 (List.mem_of_getElem? (i := 35) (by decide +kernel))) rfl
theorem w5_40 : Cond.methodLink "GoodsDownhillModel" 222 ⟨"GoodsDownhillModel", "wantsOfAll", "()I"⟩ ∈ gtb := gtb_in (tin5 (List.mem_of_getElem? (i := 40) (by decide +kernel))) rfl
theorem w5_42 : Cond.instanceMethod ⟨"GoodsDownhillModel", "wantsOfAll", "()I"⟩ ∈ gtb := gtb_in (tin5 (List.mem_of_getElem? (i := 42) (by decide +kernel))) rfl
theorem w5_43 : Cond.code ⟨"GoodsDownhillModel", "wantsOfAll", "()I"⟩ prog_14_method_46_code 3 (some .int) ∈ gtb := gtb_in (tin5 (List.mem_of_getElem? (i := 43) (by decide +kernel))) rfl
theorem w5_56 : Cond.methodLink "GoodsDownhillModel" 225 ⟨"GoodsDownhillModel", "mostOf", "(I)I"⟩ ∈ gtb := gtb_in (tin5 (List.mem_of_getElem? (i := 56) (by decide +kernel))) rfl
theorem w5_58 : Cond.instanceMethod ⟨"GoodsDownhillModel", "mostOf", "(I)I"⟩ ∈ gtb := gtb_in (tin5 (List.mem_of_getElem? (i := 58) (by decide +kernel))) rfl
theorem w5_59 : Cond.code ⟨"GoodsDownhillModel", "mostOf", "(I)I"⟩ prog_14_method_50_code 9 (some .int) ∈ gtb := gtb_in (tin5 (List.mem_of_getElem? (i := 59) (by decide +kernel))) rfl
theorem w5_64 : Cond.constant "GoodsDownhillModel" 228 1000000000 ∈ gtb := gtb_in (tin5 (List.mem_of_getElem? (i := 64) (by decide +kernel))) rfl
theorem w5_69 : Cond.methodLink "GoodsDownhillModel" 229 ⟨"GoodsDownhillModel", "isPath", "(IIII)Z"⟩ ∈ gtb := gtb_in (tin5 (List.mem_of_getElem? (i := 69) (by decide +kernel))) rfl
theorem w5_71 : Cond.instanceMethod ⟨"GoodsDownhillModel", "isPath", "(IIII)Z"⟩ ∈ gtb := gtb_in (tin5 (List.mem_of_getElem? (i := 71) (by decide +kernel))) rfl
theorem w5_72 : Cond.code ⟨"GoodsDownhillModel", "isPath", "(IIII)Z"⟩ prog_14_method_53_code 11 (some .boolean) ∈ gtb := gtb_in (tin5 (List.mem_of_getElem? (i := 72) (by decide +kernel))) rfl
theorem w5_8 : Cond.methodLink "GoodsDownhillModel" 125 ⟨"GoodsDownhillModel", "debt", "(II)I"⟩ ∈ gtb := gtb_in (tin5 (List.mem_of_getElem? (i := 8) (by decide +kernel))) rfl
theorem w5_93 : Cond.methodLink "GoodsDownhillModel" 236 ⟨"GoodsDownhillModel", "isSold", "(III)Z"⟩ ∈ gtb := gtb_in (tin5 (List.mem_of_getElem? (i := 93) (by decide +kernel))) rfl
theorem w5_95 : Cond.instanceMethod ⟨"GoodsDownhillModel", "isSold", "(III)Z"⟩ ∈ gtb := gtb_in (tin5 (List.mem_of_getElem? (i := 95) (by decide +kernel))) rfl
theorem w5_96 : Cond.code ⟨"GoodsDownhillModel", "isSold", "(III)Z"⟩ prog_14_method_59_code 5 (some .boolean) ∈ gtb := gtb_in (tin5 (List.mem_of_getElem? (i := 96) (by decide +kernel))) rfl
theorem hfam0 : ∀ ci, isF ci = true → ∀ (C : String) (TT : u_T) (N : Nat), vwCl[ci]? = some (C, TT, N) → (TT 0).1 = "GoodsDownhill$House" := by
  intro ci h C TT N hv
  rcases isF_c h with h | h | h | h | h | h <;> subst h <;> cases hv <;> rfl
theorem hfam1 : ∀ ci, isF ci = true → ∀ (C : String) (TT : u_T) (N : Nat), vwCl[ci]? = some (C, TT, N) → (TT 1).1 = "GoodsDownhill$House" := by
  intro ci h C TT N hv
  rcases isF_c h with h | h | h | h | h | h <;> subst h <;> cases hv <;> rfl
theorem hfam2 : ∀ ci, isF ci = true → ∀ (C : String) (TT : u_T) (N : Nat), vwCl[ci]? = some (C, TT, N) → (TT 2).1 = "GoodsDownhill$House" := by
  intro ci h C TT N hv
  rcases isF_c h with h | h | h | h | h | h <;> subst h <;> cases hv <;> rfl
theorem hfam3 : ∀ ci, isF ci = true → ∀ (C : String) (TT : u_T) (N : Nat), vwCl[ci]? = some (C, TT, N) → (TT 3).1 = "GoodsDownhill$House" := by
  intro ci h C TT N hv
  rcases isF_c h with h | h | h | h | h | h <;> subst h <;> cases hv <;> rfl
theorem hfam4 : ∀ ci, isF ci = true → ∀ (C : String) (TT : u_T) (N : Nat), vwCl[ci]? = some (C, TT, N) → (TT 4).1 = "GoodsDownhill$House" := by
  intro ci h C TT N hv
  rcases isF_c h with h | h | h | h | h | h <;> subst h <;> cases hv <;> rfl
theorem hfam5 : ∀ ci, isF ci = true → ∀ (C : String) (TT : u_T) (N : Nat), vwCl[ci]? = some (C, TT, N) → (TT 5).1 = "GoodsDownhill$House" := by
  intro ci h C TT N hv
  rcases isF_c h with h | h | h | h | h | h <;> subst h <;> cases hv <;> rfl
theorem fs0_13_0 : FS "GoodsDownhill$Cellared" 13 0 2 true .int := ⟨RX0, TX0, 6, "GoodsDownhill$House", rfl, by decide, w1_70, Or.inl rfl, rfl, tyX0_ok 2 (by decide)⟩
theorem fs0_13_2 : FS "GoodsDownhill$Cellared" 13 2 2 true .int := ⟨RX2, TX2, 6, "GoodsDownhill$House", rfl, by decide, w1_70, Or.inl rfl, rfl, tyX2_ok 2 (by decide)⟩
theorem fs0_13_3 : FS "GoodsDownhill$Cellared" 13 3 2 true .int := ⟨RX3, TX3, 6, "GoodsDownhill$House", rfl, by decide, w1_70, Or.inl rfl, rfl, tyX3_ok 2 (by decide)⟩
theorem fs0_13_4 : FS "GoodsDownhill$Cellared" 13 4 2 true .int := ⟨RX4, TX4, 6, "GoodsDownhill$House", rfl, by decide, w1_70, Or.inl rfl, rfl, tyX4_ok 2 (by decide)⟩
theorem fs0_13_5 : FS "GoodsDownhill$Cellared" 13 5 2 true .int := ⟨RX5, TX5, 6, "GoodsDownhill$House", rfl, by decide, w1_70, Or.inl rfl, rfl, tyX5_ok 2 (by decide)⟩
theorem fs0_13_8 : FS "GoodsDownhill$Cellared" 13 8 2 true .int := ⟨RX8, TX8, 6, "GoodsDownhill$House", rfl, by decide, w1_70, Or.inl rfl, rfl, tyX8_ok 2 (by decide)⟩
theorem fs0_16_0 : FS "GoodsDownhill$Cellared" 16 0 3 true .int := ⟨RX0, TX0, 6, "GoodsDownhill$House", rfl, by decide, w1_74, Or.inl rfl, rfl, tyX0_ok 3 (by decide)⟩
theorem fs0_16_2 : FS "GoodsDownhill$Cellared" 16 2 3 true .int := ⟨RX2, TX2, 6, "GoodsDownhill$House", rfl, by decide, w1_74, Or.inl rfl, rfl, tyX2_ok 3 (by decide)⟩
theorem fs0_16_3 : FS "GoodsDownhill$Cellared" 16 3 3 true .int := ⟨RX3, TX3, 6, "GoodsDownhill$House", rfl, by decide, w1_74, Or.inl rfl, rfl, tyX3_ok 3 (by decide)⟩
theorem fs0_16_4 : FS "GoodsDownhill$Cellared" 16 4 3 true .int := ⟨RX4, TX4, 6, "GoodsDownhill$House", rfl, by decide, w1_74, Or.inl rfl, rfl, tyX4_ok 3 (by decide)⟩
theorem fs0_16_5 : FS "GoodsDownhill$Cellared" 16 5 3 true .int := ⟨RX5, TX5, 6, "GoodsDownhill$House", rfl, by decide, w1_74, Or.inl rfl, rfl, tyX5_ok 3 (by decide)⟩
theorem fs0_16_8 : FS "GoodsDownhill$Cellared" 16 8 3 true .int := ⟨RX8, TX8, 6, "GoodsDownhill$House", rfl, by decide, w1_74, Or.inl rfl, rfl, tyX8_ok 3 (by decide)⟩
theorem fs0_19_0 : FS "GoodsDownhill$Cellared" 19 0 4 true .int := ⟨RX0, TX0, 6, "GoodsDownhill$House", rfl, by decide, w1_78, Or.inl rfl, rfl, tyX0_ok 4 (by decide)⟩
theorem fs0_19_2 : FS "GoodsDownhill$Cellared" 19 2 4 true .int := ⟨RX2, TX2, 6, "GoodsDownhill$House", rfl, by decide, w1_78, Or.inl rfl, rfl, tyX2_ok 4 (by decide)⟩
theorem fs0_19_3 : FS "GoodsDownhill$Cellared" 19 3 4 true .int := ⟨RX3, TX3, 6, "GoodsDownhill$House", rfl, by decide, w1_78, Or.inl rfl, rfl, tyX3_ok 4 (by decide)⟩
theorem fs0_19_4 : FS "GoodsDownhill$Cellared" 19 4 4 true .int := ⟨RX4, TX4, 6, "GoodsDownhill$House", rfl, by decide, w1_78, Or.inl rfl, rfl, tyX4_ok 4 (by decide)⟩
theorem fs0_19_5 : FS "GoodsDownhill$Cellared" 19 5 4 true .int := ⟨RX5, TX5, 6, "GoodsDownhill$House", rfl, by decide, w1_78, Or.inl rfl, rfl, tyX5_ok 4 (by decide)⟩
theorem fs0_19_8 : FS "GoodsDownhill$Cellared" 19 8 4 true .int := ⟨RX8, TX8, 6, "GoodsDownhill$House", rfl, by decide, w1_78, Or.inl rfl, rfl, tyX8_ok 4 (by decide)⟩
theorem fs0_22_0 : FS "GoodsDownhill$Cellared" 22 0 5 true .int := ⟨RX0, TX0, 6, "GoodsDownhill$House", rfl, by decide, w1_82, Or.inl rfl, rfl, tyX0_ok 5 (by decide)⟩
theorem fs0_22_2 : FS "GoodsDownhill$Cellared" 22 2 5 true .int := ⟨RX2, TX2, 6, "GoodsDownhill$House", rfl, by decide, w1_82, Or.inl rfl, rfl, tyX2_ok 5 (by decide)⟩
theorem fs0_22_3 : FS "GoodsDownhill$Cellared" 22 3 5 true .int := ⟨RX3, TX3, 6, "GoodsDownhill$House", rfl, by decide, w1_82, Or.inl rfl, rfl, tyX3_ok 5 (by decide)⟩
theorem fs0_22_4 : FS "GoodsDownhill$Cellared" 22 4 5 true .int := ⟨RX4, TX4, 6, "GoodsDownhill$House", rfl, by decide, w1_82, Or.inl rfl, rfl, tyX4_ok 5 (by decide)⟩
theorem fs0_22_5 : FS "GoodsDownhill$Cellared" 22 5 5 true .int := ⟨RX5, TX5, 6, "GoodsDownhill$House", rfl, by decide, w1_82, Or.inl rfl, rfl, tyX5_ok 5 (by decide)⟩
theorem fs0_22_8 : FS "GoodsDownhill$Cellared" 22 8 5 true .int := ⟨RX8, TX8, 6, "GoodsDownhill$House", rfl, by decide, w1_82, Or.inl rfl, rfl, tyX8_ok 5 (by decide)⟩
theorem fs0_26_0 : FS "GoodsDownhill$Cellared" 26 0 1 true .int := ⟨RX0, TX0, 6, "GoodsDownhill$Cellared", rfl, by decide, w1_66, Or.inr w1_67, rfl, tyX0_ok 1 (by decide)⟩
theorem fs0_26_2 : FS "GoodsDownhill$Cellared" 26 2 1 true .int := ⟨RX2, TX2, 6, "GoodsDownhill$Cellared", rfl, by decide, w1_66, Or.inr w1_67, rfl, tyX2_ok 1 (by decide)⟩
theorem fs0_26_3 : FS "GoodsDownhill$Cellared" 26 3 1 true .int := ⟨RX3, TX3, 6, "GoodsDownhill$Cellared", rfl, by decide, w1_66, Or.inr w1_67, rfl, tyX3_ok 1 (by decide)⟩
theorem fs0_26_4 : FS "GoodsDownhill$Cellared" 26 4 1 true .int := ⟨RX4, TX4, 6, "GoodsDownhill$Cellared", rfl, by decide, w1_66, Or.inr w1_67, rfl, tyX4_ok 1 (by decide)⟩
theorem fs0_26_5 : FS "GoodsDownhill$Cellared" 26 5 1 true .int := ⟨RX5, TX5, 6, "GoodsDownhill$Cellared", rfl, by decide, w1_66, Or.inr w1_67, rfl, tyX5_ok 1 (by decide)⟩
theorem fs0_26_8 : FS "GoodsDownhill$Cellared" 26 8 1 true .int := ⟨RX8, TX8, 6, "GoodsDownhill$Cellared", rfl, by decide, w1_66, Or.inr w1_67, rfl, tyX8_ok 1 (by decide)⟩
theorem fs0_27_0 : FS "GoodsDownhill$Cellared" 27 0 0 true .int := ⟨RX0, TX0, 6, "GoodsDownhill$Cellared", rfl, by decide, w1_55, Or.inr w1_56, rfl, tyX0_ok 0 (by decide)⟩
theorem fs0_27_2 : FS "GoodsDownhill$Cellared" 27 2 0 true .int := ⟨RX2, TX2, 6, "GoodsDownhill$Cellared", rfl, by decide, w1_55, Or.inr w1_56, rfl, tyX2_ok 0 (by decide)⟩
theorem fs0_27_3 : FS "GoodsDownhill$Cellared" 27 3 0 true .int := ⟨RX3, TX3, 6, "GoodsDownhill$Cellared", rfl, by decide, w1_55, Or.inr w1_56, rfl, tyX3_ok 0 (by decide)⟩
theorem fs0_27_4 : FS "GoodsDownhill$Cellared" 27 4 0 true .int := ⟨RX4, TX4, 6, "GoodsDownhill$Cellared", rfl, by decide, w1_55, Or.inr w1_56, rfl, tyX4_ok 0 (by decide)⟩
theorem fs0_27_5 : FS "GoodsDownhill$Cellared" 27 5 0 true .int := ⟨RX5, TX5, 6, "GoodsDownhill$Cellared", rfl, by decide, w1_55, Or.inr w1_56, rfl, tyX5_ok 0 (by decide)⟩
theorem fs0_27_8 : FS "GoodsDownhill$Cellared" 27 8 0 true .int := ⟨RX8, TX8, 6, "GoodsDownhill$Cellared", rfl, by decide, w1_55, Or.inr w1_56, rfl, tyX8_ok 0 (by decide)⟩
theorem fs0_9_0 : FS "GoodsDownhill$Cellared" 9 0 1 true .int := ⟨RX0, TX0, 6, "GoodsDownhill$House", rfl, by decide, w1_59, Or.inl rfl, rfl, tyX0_ok 1 (by decide)⟩
theorem fs0_9_2 : FS "GoodsDownhill$Cellared" 9 2 1 true .int := ⟨RX2, TX2, 6, "GoodsDownhill$House", rfl, by decide, w1_59, Or.inl rfl, rfl, tyX2_ok 1 (by decide)⟩
theorem fs0_9_3 : FS "GoodsDownhill$Cellared" 9 3 1 true .int := ⟨RX3, TX3, 6, "GoodsDownhill$House", rfl, by decide, w1_59, Or.inl rfl, rfl, tyX3_ok 1 (by decide)⟩
theorem fs0_9_4 : FS "GoodsDownhill$Cellared" 9 4 1 true .int := ⟨RX4, TX4, 6, "GoodsDownhill$House", rfl, by decide, w1_59, Or.inl rfl, rfl, tyX4_ok 1 (by decide)⟩
theorem fs0_9_5 : FS "GoodsDownhill$Cellared" 9 5 1 true .int := ⟨RX5, TX5, 6, "GoodsDownhill$House", rfl, by decide, w1_59, Or.inl rfl, rfl, tyX5_ok 1 (by decide)⟩
theorem fs0_9_8 : FS "GoodsDownhill$Cellared" 9 8 1 true .int := ⟨RX8, TX8, 6, "GoodsDownhill$House", rfl, by decide, w1_59, Or.inl rfl, rfl, tyX8_ok 1 (by decide)⟩
theorem fs10_15_6 : FS "GoodsDownhill$Trade" 15 6 0 true (.array (.object "GoodsDownhill$House")) := ⟨RX6, TX6, 9, "GoodsDownhill$Land", rfl, by decide, w1_100, Or.inl rfl, rfl, tyX6_ok 0 (by decide)⟩
theorem fs10_52_0 : FS "GoodsDownhill$Trade" 52 0 5 true .int := ⟨RX0, TX0, 6, "GoodsDownhill$House", rfl, by decide, w1_84, Or.inl rfl, rfl, tyX0_ok 5 (by decide)⟩
theorem fs10_52_2 : FS "GoodsDownhill$Trade" 52 2 5 true .int := ⟨RX2, TX2, 6, "GoodsDownhill$House", rfl, by decide, w1_84, Or.inl rfl, rfl, tyX2_ok 5 (by decide)⟩
theorem fs10_52_3 : FS "GoodsDownhill$Trade" 52 3 5 true .int := ⟨RX3, TX3, 6, "GoodsDownhill$House", rfl, by decide, w1_84, Or.inl rfl, rfl, tyX3_ok 5 (by decide)⟩
theorem fs10_52_4 : FS "GoodsDownhill$Trade" 52 4 5 true .int := ⟨RX4, TX4, 6, "GoodsDownhill$House", rfl, by decide, w1_84, Or.inl rfl, rfl, tyX4_ok 5 (by decide)⟩
theorem fs10_52_5 : FS "GoodsDownhill$Trade" 52 5 5 true .int := ⟨RX5, TX5, 6, "GoodsDownhill$House", rfl, by decide, w1_84, Or.inl rfl, rfl, tyX5_ok 5 (by decide)⟩
theorem fs10_52_8 : FS "GoodsDownhill$Trade" 52 8 5 true .int := ⟨RX8, TX8, 6, "GoodsDownhill$House", rfl, by decide, w1_84, Or.inl rfl, rfl, tyX8_ok 5 (by decide)⟩
theorem fs10_9_6 : FS "GoodsDownhill$Trade" 9 6 1 false .int := ⟨RX6, TX6, 9, "GoodsDownhill$Land", rfl, by decide, w1_102, Or.inl rfl, rfl, tyX6_ok 1 (by decide)⟩
theorem fs11_102_0 : FS "GoodsDownhill" 102 0 4 true .int := ⟨RX0, TX0, 6, "GoodsDownhill$House", rfl, by decide, w1_79, Or.inl rfl, rfl, tyX0_ok 4 (by decide)⟩
theorem fs11_102_2 : FS "GoodsDownhill" 102 2 4 true .int := ⟨RX2, TX2, 6, "GoodsDownhill$House", rfl, by decide, w1_79, Or.inl rfl, rfl, tyX2_ok 4 (by decide)⟩
theorem fs11_102_3 : FS "GoodsDownhill" 102 3 4 true .int := ⟨RX3, TX3, 6, "GoodsDownhill$House", rfl, by decide, w1_79, Or.inl rfl, rfl, tyX3_ok 4 (by decide)⟩
theorem fs11_102_4 : FS "GoodsDownhill" 102 4 4 true .int := ⟨RX4, TX4, 6, "GoodsDownhill$House", rfl, by decide, w1_79, Or.inl rfl, rfl, tyX4_ok 4 (by decide)⟩
theorem fs11_102_5 : FS "GoodsDownhill" 102 5 4 true .int := ⟨RX5, TX5, 6, "GoodsDownhill$House", rfl, by decide, w1_79, Or.inl rfl, rfl, tyX5_ok 4 (by decide)⟩
theorem fs11_102_8 : FS "GoodsDownhill" 102 8 4 true .int := ⟨RX8, TX8, 6, "GoodsDownhill$House", rfl, by decide, w1_79, Or.inl rfl, rfl, tyX8_ok 4 (by decide)⟩
theorem fs11_105_0 : FS "GoodsDownhill" 105 0 5 true .int := ⟨RX0, TX0, 6, "GoodsDownhill$House", rfl, by decide, w1_83, Or.inl rfl, rfl, tyX0_ok 5 (by decide)⟩
theorem fs11_105_2 : FS "GoodsDownhill" 105 2 5 true .int := ⟨RX2, TX2, 6, "GoodsDownhill$House", rfl, by decide, w1_83, Or.inl rfl, rfl, tyX2_ok 5 (by decide)⟩
theorem fs11_105_3 : FS "GoodsDownhill" 105 3 5 true .int := ⟨RX3, TX3, 6, "GoodsDownhill$House", rfl, by decide, w1_83, Or.inl rfl, rfl, tyX3_ok 5 (by decide)⟩
theorem fs11_105_4 : FS "GoodsDownhill" 105 4 5 true .int := ⟨RX4, TX4, 6, "GoodsDownhill$House", rfl, by decide, w1_83, Or.inl rfl, rfl, tyX4_ok 5 (by decide)⟩
theorem fs11_105_5 : FS "GoodsDownhill" 105 5 5 true .int := ⟨RX5, TX5, 6, "GoodsDownhill$House", rfl, by decide, w1_83, Or.inl rfl, rfl, tyX5_ok 5 (by decide)⟩
theorem fs11_105_8 : FS "GoodsDownhill" 105 8 5 true .int := ⟨RX8, TX8, 6, "GoodsDownhill$House", rfl, by decide, w1_83, Or.inl rfl, rfl, tyX8_ok 5 (by decide)⟩
theorem fs11_108_6 : FS "GoodsDownhill" 108 6 2 true (.array .int) := ⟨RX6, TX6, 9, "GoodsDownhill$Land", rfl, by decide, w1_106, Or.inl rfl, rfl, tyX6_ok 2 (by decide)⟩
theorem fs11_10_10 : FS "GoodsDownhill" 10 10 0 true (.object "GoodsDownhill$Land") := ⟨RX11, TX11, 10, "GoodsDownhill", rfl, by decide, w1_179, Or.inl rfl, rfl, tyX11_ok 0 (by decide)⟩
theorem fs11_118_6 : FS "GoodsDownhill" 118 6 4 true (.array .int) := ⟨RX6, TX6, 9, "GoodsDownhill$Land", rfl, by decide, w1_110, Or.inl rfl, rfl, tyX6_ok 4 (by decide)⟩
theorem fs11_124_6 : FS "GoodsDownhill" 124 6 6 false .int := ⟨RX6, TX6, 9, "GoodsDownhill$Land", rfl, by decide, w1_116, Or.inl rfl, rfl, tyX6_ok 6 (by decide)⟩
theorem fs11_134_6 : FS "GoodsDownhill" 134 6 1 false .int := ⟨RX6, TX6, 9, "GoodsDownhill$Land", rfl, by decide, w1_104, Or.inl rfl, rfl, tyX6_ok 1 (by decide)⟩
theorem fs11_135_6 : FS "GoodsDownhill" 135 6 7 false .int := ⟨RX6, TX6, 9, "GoodsDownhill$Land", rfl, by decide, w1_119, Or.inl rfl, rfl, tyX6_ok 7 (by decide)⟩
theorem fs11_142_6 : FS "GoodsDownhill" 142 6 3 true (.array .int) := ⟨RX6, TX6, 9, "GoodsDownhill$Land", rfl, by decide, w1_108, Or.inl rfl, rfl, tyX6_ok 3 (by decide)⟩
theorem fs11_145_6 : FS "GoodsDownhill" 145 6 5 true (.object "GoodsDownhill$Debts") := ⟨RX6, TX6, 9, "GoodsDownhill$Land", rfl, by decide, w1_113, Or.inl rfl, rfl, tyX6_ok 5 (by decide)⟩
theorem fs11_154_10 : FS "GoodsDownhill" 154 10 8 false .int := ⟨RX11, TX11, 10, "GoodsDownhill", rfl, by decide, w1_187, Or.inl rfl, rfl, tyX11_ok 8 (by decide)⟩
theorem fs11_157_6 : FS "GoodsDownhill" 157 6 8 false .int := ⟨RX6, TX6, 9, "GoodsDownhill$Land", rfl, by decide, w1_121, Or.inl rfl, rfl, tyX6_ok 8 (by decide)⟩
theorem fs11_16_10 : FS "GoodsDownhill" 16 10 1 true (.object "GoodsDownhill$Land") := ⟨RX11, TX11, 10, "GoodsDownhill", rfl, by decide, w1_180, Or.inl rfl, rfl, tyX11_ok 1 (by decide)⟩
theorem fs11_176_9 : FS "GoodsDownhill" 176 9 0 false .int := ⟨RX9, TX9, 4, "GoodsDownhill$Tally", rfl, by decide, w1_148, Or.inl rfl, rfl, tyX9_ok 0 (by decide)⟩
theorem fs11_193_9 : FS "GoodsDownhill" 193 9 2 false .int := ⟨RX9, TX9, 4, "GoodsDownhill$Tally", rfl, by decide, w1_153, Or.inl rfl, rfl, tyX9_ok 2 (by decide)⟩
theorem fs11_199_9 : FS "GoodsDownhill" 199 9 1 false .int := ⟨RX9, TX9, 4, "GoodsDownhill$Tally", rfl, by decide, w1_151, Or.inl rfl, rfl, tyX9_ok 1 (by decide)⟩
theorem fs11_19_10 : FS "GoodsDownhill" 19 10 2 true (.object "GoodsDownhill$Land") := ⟨RX11, TX11, 10, "GoodsDownhill", rfl, by decide, w1_181, Or.inl rfl, rfl, tyX11_ok 2 (by decide)⟩
theorem fs11_202_9 : FS "GoodsDownhill" 202 9 3 true (.array .int) := ⟨RX9, TX9, 4, "GoodsDownhill$Tally", rfl, by decide, w1_155, Or.inl rfl, rfl, tyX9_ok 3 (by decide)⟩
theorem fs11_240_10 : FS "GoodsDownhill" 240 10 3 false .boolean := ⟨RX11, TX11, 10, "GoodsDownhill", rfl, by decide, w1_182, Or.inl rfl, rfl, tyX11_ok 3 (by decide)⟩
theorem fs11_25_10 : FS "GoodsDownhill" 25 10 4 true (.object "GoodsDownhill$Tally") := ⟨RX11, TX11, 10, "GoodsDownhill", rfl, by decide, w1_183, Or.inl rfl, rfl, tyX11_ok 4 (by decide)⟩
theorem fs11_29_10 : FS "GoodsDownhill" 29 10 5 true (.object "GoodsDownhill$Tally") := ⟨RX11, TX11, 10, "GoodsDownhill", rfl, by decide, w1_184, Or.inl rfl, rfl, tyX11_ok 5 (by decide)⟩
theorem fs11_35_10 : FS "GoodsDownhill" 35 10 6 true (.object "GoodsDownhill$Letters") := ⟨RX11, TX11, 10, "GoodsDownhill", rfl, by decide, w1_185, Or.inl rfl, rfl, tyX11_ok 6 (by decide)⟩
theorem fs11_39_10 : FS "GoodsDownhill" 39 10 7 true (.array .int) := ⟨RX11, TX11, 10, "GoodsDownhill", rfl, by decide, w1_186, Or.inl rfl, rfl, tyX11_ok 7 (by decide)⟩
theorem fs11_43_10 : FS "GoodsDownhill" 43 10 9 true (.array .int) := ⟨RX11, TX11, 10, "GoodsDownhill", rfl, by decide, w1_188, Or.inl rfl, rfl, tyX11_ok 9 (by decide)⟩
theorem fs11_58_7 : FS "GoodsDownhill" 58 7 1 false .int := ⟨RX7, TX7, 2, "GoodsDownhill$Letters", rfl, by decide, w1_173, Or.inl rfl, rfl, tyX7_ok 1 (by decide)⟩
theorem fs11_74_6 : FS "GoodsDownhill" 74 6 0 true (.array (.object "GoodsDownhill$House")) := ⟨RX6, TX6, 9, "GoodsDownhill$Land", rfl, by decide, w1_101, Or.inl rfl, rfl, tyX6_ok 0 (by decide)⟩
theorem fs11_84_0 : FS "GoodsDownhill" 84 0 0 true .int := ⟨RX0, TX0, 6, "GoodsDownhill$House", rfl, by decide, w1_57, Or.inl rfl, rfl, tyX0_ok 0 (by decide)⟩
theorem fs11_84_2 : FS "GoodsDownhill" 84 2 0 true .int := ⟨RX2, TX2, 6, "GoodsDownhill$House", rfl, by decide, w1_57, Or.inl rfl, rfl, tyX2_ok 0 (by decide)⟩
theorem fs11_84_3 : FS "GoodsDownhill" 84 3 0 true .int := ⟨RX3, TX3, 6, "GoodsDownhill$House", rfl, by decide, w1_57, Or.inl rfl, rfl, tyX3_ok 0 (by decide)⟩
theorem fs11_84_4 : FS "GoodsDownhill" 84 4 0 true .int := ⟨RX4, TX4, 6, "GoodsDownhill$House", rfl, by decide, w1_57, Or.inl rfl, rfl, tyX4_ok 0 (by decide)⟩
theorem fs11_84_5 : FS "GoodsDownhill" 84 5 0 true .int := ⟨RX5, TX5, 6, "GoodsDownhill$House", rfl, by decide, w1_57, Or.inl rfl, rfl, tyX5_ok 0 (by decide)⟩
theorem fs11_84_8 : FS "GoodsDownhill" 84 8 0 true .int := ⟨RX8, TX8, 6, "GoodsDownhill$House", rfl, by decide, w1_57, Or.inl rfl, rfl, tyX8_ok 0 (by decide)⟩
theorem fs11_87_0 : FS "GoodsDownhill" 87 0 1 true .int := ⟨RX0, TX0, 6, "GoodsDownhill$House", rfl, by decide, w1_68, Or.inl rfl, rfl, tyX0_ok 1 (by decide)⟩
theorem fs11_87_2 : FS "GoodsDownhill" 87 2 1 true .int := ⟨RX2, TX2, 6, "GoodsDownhill$House", rfl, by decide, w1_68, Or.inl rfl, rfl, tyX2_ok 1 (by decide)⟩
theorem fs11_87_3 : FS "GoodsDownhill" 87 3 1 true .int := ⟨RX3, TX3, 6, "GoodsDownhill$House", rfl, by decide, w1_68, Or.inl rfl, rfl, tyX3_ok 1 (by decide)⟩
theorem fs11_87_4 : FS "GoodsDownhill" 87 4 1 true .int := ⟨RX4, TX4, 6, "GoodsDownhill$House", rfl, by decide, w1_68, Or.inl rfl, rfl, tyX4_ok 1 (by decide)⟩
theorem fs11_87_5 : FS "GoodsDownhill" 87 5 1 true .int := ⟨RX5, TX5, 6, "GoodsDownhill$House", rfl, by decide, w1_68, Or.inl rfl, rfl, tyX5_ok 1 (by decide)⟩
theorem fs11_87_8 : FS "GoodsDownhill" 87 8 1 true .int := ⟨RX8, TX8, 6, "GoodsDownhill$House", rfl, by decide, w1_68, Or.inl rfl, rfl, tyX8_ok 1 (by decide)⟩
theorem fs11_96_0 : FS "GoodsDownhill" 96 0 2 true .int := ⟨RX0, TX0, 6, "GoodsDownhill$House", rfl, by decide, w1_71, Or.inl rfl, rfl, tyX0_ok 2 (by decide)⟩
theorem fs11_96_2 : FS "GoodsDownhill" 96 2 2 true .int := ⟨RX2, TX2, 6, "GoodsDownhill$House", rfl, by decide, w1_71, Or.inl rfl, rfl, tyX2_ok 2 (by decide)⟩
theorem fs11_96_3 : FS "GoodsDownhill" 96 3 2 true .int := ⟨RX3, TX3, 6, "GoodsDownhill$House", rfl, by decide, w1_71, Or.inl rfl, rfl, tyX3_ok 2 (by decide)⟩
theorem fs11_96_4 : FS "GoodsDownhill" 96 4 2 true .int := ⟨RX4, TX4, 6, "GoodsDownhill$House", rfl, by decide, w1_71, Or.inl rfl, rfl, tyX4_ok 2 (by decide)⟩
theorem fs11_96_5 : FS "GoodsDownhill" 96 5 2 true .int := ⟨RX5, TX5, 6, "GoodsDownhill$House", rfl, by decide, w1_71, Or.inl rfl, rfl, tyX5_ok 2 (by decide)⟩
theorem fs11_96_8 : FS "GoodsDownhill" 96 8 2 true .int := ⟨RX8, TX8, 6, "GoodsDownhill$House", rfl, by decide, w1_71, Or.inl rfl, rfl, tyX8_ok 2 (by decide)⟩
theorem fs11_99_0 : FS "GoodsDownhill" 99 0 3 true .int := ⟨RX0, TX0, 6, "GoodsDownhill$House", rfl, by decide, w1_75, Or.inl rfl, rfl, tyX0_ok 3 (by decide)⟩
theorem fs11_99_2 : FS "GoodsDownhill" 99 2 3 true .int := ⟨RX2, TX2, 6, "GoodsDownhill$House", rfl, by decide, w1_75, Or.inl rfl, rfl, tyX2_ok 3 (by decide)⟩
theorem fs11_99_3 : FS "GoodsDownhill" 99 3 3 true .int := ⟨RX3, TX3, 6, "GoodsDownhill$House", rfl, by decide, w1_75, Or.inl rfl, rfl, tyX3_ok 3 (by decide)⟩
theorem fs11_99_4 : FS "GoodsDownhill" 99 4 3 true .int := ⟨RX4, TX4, 6, "GoodsDownhill$House", rfl, by decide, w1_75, Or.inl rfl, rfl, tyX4_ok 3 (by decide)⟩
theorem fs11_99_5 : FS "GoodsDownhill" 99 5 3 true .int := ⟨RX5, TX5, 6, "GoodsDownhill$House", rfl, by decide, w1_75, Or.inl rfl, rfl, tyX5_ok 3 (by decide)⟩
theorem fs11_99_8 : FS "GoodsDownhill" 99 8 3 true .int := ⟨RX8, TX8, 6, "GoodsDownhill$House", rfl, by decide, w1_75, Or.inl rfl, rfl, tyX8_ok 3 (by decide)⟩
theorem fs12_115_11 : FS "GoodsDownhillModel" 115 11 17 false .int := ⟨RX12, TX12, 38, "GoodsDownhillModel", rfl, by decide, w4_5, Or.inl rfl, rfl, tyX12_ok 17 (by decide)⟩
theorem fs12_122_11 : FS "GoodsDownhillModel" 122 11 2 false .int := ⟨RX12, TX12, 38, "GoodsDownhillModel", rfl, by decide, w3_230, Or.inl rfl, rfl, tyX12_ok 2 (by decide)⟩
theorem fs12_133_11 : FS "GoodsDownhillModel" 133 11 19 false .int := ⟨RX12, TX12, 38, "GoodsDownhillModel", rfl, by decide, w4_7, Or.inl rfl, rfl, tyX12_ok 19 (by decide)⟩
theorem fs12_13_11 : FS "GoodsDownhillModel" 13 11 5 true (.array .int) := ⟨RX12, TX12, 38, "GoodsDownhillModel", rfl, by decide, w3_233, Or.inl rfl, rfl, tyX12_ok 5 (by decide)⟩
theorem fs12_140_11 : FS "GoodsDownhillModel" 140 11 24 false .boolean := ⟨RX12, TX12, 38, "GoodsDownhillModel", rfl, by decide, w4_12, Or.inl rfl, rfl, tyX12_ok 24 (by decide)⟩
theorem fs12_144_11 : FS "GoodsDownhillModel" 144 11 25 false (.array .int) := ⟨RX12, TX12, 38, "GoodsDownhillModel", rfl, by decide, w4_13, Or.inl rfl, rfl, tyX12_ok 25 (by decide)⟩
theorem fs12_147_11 : FS "GoodsDownhillModel" 147 11 23 false .int := ⟨RX12, TX12, 38, "GoodsDownhillModel", rfl, by decide, w4_11, Or.inl rfl, rfl, tyX12_ok 23 (by decide)⟩
theorem fs12_153_11 : FS "GoodsDownhillModel" 153 11 3 false .int := ⟨RX12, TX12, 38, "GoodsDownhillModel", rfl, by decide, w3_231, Or.inl rfl, rfl, tyX12_ok 3 (by decide)⟩
theorem fs12_160_11 : FS "GoodsDownhillModel" 160 11 22 false .boolean := ⟨RX12, TX12, 38, "GoodsDownhillModel", rfl, by decide, w4_10, Or.inl rfl, rfl, tyX12_ok 22 (by decide)⟩
theorem fs12_166_11 : FS "GoodsDownhillModel" 166 11 27 false .int := ⟨RX12, TX12, 38, "GoodsDownhillModel", rfl, by decide, w4_15, Or.inl rfl, rfl, tyX12_ok 27 (by decide)⟩
theorem fs12_169_11 : FS "GoodsDownhillModel" 169 11 28 false .int := ⟨RX12, TX12, 38, "GoodsDownhillModel", rfl, by decide, w4_16, Or.inl rfl, rfl, tyX12_ok 28 (by decide)⟩
theorem fs12_16_11 : FS "GoodsDownhillModel" 16 11 6 true (.array .int) := ⟨RX12, TX12, 38, "GoodsDownhillModel", rfl, by decide, w3_234, Or.inl rfl, rfl, tyX12_ok 6 (by decide)⟩
theorem fs12_172_11 : FS "GoodsDownhillModel" 172 11 29 false .boolean := ⟨RX12, TX12, 38, "GoodsDownhillModel", rfl, by decide, w4_17, Or.inl rfl, rfl, tyX12_ok 29 (by decide)⟩
theorem fs12_186_11 : FS "GoodsDownhillModel" 186 11 30 false .int := ⟨RX12, TX12, 38, "GoodsDownhillModel", rfl, by decide, w4_18, Or.inl rfl, rfl, tyX12_ok 30 (by decide)⟩
theorem fs12_19_11 : FS "GoodsDownhillModel" 19 11 7 true (.array .int) := ⟨RX12, TX12, 38, "GoodsDownhillModel", rfl, by decide, w3_235, Or.inl rfl, rfl, tyX12_ok 7 (by decide)⟩
theorem fs12_22_11 : FS "GoodsDownhillModel" 22 11 8 true (.array .int) := ⟨RX12, TX12, 38, "GoodsDownhillModel", rfl, by decide, w3_236, Or.inl rfl, rfl, tyX12_ok 8 (by decide)⟩
theorem fs12_233_11 : FS "GoodsDownhillModel" 233 11 36 false .int := ⟨RX12, TX12, 38, "GoodsDownhillModel", rfl, by decide, w4_24, Or.inl rfl, rfl, tyX12_ok 36 (by decide)⟩
theorem fs12_239_11 : FS "GoodsDownhillModel" 239 11 37 false .int := ⟨RX12, TX12, 38, "GoodsDownhillModel", rfl, by decide, w4_25, Or.inl rfl, rfl, tyX12_ok 37 (by decide)⟩
theorem fs12_25_11 : FS "GoodsDownhillModel" 25 11 9 true (.array .int) := ⟨RX12, TX12, 38, "GoodsDownhillModel", rfl, by decide, w3_237, Or.inl rfl, rfl, tyX12_ok 9 (by decide)⟩
theorem fs12_28_11 : FS "GoodsDownhillModel" 28 11 10 true (.array .int) := ⟨RX12, TX12, 38, "GoodsDownhillModel", rfl, by decide, w3_238, Or.inl rfl, rfl, tyX12_ok 10 (by decide)⟩
theorem fs12_31_11 : FS "GoodsDownhillModel" 31 11 11 true (.array .int) := ⟨RX12, TX12, 38, "GoodsDownhillModel", rfl, by decide, w3_239, Or.inl rfl, rfl, tyX12_ok 11 (by decide)⟩
theorem fs12_34_11 : FS "GoodsDownhillModel" 34 11 12 true (.array .int) := ⟨RX12, TX12, 38, "GoodsDownhillModel", rfl, by decide, w4_0, Or.inl rfl, rfl, tyX12_ok 12 (by decide)⟩
theorem fs12_37_11 : FS "GoodsDownhillModel" 37 11 13 true (.array .int) := ⟨RX12, TX12, 38, "GoodsDownhillModel", rfl, by decide, w4_1, Or.inl rfl, rfl, tyX12_ok 13 (by decide)⟩
theorem fs12_40_11 : FS "GoodsDownhillModel" 40 11 14 true (.array .int) := ⟨RX12, TX12, 38, "GoodsDownhillModel", rfl, by decide, w4_2, Or.inl rfl, rfl, tyX12_ok 14 (by decide)⟩
theorem fs12_43_11 : FS "GoodsDownhillModel" 43 11 16 true (.array .int) := ⟨RX12, TX12, 38, "GoodsDownhillModel", rfl, by decide, w4_4, Or.inl rfl, rfl, tyX12_ok 16 (by decide)⟩
theorem fs12_46_11 : FS "GoodsDownhillModel" 46 11 18 true (.array .int) := ⟨RX12, TX12, 38, "GoodsDownhillModel", rfl, by decide, w4_6, Or.inl rfl, rfl, tyX12_ok 18 (by decide)⟩
theorem fs12_49_11 : FS "GoodsDownhillModel" 49 11 20 true (.array .int) := ⟨RX12, TX12, 38, "GoodsDownhillModel", rfl, by decide, w4_8, Or.inl rfl, rfl, tyX12_ok 20 (by decide)⟩
theorem fs12_52_11 : FS "GoodsDownhillModel" 52 11 21 true (.array .int) := ⟨RX12, TX12, 38, "GoodsDownhillModel", rfl, by decide, w4_9, Or.inl rfl, rfl, tyX12_ok 21 (by decide)⟩
theorem fs12_55_11 : FS "GoodsDownhillModel" 55 11 26 true (.array .int) := ⟨RX12, TX12, 38, "GoodsDownhillModel", rfl, by decide, w4_14, Or.inl rfl, rfl, tyX12_ok 26 (by decide)⟩
theorem fs12_58_11 : FS "GoodsDownhillModel" 58 11 31 true (.array .int) := ⟨RX12, TX12, 38, "GoodsDownhillModel", rfl, by decide, w4_19, Or.inl rfl, rfl, tyX12_ok 31 (by decide)⟩
theorem fs12_61_11 : FS "GoodsDownhillModel" 61 11 32 true (.array .int) := ⟨RX12, TX12, 38, "GoodsDownhillModel", rfl, by decide, w4_20, Or.inl rfl, rfl, tyX12_ok 32 (by decide)⟩
theorem fs12_64_11 : FS "GoodsDownhillModel" 64 11 33 true (.array .int) := ⟨RX12, TX12, 38, "GoodsDownhillModel", rfl, by decide, w4_21, Or.inl rfl, rfl, tyX12_ok 33 (by decide)⟩
theorem fs12_67_11 : FS "GoodsDownhillModel" 67 11 34 true (.array .int) := ⟨RX12, TX12, 38, "GoodsDownhillModel", rfl, by decide, w4_22, Or.inl rfl, rfl, tyX12_ok 34 (by decide)⟩
theorem fs12_70_11 : FS "GoodsDownhillModel" 70 11 35 true (.array .int) := ⟨RX12, TX12, 38, "GoodsDownhillModel", rfl, by decide, w4_23, Or.inl rfl, rfl, tyX12_ok 35 (by decide)⟩
theorem fs12_73_11 : FS "GoodsDownhillModel" 73 11 15 false .int := ⟨RX12, TX12, 38, "GoodsDownhillModel", rfl, by decide, w4_3, Or.inl rfl, rfl, tyX12_ok 15 (by decide)⟩
theorem fs12_77_11 : FS "GoodsDownhillModel" 77 11 0 false .int := ⟨RX12, TX12, 38, "GoodsDownhillModel", rfl, by decide, w3_228, Or.inl rfl, rfl, tyX12_ok 0 (by decide)⟩
theorem fs12_7_11 : FS "GoodsDownhillModel" 7 11 4 true (.array .int) := ⟨RX12, TX12, 38, "GoodsDownhillModel", rfl, by decide, w3_232, Or.inl rfl, rfl, tyX12_ok 4 (by decide)⟩
theorem fs12_97_11 : FS "GoodsDownhillModel" 97 11 1 false .int := ⟨RX12, TX12, 38, "GoodsDownhillModel", rfl, by decide, w3_229, Or.inl rfl, rfl, tyX12_ok 1 (by decide)⟩
theorem fs1_9_1 : FS "GoodsDownhill$Debts" 9 1 0 true (.array .int) := ⟨RX1, TX1, 1, "GoodsDownhill$Debts", rfl, by decide, w1_38, Or.inl rfl, rfl, tyX1_ok 0 (by decide)⟩
theorem fs2_13_0 : FS "GoodsDownhill$Feigned" 13 0 0 true .int := ⟨RX0, TX0, 6, "GoodsDownhill$Feigned", rfl, by decide, w1_53, Or.inr w1_54, rfl, tyX0_ok 0 (by decide)⟩
theorem fs2_13_2 : FS "GoodsDownhill$Feigned" 13 2 0 true .int := ⟨RX2, TX2, 6, "GoodsDownhill$Feigned", rfl, by decide, w1_53, Or.inr w1_54, rfl, tyX2_ok 0 (by decide)⟩
theorem fs2_13_3 : FS "GoodsDownhill$Feigned" 13 3 0 true .int := ⟨RX3, TX3, 6, "GoodsDownhill$Feigned", rfl, by decide, w1_53, Or.inr w1_54, rfl, tyX3_ok 0 (by decide)⟩
theorem fs2_13_4 : FS "GoodsDownhill$Feigned" 13 4 0 true .int := ⟨RX4, TX4, 6, "GoodsDownhill$Feigned", rfl, by decide, w1_53, Or.inr w1_54, rfl, tyX4_ok 0 (by decide)⟩
theorem fs2_13_5 : FS "GoodsDownhill$Feigned" 13 5 0 true .int := ⟨RX5, TX5, 6, "GoodsDownhill$Feigned", rfl, by decide, w1_53, Or.inr w1_54, rfl, tyX5_ok 0 (by decide)⟩
theorem fs2_13_8 : FS "GoodsDownhill$Feigned" 13 8 0 true .int := ⟨RX8, TX8, 6, "GoodsDownhill$Feigned", rfl, by decide, w1_53, Or.inr w1_54, rfl, tyX8_ok 0 (by decide)⟩
theorem fs2_7_0 : FS "GoodsDownhill$Feigned" 7 0 1 true .int := ⟨RX0, TX0, 6, "GoodsDownhill$Feigned", rfl, by decide, w1_64, Or.inr w1_65, rfl, tyX0_ok 1 (by decide)⟩
theorem fs2_7_2 : FS "GoodsDownhill$Feigned" 7 2 1 true .int := ⟨RX2, TX2, 6, "GoodsDownhill$Feigned", rfl, by decide, w1_64, Or.inr w1_65, rfl, tyX2_ok 1 (by decide)⟩
theorem fs2_7_3 : FS "GoodsDownhill$Feigned" 7 3 1 true .int := ⟨RX3, TX3, 6, "GoodsDownhill$Feigned", rfl, by decide, w1_64, Or.inr w1_65, rfl, tyX3_ok 1 (by decide)⟩
theorem fs2_7_4 : FS "GoodsDownhill$Feigned" 7 4 1 true .int := ⟨RX4, TX4, 6, "GoodsDownhill$Feigned", rfl, by decide, w1_64, Or.inr w1_65, rfl, tyX4_ok 1 (by decide)⟩
theorem fs2_7_5 : FS "GoodsDownhill$Feigned" 7 5 1 true .int := ⟨RX5, TX5, 6, "GoodsDownhill$Feigned", rfl, by decide, w1_64, Or.inr w1_65, rfl, tyX5_ok 1 (by decide)⟩
theorem fs2_7_8 : FS "GoodsDownhill$Feigned" 7 8 1 true .int := ⟨RX8, TX8, 6, "GoodsDownhill$Feigned", rfl, by decide, w1_64, Or.inr w1_65, rfl, tyX8_ok 1 (by decide)⟩
theorem fs4_13_0 : FS "GoodsDownhill$House" 13 0 1 true .int := ⟨RX0, TX0, 6, "GoodsDownhill$House", rfl, by decide, w1_58, Or.inl rfl, rfl, tyX0_ok 1 (by decide)⟩
theorem fs4_13_2 : FS "GoodsDownhill$House" 13 2 1 true .int := ⟨RX2, TX2, 6, "GoodsDownhill$House", rfl, by decide, w1_58, Or.inl rfl, rfl, tyX2_ok 1 (by decide)⟩
theorem fs4_13_3 : FS "GoodsDownhill$House" 13 3 1 true .int := ⟨RX3, TX3, 6, "GoodsDownhill$House", rfl, by decide, w1_58, Or.inl rfl, rfl, tyX3_ok 1 (by decide)⟩
theorem fs4_13_4 : FS "GoodsDownhill$House" 13 4 1 true .int := ⟨RX4, TX4, 6, "GoodsDownhill$House", rfl, by decide, w1_58, Or.inl rfl, rfl, tyX4_ok 1 (by decide)⟩
theorem fs4_13_5 : FS "GoodsDownhill$House" 13 5 1 true .int := ⟨RX5, TX5, 6, "GoodsDownhill$House", rfl, by decide, w1_58, Or.inl rfl, rfl, tyX5_ok 1 (by decide)⟩
theorem fs4_13_8 : FS "GoodsDownhill$House" 13 8 1 true .int := ⟨RX8, TX8, 6, "GoodsDownhill$House", rfl, by decide, w1_58, Or.inl rfl, rfl, tyX8_ok 1 (by decide)⟩
theorem fs4_16_0 : FS "GoodsDownhill$House" 16 0 2 true .int := ⟨RX0, TX0, 6, "GoodsDownhill$House", rfl, by decide, w1_69, Or.inl rfl, rfl, tyX0_ok 2 (by decide)⟩
theorem fs4_16_2 : FS "GoodsDownhill$House" 16 2 2 true .int := ⟨RX2, TX2, 6, "GoodsDownhill$House", rfl, by decide, w1_69, Or.inl rfl, rfl, tyX2_ok 2 (by decide)⟩
theorem fs4_16_3 : FS "GoodsDownhill$House" 16 3 2 true .int := ⟨RX3, TX3, 6, "GoodsDownhill$House", rfl, by decide, w1_69, Or.inl rfl, rfl, tyX3_ok 2 (by decide)⟩
theorem fs4_16_4 : FS "GoodsDownhill$House" 16 4 2 true .int := ⟨RX4, TX4, 6, "GoodsDownhill$House", rfl, by decide, w1_69, Or.inl rfl, rfl, tyX4_ok 2 (by decide)⟩
theorem fs4_16_5 : FS "GoodsDownhill$House" 16 5 2 true .int := ⟨RX5, TX5, 6, "GoodsDownhill$House", rfl, by decide, w1_69, Or.inl rfl, rfl, tyX5_ok 2 (by decide)⟩
theorem fs4_16_8 : FS "GoodsDownhill$House" 16 8 2 true .int := ⟨RX8, TX8, 6, "GoodsDownhill$House", rfl, by decide, w1_69, Or.inl rfl, rfl, tyX8_ok 2 (by decide)⟩
theorem fs4_19_0 : FS "GoodsDownhill$House" 19 0 3 true .int := ⟨RX0, TX0, 6, "GoodsDownhill$House", rfl, by decide, w1_73, Or.inl rfl, rfl, tyX0_ok 3 (by decide)⟩
theorem fs4_19_2 : FS "GoodsDownhill$House" 19 2 3 true .int := ⟨RX2, TX2, 6, "GoodsDownhill$House", rfl, by decide, w1_73, Or.inl rfl, rfl, tyX2_ok 3 (by decide)⟩
theorem fs4_19_3 : FS "GoodsDownhill$House" 19 3 3 true .int := ⟨RX3, TX3, 6, "GoodsDownhill$House", rfl, by decide, w1_73, Or.inl rfl, rfl, tyX3_ok 3 (by decide)⟩
theorem fs4_19_4 : FS "GoodsDownhill$House" 19 4 3 true .int := ⟨RX4, TX4, 6, "GoodsDownhill$House", rfl, by decide, w1_73, Or.inl rfl, rfl, tyX4_ok 3 (by decide)⟩
theorem fs4_19_5 : FS "GoodsDownhill$House" 19 5 3 true .int := ⟨RX5, TX5, 6, "GoodsDownhill$House", rfl, by decide, w1_73, Or.inl rfl, rfl, tyX5_ok 3 (by decide)⟩
theorem fs4_19_8 : FS "GoodsDownhill$House" 19 8 3 true .int := ⟨RX8, TX8, 6, "GoodsDownhill$House", rfl, by decide, w1_73, Or.inl rfl, rfl, tyX8_ok 3 (by decide)⟩
theorem fs4_22_0 : FS "GoodsDownhill$House" 22 0 4 true .int := ⟨RX0, TX0, 6, "GoodsDownhill$House", rfl, by decide, w1_77, Or.inl rfl, rfl, tyX0_ok 4 (by decide)⟩
theorem fs4_22_2 : FS "GoodsDownhill$House" 22 2 4 true .int := ⟨RX2, TX2, 6, "GoodsDownhill$House", rfl, by decide, w1_77, Or.inl rfl, rfl, tyX2_ok 4 (by decide)⟩
theorem fs4_22_3 : FS "GoodsDownhill$House" 22 3 4 true .int := ⟨RX3, TX3, 6, "GoodsDownhill$House", rfl, by decide, w1_77, Or.inl rfl, rfl, tyX3_ok 4 (by decide)⟩
theorem fs4_22_4 : FS "GoodsDownhill$House" 22 4 4 true .int := ⟨RX4, TX4, 6, "GoodsDownhill$House", rfl, by decide, w1_77, Or.inl rfl, rfl, tyX4_ok 4 (by decide)⟩
theorem fs4_22_5 : FS "GoodsDownhill$House" 22 5 4 true .int := ⟨RX5, TX5, 6, "GoodsDownhill$House", rfl, by decide, w1_77, Or.inl rfl, rfl, tyX5_ok 4 (by decide)⟩
theorem fs4_22_8 : FS "GoodsDownhill$House" 22 8 4 true .int := ⟨RX8, TX8, 6, "GoodsDownhill$House", rfl, by decide, w1_77, Or.inl rfl, rfl, tyX8_ok 4 (by decide)⟩
theorem fs4_25_0 : FS "GoodsDownhill$House" 25 0 5 true .int := ⟨RX0, TX0, 6, "GoodsDownhill$House", rfl, by decide, w1_81, Or.inl rfl, rfl, tyX0_ok 5 (by decide)⟩
theorem fs4_25_2 : FS "GoodsDownhill$House" 25 2 5 true .int := ⟨RX2, TX2, 6, "GoodsDownhill$House", rfl, by decide, w1_81, Or.inl rfl, rfl, tyX2_ok 5 (by decide)⟩
theorem fs4_25_3 : FS "GoodsDownhill$House" 25 3 5 true .int := ⟨RX3, TX3, 6, "GoodsDownhill$House", rfl, by decide, w1_81, Or.inl rfl, rfl, tyX3_ok 5 (by decide)⟩
theorem fs4_25_4 : FS "GoodsDownhill$House" 25 4 5 true .int := ⟨RX4, TX4, 6, "GoodsDownhill$House", rfl, by decide, w1_81, Or.inl rfl, rfl, tyX4_ok 5 (by decide)⟩
theorem fs4_25_5 : FS "GoodsDownhill$House" 25 5 5 true .int := ⟨RX5, TX5, 6, "GoodsDownhill$House", rfl, by decide, w1_81, Or.inl rfl, rfl, tyX5_ok 5 (by decide)⟩
theorem fs4_25_8 : FS "GoodsDownhill$House" 25 8 5 true .int := ⟨RX8, TX8, 6, "GoodsDownhill$House", rfl, by decide, w1_81, Or.inl rfl, rfl, tyX8_ok 5 (by decide)⟩
theorem fs4_7_0 : FS "GoodsDownhill$House" 7 0 0 true .int := ⟨RX0, TX0, 6, "GoodsDownhill$House", rfl, by decide, w1_48, Or.inl rfl, rfl, tyX0_ok 0 (by decide)⟩
theorem fs4_7_2 : FS "GoodsDownhill$House" 7 2 0 true .int := ⟨RX2, TX2, 6, "GoodsDownhill$House", rfl, by decide, w1_48, Or.inl rfl, rfl, tyX2_ok 0 (by decide)⟩
theorem fs4_7_3 : FS "GoodsDownhill$House" 7 3 0 true .int := ⟨RX3, TX3, 6, "GoodsDownhill$House", rfl, by decide, w1_48, Or.inl rfl, rfl, tyX3_ok 0 (by decide)⟩
theorem fs4_7_4 : FS "GoodsDownhill$House" 7 4 0 true .int := ⟨RX4, TX4, 6, "GoodsDownhill$House", rfl, by decide, w1_48, Or.inl rfl, rfl, tyX4_ok 0 (by decide)⟩
theorem fs4_7_5 : FS "GoodsDownhill$House" 7 5 0 true .int := ⟨RX5, TX5, 6, "GoodsDownhill$House", rfl, by decide, w1_48, Or.inl rfl, rfl, tyX5_ok 0 (by decide)⟩
theorem fs4_7_8 : FS "GoodsDownhill$House" 7 8 0 true .int := ⟨RX8, TX8, 6, "GoodsDownhill$House", rfl, by decide, w1_48, Or.inl rfl, rfl, tyX8_ok 0 (by decide)⟩
theorem fs5_13_0 : FS "GoodsDownhill$Joined" 13 0 0 true .int := ⟨RX0, TX0, 6, "GoodsDownhill$Joined", rfl, by decide, w1_51, Or.inr w1_52, rfl, tyX0_ok 0 (by decide)⟩
theorem fs5_13_2 : FS "GoodsDownhill$Joined" 13 2 0 true .int := ⟨RX2, TX2, 6, "GoodsDownhill$Joined", rfl, by decide, w1_51, Or.inr w1_52, rfl, tyX2_ok 0 (by decide)⟩
theorem fs5_13_3 : FS "GoodsDownhill$Joined" 13 3 0 true .int := ⟨RX3, TX3, 6, "GoodsDownhill$Joined", rfl, by decide, w1_51, Or.inr w1_52, rfl, tyX3_ok 0 (by decide)⟩
theorem fs5_13_4 : FS "GoodsDownhill$Joined" 13 4 0 true .int := ⟨RX4, TX4, 6, "GoodsDownhill$Joined", rfl, by decide, w1_51, Or.inr w1_52, rfl, tyX4_ok 0 (by decide)⟩
theorem fs5_13_5 : FS "GoodsDownhill$Joined" 13 5 0 true .int := ⟨RX5, TX5, 6, "GoodsDownhill$Joined", rfl, by decide, w1_51, Or.inr w1_52, rfl, tyX5_ok 0 (by decide)⟩
theorem fs5_13_8 : FS "GoodsDownhill$Joined" 13 8 0 true .int := ⟨RX8, TX8, 6, "GoodsDownhill$Joined", rfl, by decide, w1_51, Or.inr w1_52, rfl, tyX8_ok 0 (by decide)⟩
theorem fs5_7_0 : FS "GoodsDownhill$Joined" 7 0 1 true .int := ⟨RX0, TX0, 6, "GoodsDownhill$Joined", rfl, by decide, w1_62, Or.inr w1_63, rfl, tyX0_ok 1 (by decide)⟩
theorem fs5_7_2 : FS "GoodsDownhill$Joined" 7 2 1 true .int := ⟨RX2, TX2, 6, "GoodsDownhill$Joined", rfl, by decide, w1_62, Or.inr w1_63, rfl, tyX2_ok 1 (by decide)⟩
theorem fs5_7_3 : FS "GoodsDownhill$Joined" 7 3 1 true .int := ⟨RX3, TX3, 6, "GoodsDownhill$Joined", rfl, by decide, w1_62, Or.inr w1_63, rfl, tyX3_ok 1 (by decide)⟩
theorem fs5_7_4 : FS "GoodsDownhill$Joined" 7 4 1 true .int := ⟨RX4, TX4, 6, "GoodsDownhill$Joined", rfl, by decide, w1_62, Or.inr w1_63, rfl, tyX4_ok 1 (by decide)⟩
theorem fs5_7_5 : FS "GoodsDownhill$Joined" 7 5 1 true .int := ⟨RX5, TX5, 6, "GoodsDownhill$Joined", rfl, by decide, w1_62, Or.inr w1_63, rfl, tyX5_ok 1 (by decide)⟩
theorem fs5_7_8 : FS "GoodsDownhill$Joined" 7 8 1 true .int := ⟨RX8, TX8, 6, "GoodsDownhill$Joined", rfl, by decide, w1_62, Or.inr w1_63, rfl, tyX8_ok 1 (by decide)⟩
theorem fs6_105_9 : FS "GoodsDownhill$Land" 105 9 1 false .int := ⟨RX9, TX9, 4, "GoodsDownhill$Tally", rfl, by decide, w1_150, Or.inl rfl, rfl, tyX9_ok 1 (by decide)⟩
theorem fs6_115_0 : FS "GoodsDownhill$Land" 115 0 5 true .int := ⟨RX0, TX0, 6, "GoodsDownhill$House", rfl, by decide, w1_85, Or.inl rfl, rfl, tyX0_ok 5 (by decide)⟩
theorem fs6_115_2 : FS "GoodsDownhill$Land" 115 2 5 true .int := ⟨RX2, TX2, 6, "GoodsDownhill$House", rfl, by decide, w1_85, Or.inl rfl, rfl, tyX2_ok 5 (by decide)⟩
theorem fs6_115_3 : FS "GoodsDownhill$Land" 115 3 5 true .int := ⟨RX3, TX3, 6, "GoodsDownhill$House", rfl, by decide, w1_85, Or.inl rfl, rfl, tyX3_ok 5 (by decide)⟩
theorem fs6_115_4 : FS "GoodsDownhill$Land" 115 4 5 true .int := ⟨RX4, TX4, 6, "GoodsDownhill$House", rfl, by decide, w1_85, Or.inl rfl, rfl, tyX4_ok 5 (by decide)⟩
theorem fs6_115_5 : FS "GoodsDownhill$Land" 115 5 5 true .int := ⟨RX5, TX5, 6, "GoodsDownhill$House", rfl, by decide, w1_85, Or.inl rfl, rfl, tyX5_ok 5 (by decide)⟩
theorem fs6_115_8 : FS "GoodsDownhill$Land" 115 8 5 true .int := ⟨RX8, TX8, 6, "GoodsDownhill$House", rfl, by decide, w1_85, Or.inl rfl, rfl, tyX8_ok 5 (by decide)⟩
theorem fs6_11_6 : FS "GoodsDownhill$Land" 11 6 0 true (.array (.object "GoodsDownhill$House")) := ⟨RX6, TX6, 9, "GoodsDownhill$Land", rfl, by decide, w1_99, Or.inl rfl, rfl, tyX6_ok 0 (by decide)⟩
theorem fs6_121_0 : FS "GoodsDownhill$Land" 121 0 2 true .int := ⟨RX0, TX0, 6, "GoodsDownhill$House", rfl, by decide, w1_72, Or.inl rfl, rfl, tyX0_ok 2 (by decide)⟩
theorem fs6_121_2 : FS "GoodsDownhill$Land" 121 2 2 true .int := ⟨RX2, TX2, 6, "GoodsDownhill$House", rfl, by decide, w1_72, Or.inl rfl, rfl, tyX2_ok 2 (by decide)⟩
theorem fs6_121_3 : FS "GoodsDownhill$Land" 121 3 2 true .int := ⟨RX3, TX3, 6, "GoodsDownhill$House", rfl, by decide, w1_72, Or.inl rfl, rfl, tyX3_ok 2 (by decide)⟩
theorem fs6_121_4 : FS "GoodsDownhill$Land" 121 4 2 true .int := ⟨RX4, TX4, 6, "GoodsDownhill$House", rfl, by decide, w1_72, Or.inl rfl, rfl, tyX4_ok 2 (by decide)⟩
theorem fs6_121_5 : FS "GoodsDownhill$Land" 121 5 2 true .int := ⟨RX5, TX5, 6, "GoodsDownhill$House", rfl, by decide, w1_72, Or.inl rfl, rfl, tyX5_ok 2 (by decide)⟩
theorem fs6_121_8 : FS "GoodsDownhill$Land" 121 8 2 true .int := ⟨RX8, TX8, 6, "GoodsDownhill$House", rfl, by decide, w1_72, Or.inl rfl, rfl, tyX8_ok 2 (by decide)⟩
theorem fs6_124_0 : FS "GoodsDownhill$Land" 124 0 3 true .int := ⟨RX0, TX0, 6, "GoodsDownhill$House", rfl, by decide, w1_76, Or.inl rfl, rfl, tyX0_ok 3 (by decide)⟩
theorem fs6_124_2 : FS "GoodsDownhill$Land" 124 2 3 true .int := ⟨RX2, TX2, 6, "GoodsDownhill$House", rfl, by decide, w1_76, Or.inl rfl, rfl, tyX2_ok 3 (by decide)⟩
theorem fs6_124_3 : FS "GoodsDownhill$Land" 124 3 3 true .int := ⟨RX3, TX3, 6, "GoodsDownhill$House", rfl, by decide, w1_76, Or.inl rfl, rfl, tyX3_ok 3 (by decide)⟩
theorem fs6_124_4 : FS "GoodsDownhill$Land" 124 4 3 true .int := ⟨RX4, TX4, 6, "GoodsDownhill$House", rfl, by decide, w1_76, Or.inl rfl, rfl, tyX4_ok 3 (by decide)⟩
theorem fs6_124_5 : FS "GoodsDownhill$Land" 124 5 3 true .int := ⟨RX5, TX5, 6, "GoodsDownhill$House", rfl, by decide, w1_76, Or.inl rfl, rfl, tyX5_ok 3 (by decide)⟩
theorem fs6_124_8 : FS "GoodsDownhill$Land" 124 8 3 true .int := ⟨RX8, TX8, 6, "GoodsDownhill$House", rfl, by decide, w1_76, Or.inl rfl, rfl, tyX8_ok 3 (by decide)⟩
theorem fs6_132_0 : FS "GoodsDownhill$Land" 132 0 4 true .int := ⟨RX0, TX0, 6, "GoodsDownhill$House", rfl, by decide, w1_80, Or.inl rfl, rfl, tyX0_ok 4 (by decide)⟩
theorem fs6_132_2 : FS "GoodsDownhill$Land" 132 2 4 true .int := ⟨RX2, TX2, 6, "GoodsDownhill$House", rfl, by decide, w1_80, Or.inl rfl, rfl, tyX2_ok 4 (by decide)⟩
theorem fs6_132_3 : FS "GoodsDownhill$Land" 132 3 4 true .int := ⟨RX3, TX3, 6, "GoodsDownhill$House", rfl, by decide, w1_80, Or.inl rfl, rfl, tyX3_ok 4 (by decide)⟩
theorem fs6_132_4 : FS "GoodsDownhill$Land" 132 4 4 true .int := ⟨RX4, TX4, 6, "GoodsDownhill$House", rfl, by decide, w1_80, Or.inl rfl, rfl, tyX4_ok 4 (by decide)⟩
theorem fs6_132_5 : FS "GoodsDownhill$Land" 132 5 4 true .int := ⟨RX5, TX5, 6, "GoodsDownhill$House", rfl, by decide, w1_80, Or.inl rfl, rfl, tyX5_ok 4 (by decide)⟩
theorem fs6_132_8 : FS "GoodsDownhill$Land" 132 8 4 true .int := ⟨RX8, TX8, 6, "GoodsDownhill$House", rfl, by decide, w1_80, Or.inl rfl, rfl, tyX8_ok 4 (by decide)⟩
theorem fs6_17_6 : FS "GoodsDownhill$Land" 17 6 2 true (.array .int) := ⟨RX6, TX6, 9, "GoodsDownhill$Land", rfl, by decide, w1_105, Or.inl rfl, rfl, tyX6_ok 2 (by decide)⟩
theorem fs6_21_6 : FS "GoodsDownhill$Land" 21 6 3 true (.array .int) := ⟨RX6, TX6, 9, "GoodsDownhill$Land", rfl, by decide, w1_107, Or.inl rfl, rfl, tyX6_ok 3 (by decide)⟩
theorem fs6_24_6 : FS "GoodsDownhill$Land" 24 6 4 true (.array .int) := ⟨RX6, TX6, 9, "GoodsDownhill$Land", rfl, by decide, w1_109, Or.inl rfl, rfl, tyX6_ok 4 (by decide)⟩
theorem fs6_30_6 : FS "GoodsDownhill$Land" 30 6 5 true (.object "GoodsDownhill$Debts") := ⟨RX6, TX6, 9, "GoodsDownhill$Land", rfl, by decide, w1_112, Or.inl rfl, rfl, tyX6_ok 5 (by decide)⟩
theorem fs6_37_6 : FS "GoodsDownhill$Land" 37 6 1 false .int := ⟨RX6, TX6, 9, "GoodsDownhill$Land", rfl, by decide, w1_103, Or.inl rfl, rfl, tyX6_ok 1 (by decide)⟩
theorem fs6_51_6 : FS "GoodsDownhill$Land" 51 6 6 false .int := ⟨RX6, TX6, 9, "GoodsDownhill$Land", rfl, by decide, w1_115, Or.inl rfl, rfl, tyX6_ok 6 (by decide)⟩
theorem fs6_54_6 : FS "GoodsDownhill$Land" 54 6 7 false .int := ⟨RX6, TX6, 9, "GoodsDownhill$Land", rfl, by decide, w1_118, Or.inl rfl, rfl, tyX6_ok 7 (by decide)⟩
theorem fs6_57_6 : FS "GoodsDownhill$Land" 57 6 8 false .int := ⟨RX6, TX6, 9, "GoodsDownhill$Land", rfl, by decide, w1_120, Or.inl rfl, rfl, tyX6_ok 8 (by decide)⟩
theorem fs7_104_6 : FS "GoodsDownhill$Letters" 104 6 5 true (.object "GoodsDownhill$Debts") := ⟨RX6, TX6, 9, "GoodsDownhill$Land", rfl, by decide, w1_114, Or.inl rfl, rfl, tyX6_ok 5 (by decide)⟩
theorem fs7_15_7 : FS "GoodsDownhill$Letters" 15 7 1 false .int := ⟨RX7, TX7, 2, "GoodsDownhill$Letters", rfl, by decide, w1_172, Or.inl rfl, rfl, tyX7_ok 1 (by decide)⟩
theorem fs7_91_6 : FS "GoodsDownhill$Letters" 91 6 4 true (.array .int) := ⟨RX6, TX6, 9, "GoodsDownhill$Land", rfl, by decide, w1_111, Or.inl rfl, rfl, tyX6_ok 4 (by decide)⟩
theorem fs7_97_6 : FS "GoodsDownhill$Letters" 97 6 6 false .int := ⟨RX6, TX6, 9, "GoodsDownhill$Land", rfl, by decide, w1_117, Or.inl rfl, rfl, tyX6_ok 6 (by decide)⟩
theorem fs7_9_7 : FS "GoodsDownhill$Letters" 9 7 0 true (.array .int) := ⟨RX7, TX7, 2, "GoodsDownhill$Letters", rfl, by decide, w1_171, Or.inl rfl, rfl, tyX7_ok 0 (by decide)⟩
theorem fs8_13_0 : FS "GoodsDownhill$Market" 13 0 0 true .int := ⟨RX0, TX0, 6, "GoodsDownhill$Market", rfl, by decide, w1_49, Or.inr w1_50, rfl, tyX0_ok 0 (by decide)⟩
theorem fs8_13_2 : FS "GoodsDownhill$Market" 13 2 0 true .int := ⟨RX2, TX2, 6, "GoodsDownhill$Market", rfl, by decide, w1_49, Or.inr w1_50, rfl, tyX2_ok 0 (by decide)⟩
theorem fs8_13_3 : FS "GoodsDownhill$Market" 13 3 0 true .int := ⟨RX3, TX3, 6, "GoodsDownhill$Market", rfl, by decide, w1_49, Or.inr w1_50, rfl, tyX3_ok 0 (by decide)⟩
theorem fs8_13_4 : FS "GoodsDownhill$Market" 13 4 0 true .int := ⟨RX4, TX4, 6, "GoodsDownhill$Market", rfl, by decide, w1_49, Or.inr w1_50, rfl, tyX4_ok 0 (by decide)⟩
theorem fs8_13_5 : FS "GoodsDownhill$Market" 13 5 0 true .int := ⟨RX5, TX5, 6, "GoodsDownhill$Market", rfl, by decide, w1_49, Or.inr w1_50, rfl, tyX5_ok 0 (by decide)⟩
theorem fs8_13_8 : FS "GoodsDownhill$Market" 13 8 0 true .int := ⟨RX8, TX8, 6, "GoodsDownhill$Market", rfl, by decide, w1_49, Or.inr w1_50, rfl, tyX8_ok 0 (by decide)⟩
theorem fs8_7_0 : FS "GoodsDownhill$Market" 7 0 1 true .int := ⟨RX0, TX0, 6, "GoodsDownhill$Market", rfl, by decide, w1_60, Or.inr w1_61, rfl, tyX0_ok 1 (by decide)⟩
theorem fs8_7_2 : FS "GoodsDownhill$Market" 7 2 1 true .int := ⟨RX2, TX2, 6, "GoodsDownhill$Market", rfl, by decide, w1_60, Or.inr w1_61, rfl, tyX2_ok 1 (by decide)⟩
theorem fs8_7_3 : FS "GoodsDownhill$Market" 7 3 1 true .int := ⟨RX3, TX3, 6, "GoodsDownhill$Market", rfl, by decide, w1_60, Or.inr w1_61, rfl, tyX3_ok 1 (by decide)⟩
theorem fs8_7_4 : FS "GoodsDownhill$Market" 7 4 1 true .int := ⟨RX4, TX4, 6, "GoodsDownhill$Market", rfl, by decide, w1_60, Or.inr w1_61, rfl, tyX4_ok 1 (by decide)⟩
theorem fs8_7_5 : FS "GoodsDownhill$Market" 7 5 1 true .int := ⟨RX5, TX5, 6, "GoodsDownhill$Market", rfl, by decide, w1_60, Or.inr w1_61, rfl, tyX5_ok 1 (by decide)⟩
theorem fs8_7_8 : FS "GoodsDownhill$Market" 7 8 1 true .int := ⟨RX8, TX8, 6, "GoodsDownhill$Market", rfl, by decide, w1_60, Or.inr w1_61, rfl, tyX8_ok 1 (by decide)⟩
theorem fs9_15_9 : FS "GoodsDownhill$Tally" 15 9 0 false .int := ⟨RX9, TX9, 4, "GoodsDownhill$Tally", rfl, by decide, w1_147, Or.inl rfl, rfl, tyX9_ok 0 (by decide)⟩
theorem fs9_22_9 : FS "GoodsDownhill$Tally" 22 9 1 false .int := ⟨RX9, TX9, 4, "GoodsDownhill$Tally", rfl, by decide, w1_149, Or.inl rfl, rfl, tyX9_ok 1 (by decide)⟩
theorem fs9_25_9 : FS "GoodsDownhill$Tally" 25 9 2 false .int := ⟨RX9, TX9, 4, "GoodsDownhill$Tally", rfl, by decide, w1_152, Or.inl rfl, rfl, tyX9_ok 2 (by decide)⟩
theorem fs9_9_9 : FS "GoodsDownhill$Tally" 9 9 3 true (.array .int) := ⟨RX9, TX9, 4, "GoodsDownhill$Tally", rfl, by decide, w1_154, Or.inl rfl, rfl, tyX9_ok 3 (by decide)⟩
theorem ff0_13 : ∀ ci, isF ci = true → FS "GoodsDownhill$Cellared" 13 ci 2 true .int := by
  intro ci h
  rcases isF_c h with h | h | h | h | h | h <;> subst h
  · exact fs0_13_0
  · exact fs0_13_2
  · exact fs0_13_3
  · exact fs0_13_4
  · exact fs0_13_5
  · exact fs0_13_8
theorem ff0_16 : ∀ ci, isF ci = true → FS "GoodsDownhill$Cellared" 16 ci 3 true .int := by
  intro ci h
  rcases isF_c h with h | h | h | h | h | h <;> subst h
  · exact fs0_16_0
  · exact fs0_16_2
  · exact fs0_16_3
  · exact fs0_16_4
  · exact fs0_16_5
  · exact fs0_16_8
theorem ff0_19 : ∀ ci, isF ci = true → FS "GoodsDownhill$Cellared" 19 ci 4 true .int := by
  intro ci h
  rcases isF_c h with h | h | h | h | h | h <;> subst h
  · exact fs0_19_0
  · exact fs0_19_2
  · exact fs0_19_3
  · exact fs0_19_4
  · exact fs0_19_5
  · exact fs0_19_8
theorem ff0_22 : ∀ ci, isF ci = true → FS "GoodsDownhill$Cellared" 22 ci 5 true .int := by
  intro ci h
  rcases isF_c h with h | h | h | h | h | h <;> subst h
  · exact fs0_22_0
  · exact fs0_22_2
  · exact fs0_22_3
  · exact fs0_22_4
  · exact fs0_22_5
  · exact fs0_22_8
theorem ff0_26 : ∀ ci, isF ci = true → FS "GoodsDownhill$Cellared" 26 ci 1 true .int := by
  intro ci h
  rcases isF_c h with h | h | h | h | h | h <;> subst h
  · exact fs0_26_0
  · exact fs0_26_2
  · exact fs0_26_3
  · exact fs0_26_4
  · exact fs0_26_5
  · exact fs0_26_8
theorem ff0_27 : ∀ ci, isF ci = true → FS "GoodsDownhill$Cellared" 27 ci 0 true .int := by
  intro ci h
  rcases isF_c h with h | h | h | h | h | h <;> subst h
  · exact fs0_27_0
  · exact fs0_27_2
  · exact fs0_27_3
  · exact fs0_27_4
  · exact fs0_27_5
  · exact fs0_27_8
theorem ff0_9 : ∀ ci, isF ci = true → FS "GoodsDownhill$Cellared" 9 ci 1 true .int := by
  intro ci h
  rcases isF_c h with h | h | h | h | h | h <;> subst h
  · exact fs0_9_0
  · exact fs0_9_2
  · exact fs0_9_3
  · exact fs0_9_4
  · exact fs0_9_5
  · exact fs0_9_8
theorem ff10_52 : ∀ ci, isF ci = true → FS "GoodsDownhill$Trade" 52 ci 5 true .int := by
  intro ci h
  rcases isF_c h with h | h | h | h | h | h <;> subst h
  · exact fs10_52_0
  · exact fs10_52_2
  · exact fs10_52_3
  · exact fs10_52_4
  · exact fs10_52_5
  · exact fs10_52_8
theorem ff11_102 : ∀ ci, isF ci = true → FS "GoodsDownhill" 102 ci 4 true .int := by
  intro ci h
  rcases isF_c h with h | h | h | h | h | h <;> subst h
  · exact fs11_102_0
  · exact fs11_102_2
  · exact fs11_102_3
  · exact fs11_102_4
  · exact fs11_102_5
  · exact fs11_102_8
theorem ff11_105 : ∀ ci, isF ci = true → FS "GoodsDownhill" 105 ci 5 true .int := by
  intro ci h
  rcases isF_c h with h | h | h | h | h | h <;> subst h
  · exact fs11_105_0
  · exact fs11_105_2
  · exact fs11_105_3
  · exact fs11_105_4
  · exact fs11_105_5
  · exact fs11_105_8
theorem ff11_84 : ∀ ci, isF ci = true → FS "GoodsDownhill" 84 ci 0 true .int := by
  intro ci h
  rcases isF_c h with h | h | h | h | h | h <;> subst h
  · exact fs11_84_0
  · exact fs11_84_2
  · exact fs11_84_3
  · exact fs11_84_4
  · exact fs11_84_5
  · exact fs11_84_8
theorem ff11_87 : ∀ ci, isF ci = true → FS "GoodsDownhill" 87 ci 1 true .int := by
  intro ci h
  rcases isF_c h with h | h | h | h | h | h <;> subst h
  · exact fs11_87_0
  · exact fs11_87_2
  · exact fs11_87_3
  · exact fs11_87_4
  · exact fs11_87_5
  · exact fs11_87_8
theorem ff11_96 : ∀ ci, isF ci = true → FS "GoodsDownhill" 96 ci 2 true .int := by
  intro ci h
  rcases isF_c h with h | h | h | h | h | h <;> subst h
  · exact fs11_96_0
  · exact fs11_96_2
  · exact fs11_96_3
  · exact fs11_96_4
  · exact fs11_96_5
  · exact fs11_96_8
theorem ff11_99 : ∀ ci, isF ci = true → FS "GoodsDownhill" 99 ci 3 true .int := by
  intro ci h
  rcases isF_c h with h | h | h | h | h | h <;> subst h
  · exact fs11_99_0
  · exact fs11_99_2
  · exact fs11_99_3
  · exact fs11_99_4
  · exact fs11_99_5
  · exact fs11_99_8
theorem ff2_13 : ∀ ci, isF ci = true → FS "GoodsDownhill$Feigned" 13 ci 0 true .int := by
  intro ci h
  rcases isF_c h with h | h | h | h | h | h <;> subst h
  · exact fs2_13_0
  · exact fs2_13_2
  · exact fs2_13_3
  · exact fs2_13_4
  · exact fs2_13_5
  · exact fs2_13_8
theorem ff2_7 : ∀ ci, isF ci = true → FS "GoodsDownhill$Feigned" 7 ci 1 true .int := by
  intro ci h
  rcases isF_c h with h | h | h | h | h | h <;> subst h
  · exact fs2_7_0
  · exact fs2_7_2
  · exact fs2_7_3
  · exact fs2_7_4
  · exact fs2_7_5
  · exact fs2_7_8
theorem ff4_13 : ∀ ci, isF ci = true → FS "GoodsDownhill$House" 13 ci 1 true .int := by
  intro ci h
  rcases isF_c h with h | h | h | h | h | h <;> subst h
  · exact fs4_13_0
  · exact fs4_13_2
  · exact fs4_13_3
  · exact fs4_13_4
  · exact fs4_13_5
  · exact fs4_13_8
theorem ff4_16 : ∀ ci, isF ci = true → FS "GoodsDownhill$House" 16 ci 2 true .int := by
  intro ci h
  rcases isF_c h with h | h | h | h | h | h <;> subst h
  · exact fs4_16_0
  · exact fs4_16_2
  · exact fs4_16_3
  · exact fs4_16_4
  · exact fs4_16_5
  · exact fs4_16_8
theorem ff4_19 : ∀ ci, isF ci = true → FS "GoodsDownhill$House" 19 ci 3 true .int := by
  intro ci h
  rcases isF_c h with h | h | h | h | h | h <;> subst h
  · exact fs4_19_0
  · exact fs4_19_2
  · exact fs4_19_3
  · exact fs4_19_4
  · exact fs4_19_5
  · exact fs4_19_8
theorem ff4_22 : ∀ ci, isF ci = true → FS "GoodsDownhill$House" 22 ci 4 true .int := by
  intro ci h
  rcases isF_c h with h | h | h | h | h | h <;> subst h
  · exact fs4_22_0
  · exact fs4_22_2
  · exact fs4_22_3
  · exact fs4_22_4
  · exact fs4_22_5
  · exact fs4_22_8
theorem ff4_25 : ∀ ci, isF ci = true → FS "GoodsDownhill$House" 25 ci 5 true .int := by
  intro ci h
  rcases isF_c h with h | h | h | h | h | h <;> subst h
  · exact fs4_25_0
  · exact fs4_25_2
  · exact fs4_25_3
  · exact fs4_25_4
  · exact fs4_25_5
  · exact fs4_25_8
theorem ff4_7 : ∀ ci, isF ci = true → FS "GoodsDownhill$House" 7 ci 0 true .int := by
  intro ci h
  rcases isF_c h with h | h | h | h | h | h <;> subst h
  · exact fs4_7_0
  · exact fs4_7_2
  · exact fs4_7_3
  · exact fs4_7_4
  · exact fs4_7_5
  · exact fs4_7_8
theorem ff5_13 : ∀ ci, isF ci = true → FS "GoodsDownhill$Joined" 13 ci 0 true .int := by
  intro ci h
  rcases isF_c h with h | h | h | h | h | h <;> subst h
  · exact fs5_13_0
  · exact fs5_13_2
  · exact fs5_13_3
  · exact fs5_13_4
  · exact fs5_13_5
  · exact fs5_13_8
theorem ff5_7 : ∀ ci, isF ci = true → FS "GoodsDownhill$Joined" 7 ci 1 true .int := by
  intro ci h
  rcases isF_c h with h | h | h | h | h | h <;> subst h
  · exact fs5_7_0
  · exact fs5_7_2
  · exact fs5_7_3
  · exact fs5_7_4
  · exact fs5_7_5
  · exact fs5_7_8
theorem ff6_115 : ∀ ci, isF ci = true → FS "GoodsDownhill$Land" 115 ci 5 true .int := by
  intro ci h
  rcases isF_c h with h | h | h | h | h | h <;> subst h
  · exact fs6_115_0
  · exact fs6_115_2
  · exact fs6_115_3
  · exact fs6_115_4
  · exact fs6_115_5
  · exact fs6_115_8
theorem ff6_121 : ∀ ci, isF ci = true → FS "GoodsDownhill$Land" 121 ci 2 true .int := by
  intro ci h
  rcases isF_c h with h | h | h | h | h | h <;> subst h
  · exact fs6_121_0
  · exact fs6_121_2
  · exact fs6_121_3
  · exact fs6_121_4
  · exact fs6_121_5
  · exact fs6_121_8
theorem ff6_124 : ∀ ci, isF ci = true → FS "GoodsDownhill$Land" 124 ci 3 true .int := by
  intro ci h
  rcases isF_c h with h | h | h | h | h | h <;> subst h
  · exact fs6_124_0
  · exact fs6_124_2
  · exact fs6_124_3
  · exact fs6_124_4
  · exact fs6_124_5
  · exact fs6_124_8
theorem ff6_132 : ∀ ci, isF ci = true → FS "GoodsDownhill$Land" 132 ci 4 true .int := by
  intro ci h
  rcases isF_c h with h | h | h | h | h | h <;> subst h
  · exact fs6_132_0
  · exact fs6_132_2
  · exact fs6_132_3
  · exact fs6_132_4
  · exact fs6_132_5
  · exact fs6_132_8
theorem ff8_13 : ∀ ci, isF ci = true → FS "GoodsDownhill$Market" 13 ci 0 true .int := by
  intro ci h
  rcases isF_c h with h | h | h | h | h | h <;> subst h
  · exact fs8_13_0
  · exact fs8_13_2
  · exact fs8_13_3
  · exact fs8_13_4
  · exact fs8_13_5
  · exact fs8_13_8
theorem ff8_7 : ∀ ci, isF ci = true → FS "GoodsDownhill$Market" 7 ci 1 true .int := by
  intro ci h
  rcases isF_c h with h | h | h | h | h | h <;> subst h
  · exact fs8_7_0
  · exact fs8_7_2
  · exact fs8_7_3
  · exact fs8_7_4
  · exact fs8_7_5
  · exact fs8_7_8
theorem ms_X0_buysAt : MS yX0_buysAt cX0_buysAt 1 (some .int) 0 := ⟨w2_183, w1_9, by decide, by decide, by decide +kernel⟩
theorem ms_X0_init : MS yX0_init cX0_init 7 none 6 := ⟨w2_46, w1_9, by decide, by decide, by decide +kernel⟩
theorem ms_X0_insteadOf : MS yX0_insteadOf cX0_insteadOf 2 (some (.object "GoodsDownhill$House")) 2 := ⟨w3_179, w1_9, by decide, by decide, by decide +kernel⟩
theorem ms_X0_kind : MS yX0_kind cX0_kind 1 (some .int) 0 := ⟨w2_149, w1_9, by decide, by decide, by decide +kernel⟩
theorem ms_X10_cutBeside : MS yX10_cutBeside cX10_cutBeside 5 (some .int) 3 := ⟨w3_167, w1_15, by decide, by decide, by decide +kernel⟩
theorem ms_X10_fewestSales : MS yX10_fewestSales cX10_fewestSales 5 (some .int) 3 := ⟨w3_194, w1_15, by decide, by decide, by decide +kernel⟩
theorem ms_X10_hasBuyer : MS yX10_hasBuyer cX10_hasBuyer 4 (some .boolean) 3 := ⟨w3_155, w1_15, by decide, by decide, by decide +kernel⟩
theorem ms_X10_hasSellerAmong : MS yX10_hasSellerAmong cX10_hasSellerAmong 5 (some .boolean) 4 := ⟨w3_170, w1_15, by decide, by decide, by decide +kernel⟩
theorem ms_X10_mostOf : MS yX10_mostOf cX10_mostOf 4 (some .int) 2 := ⟨w3_164, w1_15, by decide, by decide, by decide +kernel⟩
theorem ms_X10_oneSaleBehind : MS yX10_oneSaleBehind cX10_oneSaleBehind 5 (some .int) 2 := ⟨w3_197, w1_15, by decide, by decide, by decide +kernel⟩
theorem ms_X10_stuckOf : MS yX10_stuckOf cX10_stuckOf 4 (some .int) 2 := ⟨w3_151, w1_15, by decide, by decide, by decide +kernel⟩
theorem ms_X10_ways : MS yX10_ways cX10_ways 3 (some .int) 3 := ⟨w3_188, w1_15, by decide, by decide, by decide +kernel⟩
theorem ms_X10_waysOn : MS yX10_waysOn cX10_waysOn 7 (some .int) 5 := ⟨w3_191, w1_15, by decide, by decide, by decide +kernel⟩
theorem ms_X11_drawBelow : MS yX11_drawBelow cX11_drawBelow 2 (some .int) 2 := ⟨w3_142, w1_1, by decide, by decide, by decide +kernel⟩
theorem ms_X11_isGood : MS yX11_isGood cX11_isGood 1 (some .boolean) 1 := ⟨w2_39, w1_1, by decide, by decide, by decide +kernel⟩
theorem ms_X11_isLaw : MS yX11_isLaw cX11_isLaw 1 (some .boolean) 1 := ⟨w2_121, w1_1, by decide, by decide, by decide +kernel⟩
theorem ms_X11_nextSeed : MS yX11_nextSeed cX11_nextSeed 1 (some .int) 1 := ⟨w3_138, w1_1, by decide, by decide, by decide +kernel⟩
theorem ms_X11_passInMind : MS yX11_passInMind cX11_passInMind 5 none 3 := ⟨w3_111, w1_1, by decide, by decide, by decide +kernel⟩
theorem ms_X11_refuse : MS yX11_refuse cX11_refuse 3 (some .int) 1 := ⟨w1_217, w1_1, by decide, by decide, by decide +kernel⟩
theorem ms_X11_sumOf : MS yX11_sumOf cX11_sumOf 6 (some .int) 1 := ⟨w2_228, w1_1, by decide, by decide, by decide +kernel⟩
theorem ms_X12_areTwo : MS yX12_areTwo cX12_areTwo 3 (some .boolean) 2 := ⟨w4_167, w1_7, by decide, by decide, by decide +kernel⟩
theorem ms_X12_buyFor : MS yX12_buyFor cX12_buyFor 7 none 1 := ⟨w4_235, w1_7, by decide, by decide, by decide +kernel⟩
theorem ms_X12_buysAt : MS yX12_buysAt cX12_buysAt 4 (some .int) 1 := ⟨w4_187, w1_7, by decide, by decide, by decide +kernel⟩
theorem ms_X12_canSell : MS yX12_canSell cX12_canSell 4 (some .boolean) 3 := ⟨w4_219, w1_7, by decide, by decide, by decide +kernel⟩
theorem ms_X12_carry : MS yX12_carry cX12_carry 2 (some .int) 1 := ⟨w4_114, w1_7, by decide, by decide, by decide +kernel⟩
theorem ms_X12_carryAll : MS yX12_carryAll cX12_carryAll 4 none 2 := ⟨w4_110, w1_7, by decide, by decide, by decide +kernel⟩
theorem ms_X12_close : MS yX12_close cX12_close 1 none 0 := ⟨w4_175, w1_7, by decide, by decide, by decide +kernel⟩
theorem ms_X12_comes : MS yX12_comes cX12_comes 5 (some .boolean) 1 := ⟨w4_159, w1_7, by decide, by decide, by decide +kernel⟩
theorem ms_X12_debt : MS yX12_debt cX12_debt 3 (some .int) 2 := ⟨w5_11, w1_7, by decide, by decide, by decide +kernel⟩
theorem ms_X12_draw : MS yX12_draw cX12_draw 2 (some .int) 1 := ⟨w5_104, w1_7, by decide, by decide, by decide +kernel⟩
theorem ms_X12_here : MS yX12_here cX12_here 1 (some .int) 0 := ⟨w4_138, w1_7, by decide, by decide, by decide +kernel⟩
theorem ms_X12_houseComes : MS yX12_houseComes cX12_houseComes 5 (some .boolean) 1 := ⟨w4_163, w1_7, by decide, by decide, by decide +kernel⟩
theorem ms_X12_in : MS yX12_in cX12_in 6 (some .boolean) 3 := ⟨w4_147, w1_7, by decide, by decide, by decide +kernel⟩
theorem ms_X12_isGood : MS yX12_isGood cX12_isGood 1 (some .boolean) 1 := ⟨w4_194, w1_7, by decide, by decide, by decide +kernel⟩
theorem ms_X12_isHouse : MS yX12_isHouse cX12_isHouse 2 (some .boolean) 1 := ⟨w4_171, w1_7, by decide, by decide, by decide +kernel⟩
theorem ms_X12_isLawful : MS yX12_isLawful cX12_isLawful 5 (some .boolean) 2 := ⟨w4_211, w1_7, by decide, by decide, by decide +kernel⟩
theorem ms_X12_isPath : MS yX12_isPath cX12_isPath 11 (some .boolean) 4 := ⟨w5_72, w1_7, by decide, by decide, by decide +kernel⟩
theorem ms_X12_isSold : MS yX12_isSold cX12_isSold 5 (some .boolean) 3 := ⟨w5_96, w1_7, by decide, by decide, by decide +kernel⟩
theorem ms_X12_lessen : MS yX12_lessen cX12_lessen 6 (some .int) 3 := ⟨w5_27, w1_7, by decide, by decide, by decide +kernel⟩
theorem ms_X12_mostOf : MS yX12_mostOf cX12_mostOf 9 (some .int) 1 := ⟨w5_59, w1_7, by decide, by decide, by decide +kernel⟩
theorem ms_X12_open : MS yX12_open cX12_open 2 none 0 := ⟨w4_155, w1_7, by decide, by decide, by decide +kernel⟩
theorem ms_X12_readDigit : MS yX12_readDigit cX12_readDigit 1 (some .int) 0 := ⟨w4_142, w1_7, by decide, by decide, by decide +kernel⟩
theorem ms_X12_readNumber : MS yX12_readNumber cX12_readNumber 4 (some .int) 1 := ⟨w4_151, w1_7, by decide, by decide, by decide +kernel⟩
theorem ms_X12_readStatement : MS yX12_readStatement cX12_readStatement 5 none 0 := ⟨w4_134, w1_7, by decide, by decide, by decide +kernel⟩
theorem ms_X12_refuse : MS yX12_refuse cX12_refuse 2 (some .int) 1 := ⟨w4_122, w1_7, by decide, by decide, by decide +kernel⟩
theorem ms_X12_sell : MS yX12_sell cX12_sell 4 none 3 := ⟨w4_223, w1_7, by decide, by decide, by decide +kernel⟩
theorem ms_X12_sellsAt : MS yX12_sellsAt cX12_sellsAt 3 (some .int) 1 := ⟨w4_183, w1_7, by decide, by decide, by decide +kernel⟩
theorem ms_X12_servedIn : MS yX12_servedIn cX12_servedIn 4 (some .int) 1 := ⟨w5_35, w1_7, by decide, by decide, by decide +kernel⟩
theorem ms_X12_strikeAll : MS yX12_strikeAll cX12_strikeAll 2 (some .int) 0 := ⟨w5_19, w1_7, by decide, by decide, by decide +kernel⟩
theorem ms_X12_strikeOne : MS yX12_strikeOne cX12_strikeOne 6 (some .boolean) 0 := ⟨w5_23, w1_7, by decide, by decide, by decide +kernel⟩
theorem ms_X12_sumOf : MS yX12_sumOf cX12_sumOf 5 (some .int) 2 := ⟨w5_115, w1_7, by decide, by decide, by decide +kernel⟩
theorem ms_X12_wants : MS yX12_wants cX12_wants 3 (some .boolean) 2 := ⟨w4_239, w1_7, by decide, by decide, by decide +kernel⟩
theorem ms_X12_wantsOfAll : MS yX12_wantsOfAll cX12_wantsOfAll 3 (some .int) 0 := ⟨w5_43, w1_7, by decide, by decide, by decide +kernel⟩
theorem ms_X12_weekOn : MS yX12_weekOn cX12_weekOn 5 (some .int) 0 := ⟨w4_231, w1_7, by decide, by decide, by decide +kernel⟩
theorem ms_X1_copyFrom : MS yX1_copyFrom cX1_copyFrom 2 none 1 := ⟨w2_1, w1_3, by decide, by decide, by decide +kernel⟩
theorem ms_X1_from : MS yX1_from cX1_from 3 (some .int) 2 := ⟨w3_83, w1_3, by decide, by decide, by decide +kernel⟩
theorem ms_X1_init : MS yX1_init cX1_init 1 none 0 := ⟨w1_36, w1_3, by decide, by decide, by decide +kernel⟩
theorem ms_X1_owedTo : MS yX1_owedTo cX1_owedTo 4 (some .int) 1 := ⟨w3_205, w1_3, by decide, by decide, by decide +kernel⟩
theorem ms_X1_put : MS yX1_put cX1_put 4 none 3 := ⟨w2_137, w1_3, by decide, by decide, by decide +kernel⟩
theorem ms_X1_strikeRings : MS yX1_strikeRings cX1_strikeRings 5 (some .int) 0 := ⟨w3_92, w1_3, by decide, by decide, by decide +kernel⟩
theorem ms_X1_strikeThree : MS yX1_strikeThree cX1_strikeThree 5 (some .int) 3 := ⟨w3_103, w1_3, by decide, by decide, by decide +kernel⟩
theorem ms_X1_strikeTwo : MS yX1_strikeTwo cX1_strikeTwo 4 (some .int) 2 := ⟨w3_96, w1_3, by decide, by decide, by decide +kernel⟩
theorem ms_X1_total : MS yX1_total cX1_total 1 (some .int) 0 := ⟨w2_232, w1_3, by decide, by decide, by decide +kernel⟩
theorem ms_X2_buysAt : MS yX2_buysAt cX2_buysAt 1 (some .int) 0 := ⟨w2_186, w1_13, by decide, by decide, by decide +kernel⟩
theorem ms_X2_init : MS yX2_init cX2_init 7 none 6 := ⟨w2_98, w1_13, by decide, by decide, by decide +kernel⟩
theorem ms_X2_kind : MS yX2_kind cX2_kind 1 (some .int) 0 := ⟨w2_152, w1_13, by decide, by decide, by decide +kernel⟩
theorem ms_X3_buysAt : MS yX3_buysAt cX3_buysAt 1 (some .int) 0 := ⟨w2_189, w1_11, by decide, by decide, by decide +kernel⟩
theorem ms_X3_init : MS yX3_init cX3_init 7 none 6 := ⟨w2_72, w1_11, by decide, by decide, by decide +kernel⟩
theorem ms_X3_kind : MS yX3_kind cX3_kind 1 (some .int) 0 := ⟨w2_155, w1_11, by decide, by decide, by decide +kernel⟩
theorem ms_X4_buysAt : MS yX4_buysAt cX4_buysAt 1 (some .int) 0 := ⟨w2_192, w1_4, by decide, by decide, by decide +kernel⟩
theorem ms_X4_init : MS yX4_init cX4_init 7 none 6 := ⟨w1_46, w1_4, by decide, by decide, by decide +kernel⟩
theorem ms_X4_kind : MS yX4_kind cX4_kind 1 (some .int) 0 := ⟨w2_162, w1_4, by decide, by decide, by decide +kernel⟩
theorem ms_X4_sellsAt : MS yX4_sellsAt cX4_sellsAt 1 (some .int) 0 := ⟨w2_176, w1_4, by decide, by decide, by decide +kernel⟩
theorem ms_X4_wantsSome : MS yX4_wantsSome cX4_wantsSome 2 (some .boolean) 1 := ⟨w3_62, w1_4, by decide, by decide, by decide +kernel⟩
theorem ms_X5_init : MS yX5_init cX5_init 7 none 6 := ⟨w2_59, w1_10, by decide, by decide, by decide +kernel⟩
theorem ms_X5_kind : MS yX5_kind cX5_kind 1 (some .int) 0 := ⟨w2_158, w1_10, by decide, by decide, by decide +kernel⟩
theorem ms_X5_sellsAt : MS yX5_sellsAt cX5_sellsAt 1 (some .int) 0 := ⟨w2_174, w1_10, by decide, by decide, by decide +kernel⟩
theorem ms_X6_addHouse : MS yX6_addHouse cX6_addHouse 3 (some .boolean) 2 := ⟨w2_110, w1_2, by decide, by decide, by decide +kernel⟩
theorem ms_X6_addPieces : MS yX6_addPieces cX6_addPieces 4 none 3 := ⟨w3_20, w1_2, by decide, by decide, by decide +kernel⟩
theorem ms_X6_areTwo : MS yX6_areTwo cX6_areTwo 3 (some .boolean) 2 := ⟨w2_129, w1_2, by decide, by decide, by decide +kernel⟩
theorem ms_X6_buyWanted : MS yX6_buyWanted cX6_buyWanted 6 (some .int) 1 := ⟨w3_48, w1_2, by decide, by decide, by decide +kernel⟩
theorem ms_X6_copyFrom : MS yX6_copyFrom cX6_copyFrom 3 none 1 := ⟨w1_234, w1_2, by decide, by decide, by decide +kernel⟩
theorem ms_X6_fullestSellerTo : MS yX6_fullestSellerTo cX6_fullestSellerTo 5 (some .int) 2 := ⟨w3_52, w1_2, by decide, by decide, by decide +kernel⟩
theorem ms_X6_hasHouse : MS yX6_hasHouse cX6_hasHouse 2 (some .boolean) 1 := ⟨w2_133, w1_2, by decide, by decide, by decide +kernel⟩
theorem ms_X6_hasMeans : MS yX6_hasMeans cX6_hasMeans 4 (some .boolean) 3 := ⟨w3_11, w1_2, by decide, by decide, by decide +kernel⟩
theorem ms_X6_init : MS yX6_init cX6_init 3 none 0 := ⟨w1_28, w1_2, by decide, by decide, by decide +kernel⟩
theorem ms_X6_isLawful : MS yX6_isLawful cX6_isLawful 5 (some .boolean) 2 := ⟨w2_219, w1_2, by decide, by decide, by decide +kernel⟩
theorem ms_X6_makeGoods : MS yX6_makeGoods cX6_makeGoods 4 none 1 := ⟨w3_41, w1_2, by decide, by decide, by decide +kernel⟩
theorem ms_X6_moveOnePiece : MS yX6_moveOnePiece cX6_moveOnePiece 4 none 3 := ⟨w3_16, w1_2, by decide, by decide, by decide +kernel⟩
theorem ms_X6_passWeek : MS yX6_passWeek cX6_passWeek 3 none 1 := ⟨w3_36, w1_2, by decide, by decide, by decide +kernel⟩
theorem ms_X6_piecesOf : MS yX6_piecesOf cX6_piecesOf 3 (some .int) 2 := ⟨w2_201, w1_2, by decide, by decide, by decide +kernel⟩
theorem ms_X6_richest : MS yX6_richest cX6_richest 3 (some .int) 0 := ⟨w3_123, w1_2, by decide, by decide, by decide +kernel⟩
theorem ms_X6_trySale : MS yX6_trySale cX6_trySale 4 (some .boolean) 3 := ⟨w3_4, w1_2, by decide, by decide, by decide +kernel⟩
theorem ms_X6_useWanted : MS yX6_useWanted cX6_useWanted 4 (some .int) 1 := ⟨w3_67, w1_2, by decide, by decide, by decide +kernel⟩
theorem ms_X7_add : MS yX7_add cX7_add 2 none 1 := ⟨w1_225, w1_6, by decide, by decide, by decide +kernel⟩
theorem ms_X7_digit : MS yX7_digit cX7_digit 2 (some .int) 1 := ⟨w2_32, w1_6, by decide, by decide, by decide +kernel⟩
theorem ms_X7_endOfDigits : MS yX7_endOfDigits cX7_endOfDigits 4 (some .int) 2 := ⟨w2_17, w1_6, by decide, by decide, by decide +kernel⟩
theorem ms_X7_endOfStatement : MS yX7_endOfStatement cX7_endOfStatement 3 (some .int) 1 := ⟨w2_24, w1_6, by decide, by decide, by decide +kernel⟩
theorem ms_X7_firstWrongPlace : MS yX7_firstWrongPlace cX7_firstWrongPlace 5 (some .int) 0 := ⟨w2_10, w1_6, by decide, by decide, by decide +kernel⟩
theorem ms_X7_init : MS yX7_init cX7_init 1 none 0 := ⟨w1_169, w1_6, by decide, by decide, by decide +kernel⟩
theorem ms_X7_isFull : MS yX7_isFull cX7_isFull 1 (some .boolean) 0 := ⟨w1_221, w1_6, by decide, by decide, by decide +kernel⟩
theorem ms_X7_leastDigits : MS yX7_leastDigits cX7_leastDigits 1 (some .int) 1 := ⟨w2_20, w1_6, by decide, by decide, by decide +kernel⟩
theorem ms_X7_mostDigits : MS yX7_mostDigits cX7_mostDigits 1 (some .int) 1 := ⟨w2_13, w1_6, by decide, by decide, by decide +kernel⟩
theorem ms_X7_number : MS yX7_number cX7_number 5 (some .int) 2 := ⟨w2_36, w1_6, by decide, by decide, by decide +kernel⟩
theorem ms_X7_tellDebt : MS yX7_tellDebt cX7_tellDebt 6 (some .boolean) 3 := ⟨w2_125, w1_6, by decide, by decide, by decide +kernel⟩
theorem ms_X7_tellHouse : MS yX7_tellHouse cX7_tellHouse 11 (some .boolean) 3 := ⟨w2_28, w1_6, by decide, by decide, by decide +kernel⟩
theorem ms_X7_tellLaw : MS yX7_tellLaw cX7_tellLaw 4 (some .boolean) 2 := ⟨w2_118, w1_6, by decide, by decide, by decide +kernel⟩
theorem ms_X7_tellPrice : MS yX7_tellPrice cX7_tellPrice 5 (some .boolean) 2 := ⟨w2_114, w1_6, by decide, by decide, by decide +kernel⟩
theorem ms_X7_tellTo : MS yX7_tellTo cX7_tellTo 7 (some .int) 1 := ⟨w2_6, w1_6, by decide, by decide, by decide +kernel⟩
theorem ms_X8_init : MS yX8_init cX8_init 7 none 6 := ⟨w2_85, w1_12, by decide, by decide, by decide +kernel⟩
theorem ms_X8_kind : MS yX8_kind cX8_kind 1 (some .int) 0 := ⟨w2_161, w1_12, by decide, by decide, by decide +kernel⟩
theorem ms_X8_sellsAt : MS yX8_sellsAt cX8_sellsAt 1 (some .int) 0 := ⟨w2_170, w1_12, by decide, by decide, by decide +kernel⟩
theorem ms_X9_addUse : MS yX9_addUse cX9_addUse 4 none 3 := ⟨w3_71, w1_5, by decide, by decide, by decide +kernel⟩
theorem ms_X9_beginWeek : MS yX9_beginWeek cX9_beginWeek 1 none 0 := ⟨w3_32, w1_5, by decide, by decide, by decide +kernel⟩
theorem ms_X9_clear : MS yX9_clear cX9_clear 2 none 0 := ⟨w3_28, w1_5, by decide, by decide, by decide +kernel⟩
theorem ms_X9_init : MS yX9_init cX9_init 1 none 0 := ⟨w1_145, w1_5, by decide, by decide, by decide +kernel⟩
theorem wkmax_11160 : Cond.methodLink "GoodsDownhill" 160 Lib.Math.max.name ∈ gtb ∧ Cond.static Lib.Math.max.name ∈ gtb ∧ Cond.initialized "java/lang/Math" ∈ gtb ∧ Cond.code Lib.Math.max.name Lib.Math.max.code 2 (some .int) ∈ gtb := ⟨w2_234, w2_235, w1_14, w2_236⟩
theorem wkmin_1036 : Cond.methodLink "GoodsDownhill$Debts" 36 Lib.Math.min.name ∈ gtb ∧ Cond.static Lib.Math.min.name ∈ gtb ∧ Cond.initialized "java/lang/Math" ∈ gtb ∧ Cond.code Lib.Math.min.name Lib.Math.min.code 2 (some .int) ∈ gtb := ⟨w3_98, w3_43, w1_14, w3_44⟩
theorem wkmin_6127 : Cond.methodLink "GoodsDownhill$Land" 127 Lib.Math.min.name ∈ gtb ∧ Cond.static Lib.Math.min.name ∈ gtb ∧ Cond.initialized "java/lang/Math" ∈ gtb ∧ Cond.code Lib.Math.min.name Lib.Math.min.code 2 (some .int) ∈ gtb := ⟨w3_42, w3_43, w1_14, w3_44⟩
theorem wkmax_6138 : Cond.methodLink "GoodsDownhill$Land" 138 Lib.Math.max.name ∈ gtb ∧ Cond.static Lib.Math.max.name ∈ gtb ∧ Cond.initialized "java/lang/Math" ∈ gtb ∧ Cond.code Lib.Math.max.name Lib.Math.max.code 2 (some .int) ∈ gtb := ⟨w3_63, w2_235, w1_14, w2_236⟩
theorem wkmin_10043 : Cond.methodLink "GoodsDownhill$Trade" 43 Lib.Math.min.name ∈ gtb ∧ Cond.static Lib.Math.min.name ∈ gtb ∧ Cond.initialized "java/lang/Math" ∈ gtb ∧ Cond.code Lib.Math.min.name Lib.Math.min.code 2 (some .int) ∈ gtb := ⟨w3_171, w3_43, w1_14, w3_44⟩
theorem wkcp_1015 : arrcw "GoodsDownhill$Debts" 15 := ⟨w2_2, w1_237, w1_236, w1_8⟩
theorem wkcp_6041 : arrcw "GoodsDownhill$Land" 41 := ⟨w1_235, w1_237, w1_236, w1_8⟩
end
section
def f_X0_kind (S : Mm) (l0 : Nat) : Option (Int32 × Mm) := if okF S l0 = true then some (1, S) else none
set_option maxRecDepth 20000 in
theorem ok_X0_kind {S : Mm} {l0 : Nat} {T : (Int32 × Mm)} (hf : f_X0_kind S l0 = some T) : okF S l0 = true := (oif hf).1
set_option maxRecDepth 20000 in
theorem c_X0_kind {G : Gt} {l : Launch} {S : Mm} {l0 : Nat} {T : (Int32 × Mm)} (hf : f_X0_kind S l0 = some T) : CC G l yX0_kind cX0_kind 1 (some .int) 0 0 0 [.ref l0] S (eI T) := by
  unfold f_X0_kind at hf
  replace hf := (oif hf).2
  refine r_body (by decide) rfl (Nat.le_of_ble_eq_true rfl) (by simp) ?_
  refine r_iconst (v := 1) dX0_kind_0 (by decide) ?_
  exact r_ireturn dX0_kind_1 rfl (Nat.le_of_ble_eq_true rfl) (Nat.le_of_ble_eq_true rfl) (congrArg eI (Option.some.inj hf))
def f_X0_buysAt (S : Mm) (l0 : Nat) : Option (Int32 × Mm) := if okF S l0 = true then (gF S l0 1).bind fun x1 => (gF S l0 0).bind fun x3 => some ((x1 - x3), S) else none
set_option maxRecDepth 20000 in
theorem ok_X0_buysAt {S : Mm} {l0 : Nat} {T : (Int32 × Mm)} (hf : f_X0_buysAt S l0 = some T) : okF S l0 = true := (oif hf).1
set_option maxRecDepth 20000 in
theorem c_X0_buysAt {G : Gt} {l : Launch} {S : Mm} {l0 : Nat} {T : (Int32 × Mm)} (hf : f_X0_buysAt S l0 = some T) : CC G l yX0_buysAt cX0_buysAt 1 (some .int) 0 0 0 [.ref l0] S (eI T) := by
  unfold f_X0_buysAt at hf
  replace hf := (oif hf).2
  refine r_body (by decide) rfl (Nat.le_of_ble_eq_true rfl) (by simp) ?_
  refine r_aload_n dX0_buysAt_0 rfl ?_
  obtain ⟨x1, h2, hf⟩ := bnd hf
  refine r_getF dX0_buysAt_1 ff0_26 (by decide) h2 ?_
  refine r_aload_n dX0_buysAt_4 rfl ?_
  obtain ⟨x3, h4, hf⟩ := bnd hf
  refine r_getF dX0_buysAt_5 ff0_27 (by decide) h4 ?_
  refine r_isub dX0_buysAt_8 ?_
  exact r_ireturn dX0_buysAt_9 rfl (Nat.le_of_ble_eq_true rfl) (Nat.le_of_ble_eq_true rfl) (congrArg eI (Option.some.inj hf))
def f_X2_kind (S : Mm) (l0 : Nat) : Option (Int32 × Mm) := if okF S l0 = true then some (5, S) else none
set_option maxRecDepth 20000 in
theorem ok_X2_kind {S : Mm} {l0 : Nat} {T : (Int32 × Mm)} (hf : f_X2_kind S l0 = some T) : okF S l0 = true := (oif hf).1
set_option maxRecDepth 20000 in
theorem c_X2_kind {G : Gt} {l : Launch} {S : Mm} {l0 : Nat} {T : (Int32 × Mm)} (hf : f_X2_kind S l0 = some T) : CC G l yX2_kind cX2_kind 1 (some .int) 0 0 0 [.ref l0] S (eI T) := by
  unfold f_X2_kind at hf
  replace hf := (oif hf).2
  refine r_body (by decide) rfl (Nat.le_of_ble_eq_true rfl) (by simp) ?_
  refine r_iconst (v := 5) dX2_kind_0 (by decide) ?_
  exact r_ireturn dX2_kind_1 rfl (Nat.le_of_ble_eq_true rfl) (Nat.le_of_ble_eq_true rfl) (congrArg eI (Option.some.inj hf))
def f_X2_buysAt (S : Mm) (l0 : Nat) : Option (Int32 × Mm) := if okF S l0 = true then (gF S l0 1).bind fun x1 => (gF S l0 0).bind fun x3 => some ((x1 - (2 * x3)), S) else none
set_option maxRecDepth 20000 in
theorem ok_X2_buysAt {S : Mm} {l0 : Nat} {T : (Int32 × Mm)} (hf : f_X2_buysAt S l0 = some T) : okF S l0 = true := (oif hf).1
set_option maxRecDepth 20000 in
theorem c_X2_buysAt {G : Gt} {l : Launch} {S : Mm} {l0 : Nat} {T : (Int32 × Mm)} (hf : f_X2_buysAt S l0 = some T) : CC G l yX2_buysAt cX2_buysAt 1 (some .int) 0 0 0 [.ref l0] S (eI T) := by
  unfold f_X2_buysAt at hf
  replace hf := (oif hf).2
  refine r_body (by decide) rfl (Nat.le_of_ble_eq_true rfl) (by simp) ?_
  refine r_aload_n dX2_buysAt_0 rfl ?_
  obtain ⟨x1, h2, hf⟩ := bnd hf
  refine r_getF dX2_buysAt_1 ff2_7 (by decide) h2 ?_
  refine r_iconst (v := 2) dX2_buysAt_4 (by decide) ?_
  refine r_aload_n dX2_buysAt_5 rfl ?_
  obtain ⟨x3, h4, hf⟩ := bnd hf
  refine r_getF dX2_buysAt_6 ff2_13 (by decide) h4 ?_
  refine r_imul dX2_buysAt_9 ?_
  refine r_isub dX2_buysAt_10 ?_
  exact r_ireturn dX2_buysAt_11 rfl (Nat.le_of_ble_eq_true rfl) (Nat.le_of_ble_eq_true rfl) (congrArg eI (Option.some.inj hf))
def f_X3_kind (S : Mm) (l0 : Nat) : Option (Int32 × Mm) := if okF S l0 = true then some (3, S) else none
set_option maxRecDepth 20000 in
theorem ok_X3_kind {S : Mm} {l0 : Nat} {T : (Int32 × Mm)} (hf : f_X3_kind S l0 = some T) : okF S l0 = true := (oif hf).1
set_option maxRecDepth 20000 in
theorem c_X3_kind {G : Gt} {l : Launch} {S : Mm} {l0 : Nat} {T : (Int32 × Mm)} (hf : f_X3_kind S l0 = some T) : CC G l yX3_kind cX3_kind 1 (some .int) 0 0 0 [.ref l0] S (eI T) := by
  unfold f_X3_kind at hf
  replace hf := (oif hf).2
  refine r_body (by decide) rfl (Nat.le_of_ble_eq_true rfl) (by simp) ?_
  refine r_iconst (v := 3) dX3_kind_0 (by decide) ?_
  exact r_ireturn dX3_kind_1 rfl (Nat.le_of_ble_eq_true rfl) (Nat.le_of_ble_eq_true rfl) (congrArg eI (Option.some.inj hf))
def f_X3_buysAt (S : Mm) (l0 : Nat) : Option (Int32 × Mm) := if okF S l0 = true then some (999, S) else none
set_option maxRecDepth 20000 in
theorem ok_X3_buysAt {S : Mm} {l0 : Nat} {T : (Int32 × Mm)} (hf : f_X3_buysAt S l0 = some T) : okF S l0 = true := (oif hf).1
set_option maxRecDepth 20000 in
theorem c_X3_buysAt {G : Gt} {l : Launch} {S : Mm} {l0 : Nat} {T : (Int32 × Mm)} (hf : f_X3_buysAt S l0 = some T) : CC G l yX3_buysAt cX3_buysAt 1 (some .int) 0 0 0 [.ref l0] S (eI T) := by
  unfold f_X3_buysAt at hf
  replace hf := (oif hf).2
  refine r_body (by decide) rfl (Nat.le_of_ble_eq_true rfl) (by simp) ?_
  refine r_sipush (v := 999) dX3_buysAt_0 (by decide) ?_
  exact r_ireturn dX3_buysAt_3 rfl (Nat.le_of_ble_eq_true rfl) (Nat.le_of_ble_eq_true rfl) (congrArg eI (Option.some.inj hf))
def f_X4_kind (S : Mm) (l0 : Nat) : Option (Int32 × Mm) := if okF S l0 = true then some (0, S) else none
set_option maxRecDepth 20000 in
theorem ok_X4_kind {S : Mm} {l0 : Nat} {T : (Int32 × Mm)} (hf : f_X4_kind S l0 = some T) : okF S l0 = true := (oif hf).1
set_option maxRecDepth 20000 in
theorem c_X4_kind {G : Gt} {l : Launch} {S : Mm} {l0 : Nat} {T : (Int32 × Mm)} (hf : f_X4_kind S l0 = some T) : CC G l yX4_kind cX4_kind 1 (some .int) 0 0 0 [.ref l0] S (eI T) := by
  unfold f_X4_kind at hf
  replace hf := (oif hf).2
  refine r_body (by decide) rfl (Nat.le_of_ble_eq_true rfl) (by simp) ?_
  refine r_iconst (v := 0) dX4_kind_0 (by decide) ?_
  exact r_ireturn dX4_kind_1 rfl (Nat.le_of_ble_eq_true rfl) (Nat.le_of_ble_eq_true rfl) (congrArg eI (Option.some.inj hf))
def f_X4_sellsAt (S : Mm) (l0 : Nat) : Option (Int32 × Mm) := if okF S l0 = true then (gF S l0 1).bind fun x1 => some (x1, S) else none
set_option maxRecDepth 20000 in
theorem ok_X4_sellsAt {S : Mm} {l0 : Nat} {T : (Int32 × Mm)} (hf : f_X4_sellsAt S l0 = some T) : okF S l0 = true := (oif hf).1
set_option maxRecDepth 20000 in
theorem c_X4_sellsAt {G : Gt} {l : Launch} {S : Mm} {l0 : Nat} {T : (Int32 × Mm)} (hf : f_X4_sellsAt S l0 = some T) : CC G l yX4_sellsAt cX4_sellsAt 1 (some .int) 0 0 0 [.ref l0] S (eI T) := by
  unfold f_X4_sellsAt at hf
  replace hf := (oif hf).2
  refine r_body (by decide) rfl (Nat.le_of_ble_eq_true rfl) (by simp) ?_
  refine r_aload_n dX4_sellsAt_0 rfl ?_
  obtain ⟨x1, h2, hf⟩ := bnd hf
  refine r_getF dX4_sellsAt_1 ff4_13 (by decide) h2 ?_
  exact r_ireturn dX4_sellsAt_4 rfl (Nat.le_of_ble_eq_true rfl) (Nat.le_of_ble_eq_true rfl) (congrArg eI (Option.some.inj hf))
def f_X4_buysAt (S : Mm) (l0 : Nat) : Option (Int32 × Mm) := if okF S l0 = true then (gF S l0 1).bind fun x1 => some (x1, S) else none
set_option maxRecDepth 20000 in
theorem ok_X4_buysAt {S : Mm} {l0 : Nat} {T : (Int32 × Mm)} (hf : f_X4_buysAt S l0 = some T) : okF S l0 = true := (oif hf).1
set_option maxRecDepth 20000 in
theorem c_X4_buysAt {G : Gt} {l : Launch} {S : Mm} {l0 : Nat} {T : (Int32 × Mm)} (hf : f_X4_buysAt S l0 = some T) : CC G l yX4_buysAt cX4_buysAt 1 (some .int) 0 0 0 [.ref l0] S (eI T) := by
  unfold f_X4_buysAt at hf
  replace hf := (oif hf).2
  refine r_body (by decide) rfl (Nat.le_of_ble_eq_true rfl) (by simp) ?_
  refine r_aload_n dX4_buysAt_0 rfl ?_
  obtain ⟨x1, h2, hf⟩ := bnd hf
  refine r_getF dX4_buysAt_1 ff4_13 (by decide) h2 ?_
  exact r_ireturn dX4_buysAt_4 rfl (Nat.le_of_ble_eq_true rfl) (Nat.le_of_ble_eq_true rfl) (congrArg eI (Option.some.inj hf))
def f_X4_wantsSome_20 (S : Mm) (s0 : Int32) : Option (Int32 × Mm) := (rB s0).bind fun x1 => some (x1, S)
def f_X4_wantsSome_19 (S : Mm)  : Option (Int32 × Mm) := f_X4_wantsSome_20 S 0
def f_X4_wantsSome (S : Mm) (l0 : Nat) (l1 : Int32) : Option (Int32 × Mm) := if okF S l0 = true then (gF S l0 5).bind fun x1 => (if x1 ≤ 0 then f_X4_wantsSome_19 S else (gF S l0 4).bind fun x4 => (if x4 = l1 then f_X4_wantsSome_20 S 1 else f_X4_wantsSome_19 S)) else none
set_option maxRecDepth 20000 in
theorem t_X4_wantsSome_20 {G : Gt} {l : Launch} (S : Mm) (s0 : Int32) (T : (Int32 × Mm)) (hf : f_X4_wantsSome_20 S s0 = some T) : Sat G l yX4_wantsSome cX4_wantsSome 2 (some .boolean) 0 0 0 0 0 20 [.null, .null] [.int s0] S (eI T) := by
  unfold f_X4_wantsSome_20 at hf
  obtain ⟨x1, h2, hf⟩ := bnd hf
  exact r_zreturn dX4_wantsSome_20 rfl (Nat.le_of_ble_eq_true rfl) (Nat.le_of_ble_eq_true rfl) h2 (congrArg eI (Option.some.inj hf))
set_option maxRecDepth 20000 in
theorem t_X4_wantsSome_19 {G : Gt} {l : Launch} (S : Mm)  (T : (Int32 × Mm)) (hf : f_X4_wantsSome_19 S  = some T) : Sat G l yX4_wantsSome cX4_wantsSome 2 (some .boolean) 0 0 0 0 0 19 [.null, .null] [] S (eI T) := by
  unfold f_X4_wantsSome_19 at hf
  refine r_iconst (v := 0) dX4_wantsSome_19 (by decide) ?_
  exact t_X4_wantsSome_20 _ _ _ hf
set_option maxRecDepth 20000 in
theorem ok_X4_wantsSome {S : Mm} {l0 : Nat} {l1 : Int32} {T : (Int32 × Mm)} (hf : f_X4_wantsSome S l0 l1 = some T) : okF S l0 = true := (oif hf).1
set_option maxRecDepth 20000 in
theorem c_X4_wantsSome {G : Gt} {l : Launch} {S : Mm} {l0 : Nat} {l1 : Int32} {T : (Int32 × Mm)} (hf : f_X4_wantsSome S l0 l1 = some T) : CC G l yX4_wantsSome cX4_wantsSome 2 (some .boolean) 0 0 0 [.ref l0, .int l1] S (eI T) := by
  unfold f_X4_wantsSome at hf
  replace hf := (oif hf).2
  refine r_body (by decide) rfl (Nat.le_of_ble_eq_true rfl) (by simp) ?_
  refine r_aload_n dX4_wantsSome_0 rfl ?_
  obtain ⟨x1, h2, hf⟩ := bnd hf
  refine r_getF dX4_wantsSome_1 ff4_25 (by decide) h2 ?_
  refine r_if_le (tgt := 19) dX4_wantsSome_4 (by decide) (fun c3 => ?_) (fun c3 => ?_)
  · replace hf := (if_pos c3).symm.trans hf
    refine r_lvs (lv' := [.null, .null]) ⟨Or.inr rfl, Or.inr rfl, trivial⟩ ?_
    exact t_X4_wantsSome_19 _ _ hf
  · replace hf := (if_neg c3).symm.trans hf
    refine r_aload_n dX4_wantsSome_7 rfl ?_
    obtain ⟨x4, h5, hf⟩ := bnd hf
    refine r_getF dX4_wantsSome_8 ff4_22 (by decide) h5 ?_
    refine r_iload_n dX4_wantsSome_11 rfl ?_
    refine r_icmp_ne (tgt := 19) dX4_wantsSome_12 (by decide) (fun c6 => ?_) (fun c6 => ?_)
    · replace hf := (if_neg c6).symm.trans hf
      refine r_lvs (lv' := [.null, .null]) ⟨Or.inr rfl, Or.inr rfl, trivial⟩ ?_
      exact t_X4_wantsSome_19 _ _ hf
    · replace hf := (if_pos c6).symm.trans hf
      refine r_iconst (v := 1) dX4_wantsSome_15 (by decide) ?_
      refine r_goto (tgt := 20) dX4_wantsSome_16 (by decide) ?_
      refine r_lvs (lv' := [.null, .null]) ⟨Or.inr rfl, Or.inr rfl, trivial⟩ ?_
      exact t_X4_wantsSome_20 _ _ _ hf
def f_X5_kind (S : Mm) (l0 : Nat) : Option (Int32 × Mm) := if okF S l0 = true then some (2, S) else none
set_option maxRecDepth 20000 in
theorem ok_X5_kind {S : Mm} {l0 : Nat} {T : (Int32 × Mm)} (hf : f_X5_kind S l0 = some T) : okF S l0 = true := (oif hf).1
set_option maxRecDepth 20000 in
theorem c_X5_kind {G : Gt} {l : Launch} {S : Mm} {l0 : Nat} {T : (Int32 × Mm)} (hf : f_X5_kind S l0 = some T) : CC G l yX5_kind cX5_kind 1 (some .int) 0 0 0 [.ref l0] S (eI T) := by
  unfold f_X5_kind at hf
  replace hf := (oif hf).2
  refine r_body (by decide) rfl (Nat.le_of_ble_eq_true rfl) (by simp) ?_
  refine r_iconst (v := 2) dX5_kind_0 (by decide) ?_
  exact r_ireturn dX5_kind_1 rfl (Nat.le_of_ble_eq_true rfl) (Nat.le_of_ble_eq_true rfl) (congrArg eI (Option.some.inj hf))
def f_X5_sellsAt (S : Mm) (l0 : Nat) : Option (Int32 × Mm) := if okF S l0 = true then (gF S l0 1).bind fun x1 => (gF S l0 0).bind fun x3 => some ((x1 + x3), S) else none
set_option maxRecDepth 20000 in
theorem ok_X5_sellsAt {S : Mm} {l0 : Nat} {T : (Int32 × Mm)} (hf : f_X5_sellsAt S l0 = some T) : okF S l0 = true := (oif hf).1
set_option maxRecDepth 20000 in
theorem c_X5_sellsAt {G : Gt} {l : Launch} {S : Mm} {l0 : Nat} {T : (Int32 × Mm)} (hf : f_X5_sellsAt S l0 = some T) : CC G l yX5_sellsAt cX5_sellsAt 1 (some .int) 0 0 0 [.ref l0] S (eI T) := by
  unfold f_X5_sellsAt at hf
  replace hf := (oif hf).2
  refine r_body (by decide) rfl (Nat.le_of_ble_eq_true rfl) (by simp) ?_
  refine r_aload_n dX5_sellsAt_0 rfl ?_
  obtain ⟨x1, h2, hf⟩ := bnd hf
  refine r_getF dX5_sellsAt_1 ff5_7 (by decide) h2 ?_
  refine r_aload_n dX5_sellsAt_4 rfl ?_
  obtain ⟨x3, h4, hf⟩ := bnd hf
  refine r_getF dX5_sellsAt_5 ff5_13 (by decide) h4 ?_
  refine r_iadd dX5_sellsAt_8 ?_
  exact r_ireturn dX5_sellsAt_9 rfl (Nat.le_of_ble_eq_true rfl) (Nat.le_of_ble_eq_true rfl) (congrArg eI (Option.some.inj hf))
def f_X8_sellsAt (S : Mm) (l0 : Nat) : Option (Int32 × Mm) := if okF S l0 = true then (gF S l0 1).bind fun x1 => (gF S l0 0).bind fun x3 => some ((x1 + x3), S) else none
set_option maxRecDepth 20000 in
theorem ok_X8_sellsAt {S : Mm} {l0 : Nat} {T : (Int32 × Mm)} (hf : f_X8_sellsAt S l0 = some T) : okF S l0 = true := (oif hf).1
set_option maxRecDepth 20000 in
theorem c_X8_sellsAt {G : Gt} {l : Launch} {S : Mm} {l0 : Nat} {T : (Int32 × Mm)} (hf : f_X8_sellsAt S l0 = some T) : CC G l yX8_sellsAt cX8_sellsAt 1 (some .int) 0 0 0 [.ref l0] S (eI T) := by
  unfold f_X8_sellsAt at hf
  replace hf := (oif hf).2
  refine r_body (by decide) rfl (Nat.le_of_ble_eq_true rfl) (by simp) ?_
  refine r_aload_n dX8_sellsAt_0 rfl ?_
  obtain ⟨x1, h2, hf⟩ := bnd hf
  refine r_getF dX8_sellsAt_1 ff8_7 (by decide) h2 ?_
  refine r_aload_n dX8_sellsAt_4 rfl ?_
  obtain ⟨x3, h4, hf⟩ := bnd hf
  refine r_getF dX8_sellsAt_5 ff8_13 (by decide) h4 ?_
  refine r_iadd dX8_sellsAt_8 ?_
  exact r_ireturn dX8_sellsAt_9 rfl (Nat.le_of_ble_eq_true rfl) (Nat.le_of_ble_eq_true rfl) (congrArg eI (Option.some.inj hf))
def f_X8_kind (S : Mm) (l0 : Nat) : Option (Int32 × Mm) := if okF S l0 = true then some (4, S) else none
set_option maxRecDepth 20000 in
theorem ok_X8_kind {S : Mm} {l0 : Nat} {T : (Int32 × Mm)} (hf : f_X8_kind S l0 = some T) : okF S l0 = true := (oif hf).1
set_option maxRecDepth 20000 in
theorem c_X8_kind {G : Gt} {l : Launch} {S : Mm} {l0 : Nat} {T : (Int32 × Mm)} (hf : f_X8_kind S l0 = some T) : CC G l yX8_kind cX8_kind 1 (some .int) 0 0 0 [.ref l0] S (eI T) := by
  unfold f_X8_kind at hf
  replace hf := (oif hf).2
  refine r_body (by decide) rfl (Nat.le_of_ble_eq_true rfl) (by simp) ?_
  refine r_iconst (v := 4) dX8_kind_0 (by decide) ?_
  exact r_ireturn dX8_kind_1 rfl (Nat.le_of_ble_eq_true rfl) (Nat.le_of_ble_eq_true rfl) (congrArg eI (Option.some.inj hf))
def dy_kind (S : Mm) (a : Nat)  : Option (Int32 × Mm) := if okc S a 0 = true then f_X0_kind S a else if okc S a 2 = true then f_X2_kind S a else if okc S a 3 = true then f_X3_kind S a else if okc S a 4 = true then f_X4_kind S a else if okc S a 5 = true then f_X5_kind S a else if okc S a 8 = true then f_X8_kind S a else none
def dy_sellsAt (S : Mm) (a : Nat)  : Option (Int32 × Mm) := if okc S a 0 = true then f_X4_sellsAt S a else if okc S a 2 = true then f_X8_sellsAt S a else if okc S a 3 = true then f_X4_sellsAt S a else if okc S a 4 = true then f_X4_sellsAt S a else if okc S a 5 = true then f_X5_sellsAt S a else if okc S a 8 = true then f_X8_sellsAt S a else none
def dy_buysAt (S : Mm) (a : Nat)  : Option (Int32 × Mm) := if okc S a 0 = true then f_X0_buysAt S a else if okc S a 2 = true then f_X2_buysAt S a else if okc S a 3 = true then f_X3_buysAt S a else if okc S a 4 = true then f_X4_buysAt S a else if okc S a 5 = true then f_X4_buysAt S a else if okc S a 8 = true then f_X0_buysAt S a else none
def dy_wantsSome (S : Mm) (a : Nat) (b0 : Int32) : Option (Int32 × Mm) := if okc S a 0 = true then f_X4_wantsSome S a b0 else if okc S a 2 = true then f_X4_wantsSome S a b0 else if okc S a 3 = true then f_X4_wantsSome S a b0 else if okc S a 4 = true then f_X4_wantsSome S a b0 else if okc S a 5 = true then f_X4_wantsSome S a b0 else if okc S a 8 = true then f_X4_wantsSome S a b0 else none
set_option maxRecDepth 20000 in
theorem rv_11_78 {G : Gt} {l : Launch} {y : MethodName} {cc : ByteArray} {nL : Nat} {rt : Option FieldType} {t mc ms ce sl pc : Nat} {lv st : List Value} {S : Mm} {T : Option Value × Mm} {a : Nat}  {q : Int32 × Mm} (hd : decode cc pc = .ok (.invokevirtual 78, 3)) (hy : y.cls = "GoodsDownhill") (h : dy_kind S a = some q) (ht : 1 ≤ t ∧ 21 ≤ 40 * t) (hst : (st.map fun v => v.category).sum ≤ 8) (h1 : ce ≤ mc) (h2 : sl ≤ ms) {st0 : List Value} (hs0 : ([] : List Value).reverse ++ .ref a :: st = st0) (K : Sat G l y cc nL rt t mc ms ce sl (pc + 3) lv (.int q.1 :: st) q.2 T) : Sat G l y cc nL rt t mc ms ce sl pc lv st0 S T := by
  unfold dy_kind at h
  by_cases ho : okc S a 0 = true
  · replace h := (if_pos ho).symm.trans h
    exact r_callOi (x := ⟨"GoodsDownhill$House", "kind", "()I"⟩) (as := []) hd ms_X0_kind ⟨rfl, by rw [hy]; exact w2_143, w2_146, w2_144, w2_147, w2_148, w2_162⟩ ⟨by decide, by decide, by decide +kernel⟩ ho (c_X0_kind h) rfl ⟨by omega, by omega⟩ hst h1 h2 hs0 K
  replace h := (if_neg ho).symm.trans h
  by_cases ho : okc S a 2 = true
  · replace h := (if_pos ho).symm.trans h
    exact r_callOi (x := ⟨"GoodsDownhill$House", "kind", "()I"⟩) (as := []) hd ms_X2_kind ⟨rfl, by rw [hy]; exact w2_143, w2_146, w2_144, w2_150, w2_151, w2_162⟩ ⟨by decide, by decide, by decide +kernel⟩ ho (c_X2_kind h) rfl ⟨by omega, by omega⟩ hst h1 h2 hs0 K
  replace h := (if_neg ho).symm.trans h
  by_cases ho : okc S a 3 = true
  · replace h := (if_pos ho).symm.trans h
    exact r_callOi (x := ⟨"GoodsDownhill$House", "kind", "()I"⟩) (as := []) hd ms_X3_kind ⟨rfl, by rw [hy]; exact w2_143, w2_146, w2_144, w2_153, w2_154, w2_162⟩ ⟨by decide, by decide, by decide +kernel⟩ ho (c_X3_kind h) rfl ⟨by omega, by omega⟩ hst h1 h2 hs0 K
  replace h := (if_neg ho).symm.trans h
  by_cases ho : okc S a 4 = true
  · replace h := (if_pos ho).symm.trans h
    exact r_callOi (x := ⟨"GoodsDownhill$House", "kind", "()I"⟩) (as := []) hd ms_X4_kind ⟨rfl, by rw [hy]; exact w2_143, w2_146, w2_144, w2_145, w2_144, w2_162⟩ ⟨by decide, by decide, by decide +kernel⟩ ho (c_X4_kind h) rfl ⟨by omega, by omega⟩ hst h1 h2 hs0 K
  replace h := (if_neg ho).symm.trans h
  by_cases ho : okc S a 5 = true
  · replace h := (if_pos ho).symm.trans h
    exact r_callOi (x := ⟨"GoodsDownhill$House", "kind", "()I"⟩) (as := []) hd ms_X5_kind ⟨rfl, by rw [hy]; exact w2_143, w2_146, w2_144, w2_156, w2_157, w2_162⟩ ⟨by decide, by decide, by decide +kernel⟩ ho (c_X5_kind h) rfl ⟨by omega, by omega⟩ hst h1 h2 hs0 K
  replace h := (if_neg ho).symm.trans h
  by_cases ho : okc S a 8 = true
  · replace h := (if_pos ho).symm.trans h
    exact r_callOi (x := ⟨"GoodsDownhill$House", "kind", "()I"⟩) (as := []) hd ms_X8_kind ⟨rfl, by rw [hy]; exact w2_143, w2_146, w2_144, w2_159, w2_160, w2_162⟩ ⟨by decide, by decide, by decide +kernel⟩ ho (c_X8_kind h) rfl ⟨by omega, by omega⟩ hst h1 h2 hs0 K
  replace h := (if_neg ho).symm.trans h
  cases h
set_option maxRecDepth 20000 in
theorem rv_11_90 {G : Gt} {l : Launch} {y : MethodName} {cc : ByteArray} {nL : Nat} {rt : Option FieldType} {t mc ms ce sl pc : Nat} {lv st : List Value} {S : Mm} {T : Option Value × Mm} {a : Nat}  {q : Int32 × Mm} (hd : decode cc pc = .ok (.invokevirtual 90, 3)) (hy : y.cls = "GoodsDownhill") (h : dy_sellsAt S a = some q) (ht : 1 ≤ t ∧ 21 ≤ 40 * t) (hst : (st.map fun v => v.category).sum ≤ 8) (h1 : ce ≤ mc) (h2 : sl ≤ ms) {st0 : List Value} (hs0 : ([] : List Value).reverse ++ .ref a :: st = st0) (K : Sat G l y cc nL rt t mc ms ce sl (pc + 3) lv (.int q.1 :: st) q.2 T) : Sat G l y cc nL rt t mc ms ce sl pc lv st0 S T := by
  unfold dy_sellsAt at h
  by_cases ho : okc S a 0 = true
  · replace h := (if_pos ho).symm.trans h
    exact r_callOi (x := ⟨"GoodsDownhill$House", "sellsAt", "()I"⟩) (as := []) hd ms_X4_sellsAt ⟨rfl, by rw [hy]; exact w2_163, w2_166, w2_164, w2_167, w2_164, w2_176⟩ ⟨by decide, by decide, by decide +kernel⟩ ho (c_X4_sellsAt h) rfl ⟨by omega, by omega⟩ hst h1 h2 hs0 K
  replace h := (if_neg ho).symm.trans h
  by_cases ho : okc S a 2 = true
  · replace h := (if_pos ho).symm.trans h
    exact r_callOi (x := ⟨"GoodsDownhill$House", "sellsAt", "()I"⟩) (as := []) hd ms_X8_sellsAt ⟨rfl, by rw [hy]; exact w2_163, w2_166, w2_164, w2_168, w2_169, w2_176⟩ ⟨by decide, by decide, by decide +kernel⟩ ho (c_X8_sellsAt h) rfl ⟨by omega, by omega⟩ hst h1 h2 hs0 K
  replace h := (if_neg ho).symm.trans h
  by_cases ho : okc S a 3 = true
  · replace h := (if_pos ho).symm.trans h
    exact r_callOi (x := ⟨"GoodsDownhill$House", "sellsAt", "()I"⟩) (as := []) hd ms_X4_sellsAt ⟨rfl, by rw [hy]; exact w2_163, w2_166, w2_164, w2_171, w2_164, w2_176⟩ ⟨by decide, by decide, by decide +kernel⟩ ho (c_X4_sellsAt h) rfl ⟨by omega, by omega⟩ hst h1 h2 hs0 K
  replace h := (if_neg ho).symm.trans h
  by_cases ho : okc S a 4 = true
  · replace h := (if_pos ho).symm.trans h
    exact r_callOi (x := ⟨"GoodsDownhill$House", "sellsAt", "()I"⟩) (as := []) hd ms_X4_sellsAt ⟨rfl, by rw [hy]; exact w2_163, w2_166, w2_164, w2_165, w2_164, w2_176⟩ ⟨by decide, by decide, by decide +kernel⟩ ho (c_X4_sellsAt h) rfl ⟨by omega, by omega⟩ hst h1 h2 hs0 K
  replace h := (if_neg ho).symm.trans h
  by_cases ho : okc S a 5 = true
  · replace h := (if_pos ho).symm.trans h
    exact r_callOi (x := ⟨"GoodsDownhill$House", "sellsAt", "()I"⟩) (as := []) hd ms_X5_sellsAt ⟨rfl, by rw [hy]; exact w2_163, w2_166, w2_164, w2_172, w2_173, w2_176⟩ ⟨by decide, by decide, by decide +kernel⟩ ho (c_X5_sellsAt h) rfl ⟨by omega, by omega⟩ hst h1 h2 hs0 K
  replace h := (if_neg ho).symm.trans h
  by_cases ho : okc S a 8 = true
  · replace h := (if_pos ho).symm.trans h
    exact r_callOi (x := ⟨"GoodsDownhill$House", "sellsAt", "()I"⟩) (as := []) hd ms_X8_sellsAt ⟨rfl, by rw [hy]; exact w2_163, w2_166, w2_164, w2_175, w2_169, w2_176⟩ ⟨by decide, by decide, by decide +kernel⟩ ho (c_X8_sellsAt h) rfl ⟨by omega, by omega⟩ hst h1 h2 hs0 K
  replace h := (if_neg ho).symm.trans h
  cases h
set_option maxRecDepth 20000 in
theorem rv_11_93 {G : Gt} {l : Launch} {y : MethodName} {cc : ByteArray} {nL : Nat} {rt : Option FieldType} {t mc ms ce sl pc : Nat} {lv st : List Value} {S : Mm} {T : Option Value × Mm} {a : Nat}  {q : Int32 × Mm} (hd : decode cc pc = .ok (.invokevirtual 93, 3)) (hy : y.cls = "GoodsDownhill") (h : dy_buysAt S a = some q) (ht : 1 ≤ t ∧ 21 ≤ 40 * t) (hst : (st.map fun v => v.category).sum ≤ 8) (h1 : ce ≤ mc) (h2 : sl ≤ ms) {st0 : List Value} (hs0 : ([] : List Value).reverse ++ .ref a :: st = st0) (K : Sat G l y cc nL rt t mc ms ce sl (pc + 3) lv (.int q.1 :: st) q.2 T) : Sat G l y cc nL rt t mc ms ce sl pc lv st0 S T := by
  unfold dy_buysAt at h
  by_cases ho : okc S a 0 = true
  · replace h := (if_pos ho).symm.trans h
    exact r_callOi (x := ⟨"GoodsDownhill$House", "buysAt", "()I"⟩) (as := []) hd ms_X0_buysAt ⟨rfl, by rw [hy]; exact w2_177, w2_180, w2_178, w2_181, w2_182, w2_192⟩ ⟨by decide, by decide, by decide +kernel⟩ ho (c_X0_buysAt h) rfl ⟨by omega, by omega⟩ hst h1 h2 hs0 K
  replace h := (if_neg ho).symm.trans h
  by_cases ho : okc S a 2 = true
  · replace h := (if_pos ho).symm.trans h
    exact r_callOi (x := ⟨"GoodsDownhill$House", "buysAt", "()I"⟩) (as := []) hd ms_X2_buysAt ⟨rfl, by rw [hy]; exact w2_177, w2_180, w2_178, w2_184, w2_185, w2_192⟩ ⟨by decide, by decide, by decide +kernel⟩ ho (c_X2_buysAt h) rfl ⟨by omega, by omega⟩ hst h1 h2 hs0 K
  replace h := (if_neg ho).symm.trans h
  by_cases ho : okc S a 3 = true
  · replace h := (if_pos ho).symm.trans h
    exact r_callOi (x := ⟨"GoodsDownhill$House", "buysAt", "()I"⟩) (as := []) hd ms_X3_buysAt ⟨rfl, by rw [hy]; exact w2_177, w2_180, w2_178, w2_187, w2_188, w2_192⟩ ⟨by decide, by decide, by decide +kernel⟩ ho (c_X3_buysAt h) rfl ⟨by omega, by omega⟩ hst h1 h2 hs0 K
  replace h := (if_neg ho).symm.trans h
  by_cases ho : okc S a 4 = true
  · replace h := (if_pos ho).symm.trans h
    exact r_callOi (x := ⟨"GoodsDownhill$House", "buysAt", "()I"⟩) (as := []) hd ms_X4_buysAt ⟨rfl, by rw [hy]; exact w2_177, w2_180, w2_178, w2_179, w2_178, w2_192⟩ ⟨by decide, by decide, by decide +kernel⟩ ho (c_X4_buysAt h) rfl ⟨by omega, by omega⟩ hst h1 h2 hs0 K
  replace h := (if_neg ho).symm.trans h
  by_cases ho : okc S a 5 = true
  · replace h := (if_pos ho).symm.trans h
    exact r_callOi (x := ⟨"GoodsDownhill$House", "buysAt", "()I"⟩) (as := []) hd ms_X4_buysAt ⟨rfl, by rw [hy]; exact w2_177, w2_180, w2_178, w2_190, w2_178, w2_192⟩ ⟨by decide, by decide, by decide +kernel⟩ ho (c_X4_buysAt h) rfl ⟨by omega, by omega⟩ hst h1 h2 hs0 K
  replace h := (if_neg ho).symm.trans h
  by_cases ho : okc S a 8 = true
  · replace h := (if_pos ho).symm.trans h
    exact r_callOi (x := ⟨"GoodsDownhill$House", "buysAt", "()I"⟩) (as := []) hd ms_X0_buysAt ⟨rfl, by rw [hy]; exact w2_177, w2_180, w2_178, w2_191, w2_182, w2_192⟩ ⟨by decide, by decide, by decide +kernel⟩ ho (c_X0_buysAt h) rfl ⟨by omega, by omega⟩ hst h1 h2 hs0 K
  replace h := (if_neg ho).symm.trans h
  cases h
set_option maxRecDepth 20000 in
theorem rv_6_64 {G : Gt} {l : Launch} {y : MethodName} {cc : ByteArray} {nL : Nat} {rt : Option FieldType} {t mc ms ce sl pc : Nat} {lv st : List Value} {S : Mm} {T : Option Value × Mm} {a : Nat}  {q : Int32 × Mm} (hd : decode cc pc = .ok (.invokevirtual 64, 3)) (hy : y.cls = "GoodsDownhill$Land") (h : dy_buysAt S a = some q) (ht : 1 ≤ t ∧ 21 ≤ 40 * t) (hst : (st.map fun v => v.category).sum ≤ 8) (h1 : ce ≤ mc) (h2 : sl ≤ ms) {st0 : List Value} (hs0 : ([] : List Value).reverse ++ .ref a :: st = st0) (K : Sat G l y cc nL rt t mc ms ce sl (pc + 3) lv (.int q.1 :: st) q.2 T) : Sat G l y cc nL rt t mc ms ce sl pc lv st0 S T := by
  unfold dy_buysAt at h
  by_cases ho : okc S a 0 = true
  · replace h := (if_pos ho).symm.trans h
    exact r_callOi (x := ⟨"GoodsDownhill$House", "buysAt", "()I"⟩) (as := []) hd ms_X0_buysAt ⟨rfl, by rw [hy]; exact w2_220, w2_180, w2_178, w2_181, w2_182, w2_192⟩ ⟨by decide, by decide, by decide +kernel⟩ ho (c_X0_buysAt h) rfl ⟨by omega, by omega⟩ hst h1 h2 hs0 K
  replace h := (if_neg ho).symm.trans h
  by_cases ho : okc S a 2 = true
  · replace h := (if_pos ho).symm.trans h
    exact r_callOi (x := ⟨"GoodsDownhill$House", "buysAt", "()I"⟩) (as := []) hd ms_X2_buysAt ⟨rfl, by rw [hy]; exact w2_220, w2_180, w2_178, w2_184, w2_185, w2_192⟩ ⟨by decide, by decide, by decide +kernel⟩ ho (c_X2_buysAt h) rfl ⟨by omega, by omega⟩ hst h1 h2 hs0 K
  replace h := (if_neg ho).symm.trans h
  by_cases ho : okc S a 3 = true
  · replace h := (if_pos ho).symm.trans h
    exact r_callOi (x := ⟨"GoodsDownhill$House", "buysAt", "()I"⟩) (as := []) hd ms_X3_buysAt ⟨rfl, by rw [hy]; exact w2_220, w2_180, w2_178, w2_187, w2_188, w2_192⟩ ⟨by decide, by decide, by decide +kernel⟩ ho (c_X3_buysAt h) rfl ⟨by omega, by omega⟩ hst h1 h2 hs0 K
  replace h := (if_neg ho).symm.trans h
  by_cases ho : okc S a 4 = true
  · replace h := (if_pos ho).symm.trans h
    exact r_callOi (x := ⟨"GoodsDownhill$House", "buysAt", "()I"⟩) (as := []) hd ms_X4_buysAt ⟨rfl, by rw [hy]; exact w2_220, w2_180, w2_178, w2_179, w2_178, w2_192⟩ ⟨by decide, by decide, by decide +kernel⟩ ho (c_X4_buysAt h) rfl ⟨by omega, by omega⟩ hst h1 h2 hs0 K
  replace h := (if_neg ho).symm.trans h
  by_cases ho : okc S a 5 = true
  · replace h := (if_pos ho).symm.trans h
    exact r_callOi (x := ⟨"GoodsDownhill$House", "buysAt", "()I"⟩) (as := []) hd ms_X4_buysAt ⟨rfl, by rw [hy]; exact w2_220, w2_180, w2_178, w2_190, w2_178, w2_192⟩ ⟨by decide, by decide, by decide +kernel⟩ ho (c_X4_buysAt h) rfl ⟨by omega, by omega⟩ hst h1 h2 hs0 K
  replace h := (if_neg ho).symm.trans h
  by_cases ho : okc S a 8 = true
  · replace h := (if_pos ho).symm.trans h
    exact r_callOi (x := ⟨"GoodsDownhill$House", "buysAt", "()I"⟩) (as := []) hd ms_X0_buysAt ⟨rfl, by rw [hy]; exact w2_220, w2_180, w2_178, w2_191, w2_182, w2_192⟩ ⟨by decide, by decide, by decide +kernel⟩ ho (c_X0_buysAt h) rfl ⟨by omega, by omega⟩ hst h1 h2 hs0 K
  replace h := (if_neg ho).symm.trans h
  cases h
set_option maxRecDepth 20000 in
theorem rv_6_68 {G : Gt} {l : Launch} {y : MethodName} {cc : ByteArray} {nL : Nat} {rt : Option FieldType} {t mc ms ce sl pc : Nat} {lv st : List Value} {S : Mm} {T : Option Value × Mm} {a : Nat}  {q : Int32 × Mm} (hd : decode cc pc = .ok (.invokevirtual 68, 3)) (hy : y.cls = "GoodsDownhill$Land") (h : dy_sellsAt S a = some q) (ht : 1 ≤ t ∧ 21 ≤ 40 * t) (hst : (st.map fun v => v.category).sum ≤ 8) (h1 : ce ≤ mc) (h2 : sl ≤ ms) {st0 : List Value} (hs0 : ([] : List Value).reverse ++ .ref a :: st = st0) (K : Sat G l y cc nL rt t mc ms ce sl (pc + 3) lv (.int q.1 :: st) q.2 T) : Sat G l y cc nL rt t mc ms ce sl pc lv st0 S T := by
  unfold dy_sellsAt at h
  by_cases ho : okc S a 0 = true
  · replace h := (if_pos ho).symm.trans h
    exact r_callOi (x := ⟨"GoodsDownhill$House", "sellsAt", "()I"⟩) (as := []) hd ms_X4_sellsAt ⟨rfl, by rw [hy]; exact w2_221, w2_166, w2_164, w2_167, w2_164, w2_176⟩ ⟨by decide, by decide, by decide +kernel⟩ ho (c_X4_sellsAt h) rfl ⟨by omega, by omega⟩ hst h1 h2 hs0 K
  replace h := (if_neg ho).symm.trans h
  by_cases ho : okc S a 2 = true
  · replace h := (if_pos ho).symm.trans h
    exact r_callOi (x := ⟨"GoodsDownhill$House", "sellsAt", "()I"⟩) (as := []) hd ms_X8_sellsAt ⟨rfl, by rw [hy]; exact w2_221, w2_166, w2_164, w2_168, w2_169, w2_176⟩ ⟨by decide, by decide, by decide +kernel⟩ ho (c_X8_sellsAt h) rfl ⟨by omega, by omega⟩ hst h1 h2 hs0 K
  replace h := (if_neg ho).symm.trans h
  by_cases ho : okc S a 3 = true
  · replace h := (if_pos ho).symm.trans h
    exact r_callOi (x := ⟨"GoodsDownhill$House", "sellsAt", "()I"⟩) (as := []) hd ms_X4_sellsAt ⟨rfl, by rw [hy]; exact w2_221, w2_166, w2_164, w2_171, w2_164, w2_176⟩ ⟨by decide, by decide, by decide +kernel⟩ ho (c_X4_sellsAt h) rfl ⟨by omega, by omega⟩ hst h1 h2 hs0 K
  replace h := (if_neg ho).symm.trans h
  by_cases ho : okc S a 4 = true
  · replace h := (if_pos ho).symm.trans h
    exact r_callOi (x := ⟨"GoodsDownhill$House", "sellsAt", "()I"⟩) (as := []) hd ms_X4_sellsAt ⟨rfl, by rw [hy]; exact w2_221, w2_166, w2_164, w2_165, w2_164, w2_176⟩ ⟨by decide, by decide, by decide +kernel⟩ ho (c_X4_sellsAt h) rfl ⟨by omega, by omega⟩ hst h1 h2 hs0 K
  replace h := (if_neg ho).symm.trans h
  by_cases ho : okc S a 5 = true
  · replace h := (if_pos ho).symm.trans h
    exact r_callOi (x := ⟨"GoodsDownhill$House", "sellsAt", "()I"⟩) (as := []) hd ms_X5_sellsAt ⟨rfl, by rw [hy]; exact w2_221, w2_166, w2_164, w2_172, w2_173, w2_176⟩ ⟨by decide, by decide, by decide +kernel⟩ ho (c_X5_sellsAt h) rfl ⟨by omega, by omega⟩ hst h1 h2 hs0 K
  replace h := (if_neg ho).symm.trans h
  by_cases ho : okc S a 8 = true
  · replace h := (if_pos ho).symm.trans h
    exact r_callOi (x := ⟨"GoodsDownhill$House", "sellsAt", "()I"⟩) (as := []) hd ms_X8_sellsAt ⟨rfl, by rw [hy]; exact w2_221, w2_166, w2_164, w2_175, w2_169, w2_176⟩ ⟨by decide, by decide, by decide +kernel⟩ ho (c_X8_sellsAt h) rfl ⟨by omega, by omega⟩ hst h1 h2 hs0 K
  replace h := (if_neg ho).symm.trans h
  cases h
set_option maxRecDepth 20000 in
theorem rv_6_141 {G : Gt} {l : Launch} {y : MethodName} {cc : ByteArray} {nL : Nat} {rt : Option FieldType} {t mc ms ce sl pc : Nat} {lv st : List Value} {S : Mm} {T : Option Value × Mm} {a : Nat} {b0 : Int32} {q : Int32 × Mm} (hd : decode cc pc = .ok (.invokevirtual 141, 3)) (hy : y.cls = "GoodsDownhill$Land") (h : dy_wantsSome S a b0 = some q) (ht : 1 ≤ t ∧ 21 ≤ 40 * t) (hst : (st.map fun v => v.category).sum ≤ 8) (h1 : ce ≤ mc) (h2 : sl ≤ ms) {st0 : List Value} (hs0 : ([.int b0] : List Value).reverse ++ .ref a :: st = st0) (K : Sat G l y cc nL rt t mc ms ce sl (pc + 3) lv (.int q.1 :: st) q.2 T) : Sat G l y cc nL rt t mc ms ce sl pc lv st0 S T := by
  unfold dy_wantsSome at h
  by_cases ho : okc S a 0 = true
  · replace h := (if_pos ho).symm.trans h
    exact r_callOi (x := ⟨"GoodsDownhill$House", "wantsSome", "(I)Z"⟩) (as := [.int b0]) hd ms_X4_wantsSome ⟨rfl, by rw [hy]; exact w3_53, w3_56, w3_54, w3_57, w3_54, w3_62⟩ ⟨by decide, by decide, by decide +kernel⟩ ho (c_X4_wantsSome h) rfl ⟨by omega, by omega⟩ hst h1 h2 hs0 K
  replace h := (if_neg ho).symm.trans h
  by_cases ho : okc S a 2 = true
  · replace h := (if_pos ho).symm.trans h
    exact r_callOi (x := ⟨"GoodsDownhill$House", "wantsSome", "(I)Z"⟩) (as := [.int b0]) hd ms_X4_wantsSome ⟨rfl, by rw [hy]; exact w3_53, w3_56, w3_54, w3_58, w3_54, w3_62⟩ ⟨by decide, by decide, by decide +kernel⟩ ho (c_X4_wantsSome h) rfl ⟨by omega, by omega⟩ hst h1 h2 hs0 K
  replace h := (if_neg ho).symm.trans h
  by_cases ho : okc S a 3 = true
  · replace h := (if_pos ho).symm.trans h
    exact r_callOi (x := ⟨"GoodsDownhill$House", "wantsSome", "(I)Z"⟩) (as := [.int b0]) hd ms_X4_wantsSome ⟨rfl, by rw [hy]; exact w3_53, w3_56, w3_54, w3_59, w3_54, w3_62⟩ ⟨by decide, by decide, by decide +kernel⟩ ho (c_X4_wantsSome h) rfl ⟨by omega, by omega⟩ hst h1 h2 hs0 K
  replace h := (if_neg ho).symm.trans h
  by_cases ho : okc S a 4 = true
  · replace h := (if_pos ho).symm.trans h
    exact r_callOi (x := ⟨"GoodsDownhill$House", "wantsSome", "(I)Z"⟩) (as := [.int b0]) hd ms_X4_wantsSome ⟨rfl, by rw [hy]; exact w3_53, w3_56, w3_54, w3_55, w3_54, w3_62⟩ ⟨by decide, by decide, by decide +kernel⟩ ho (c_X4_wantsSome h) rfl ⟨by omega, by omega⟩ hst h1 h2 hs0 K
  replace h := (if_neg ho).symm.trans h
  by_cases ho : okc S a 5 = true
  · replace h := (if_pos ho).symm.trans h
    exact r_callOi (x := ⟨"GoodsDownhill$House", "wantsSome", "(I)Z"⟩) (as := [.int b0]) hd ms_X4_wantsSome ⟨rfl, by rw [hy]; exact w3_53, w3_56, w3_54, w3_60, w3_54, w3_62⟩ ⟨by decide, by decide, by decide +kernel⟩ ho (c_X4_wantsSome h) rfl ⟨by omega, by omega⟩ hst h1 h2 hs0 K
  replace h := (if_neg ho).symm.trans h
  by_cases ho : okc S a 8 = true
  · replace h := (if_pos ho).symm.trans h
    exact r_callOi (x := ⟨"GoodsDownhill$House", "wantsSome", "(I)Z"⟩) (as := [.int b0]) hd ms_X4_wantsSome ⟨rfl, by rw [hy]; exact w3_53, w3_56, w3_54, w3_61, w3_54, w3_62⟩ ⟨by decide, by decide, by decide +kernel⟩ ho (c_X4_wantsSome h) rfl ⟨by omega, by omega⟩ hst h1 h2 hs0 K
  replace h := (if_neg ho).symm.trans h
  cases h
set_option maxRecDepth 20000 in
theorem rv_10_19 {G : Gt} {l : Launch} {y : MethodName} {cc : ByteArray} {nL : Nat} {rt : Option FieldType} {t mc ms ce sl pc : Nat} {lv st : List Value} {S : Mm} {T : Option Value × Mm} {a : Nat} {b0 : Int32} {q : Int32 × Mm} (hd : decode cc pc = .ok (.invokevirtual 19, 3)) (hy : y.cls = "GoodsDownhill$Trade") (h : dy_wantsSome S a b0 = some q) (ht : 1 ≤ t ∧ 21 ≤ 40 * t) (hst : (st.map fun v => v.category).sum ≤ 8) (h1 : ce ≤ mc) (h2 : sl ≤ ms) {st0 : List Value} (hs0 : ([.int b0] : List Value).reverse ++ .ref a :: st = st0) (K : Sat G l y cc nL rt t mc ms ce sl (pc + 3) lv (.int q.1 :: st) q.2 T) : Sat G l y cc nL rt t mc ms ce sl pc lv st0 S T := by
  unfold dy_wantsSome at h
  by_cases ho : okc S a 0 = true
  · replace h := (if_pos ho).symm.trans h
    exact r_callOi (x := ⟨"GoodsDownhill$House", "wantsSome", "(I)Z"⟩) (as := [.int b0]) hd ms_X4_wantsSome ⟨rfl, by rw [hy]; exact w3_152, w3_56, w3_54, w3_57, w3_54, w3_62⟩ ⟨by decide, by decide, by decide +kernel⟩ ho (c_X4_wantsSome h) rfl ⟨by omega, by omega⟩ hst h1 h2 hs0 K
  replace h := (if_neg ho).symm.trans h
  by_cases ho : okc S a 2 = true
  · replace h := (if_pos ho).symm.trans h
    exact r_callOi (x := ⟨"GoodsDownhill$House", "wantsSome", "(I)Z"⟩) (as := [.int b0]) hd ms_X4_wantsSome ⟨rfl, by rw [hy]; exact w3_152, w3_56, w3_54, w3_58, w3_54, w3_62⟩ ⟨by decide, by decide, by decide +kernel⟩ ho (c_X4_wantsSome h) rfl ⟨by omega, by omega⟩ hst h1 h2 hs0 K
  replace h := (if_neg ho).symm.trans h
  by_cases ho : okc S a 3 = true
  · replace h := (if_pos ho).symm.trans h
    exact r_callOi (x := ⟨"GoodsDownhill$House", "wantsSome", "(I)Z"⟩) (as := [.int b0]) hd ms_X4_wantsSome ⟨rfl, by rw [hy]; exact w3_152, w3_56, w3_54, w3_59, w3_54, w3_62⟩ ⟨by decide, by decide, by decide +kernel⟩ ho (c_X4_wantsSome h) rfl ⟨by omega, by omega⟩ hst h1 h2 hs0 K
  replace h := (if_neg ho).symm.trans h
  by_cases ho : okc S a 4 = true
  · replace h := (if_pos ho).symm.trans h
    exact r_callOi (x := ⟨"GoodsDownhill$House", "wantsSome", "(I)Z"⟩) (as := [.int b0]) hd ms_X4_wantsSome ⟨rfl, by rw [hy]; exact w3_152, w3_56, w3_54, w3_55, w3_54, w3_62⟩ ⟨by decide, by decide, by decide +kernel⟩ ho (c_X4_wantsSome h) rfl ⟨by omega, by omega⟩ hst h1 h2 hs0 K
  replace h := (if_neg ho).symm.trans h
  by_cases ho : okc S a 5 = true
  · replace h := (if_pos ho).symm.trans h
    exact r_callOi (x := ⟨"GoodsDownhill$House", "wantsSome", "(I)Z"⟩) (as := [.int b0]) hd ms_X4_wantsSome ⟨rfl, by rw [hy]; exact w3_152, w3_56, w3_54, w3_60, w3_54, w3_62⟩ ⟨by decide, by decide, by decide +kernel⟩ ho (c_X4_wantsSome h) rfl ⟨by omega, by omega⟩ hst h1 h2 hs0 K
  replace h := (if_neg ho).symm.trans h
  by_cases ho : okc S a 8 = true
  · replace h := (if_pos ho).symm.trans h
    exact r_callOi (x := ⟨"GoodsDownhill$House", "wantsSome", "(I)Z"⟩) (as := [.int b0]) hd ms_X4_wantsSome ⟨rfl, by rw [hy]; exact w3_152, w3_56, w3_54, w3_61, w3_54, w3_62⟩ ⟨by decide, by decide, by decide +kernel⟩ ho (c_X4_wantsSome h) rfl ⟨by omega, by omega⟩ hst h1 h2 hs0 K
  replace h := (if_neg ho).symm.trans h
  cases h
end
