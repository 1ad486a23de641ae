section
-- ===== PART A: goes FIRST, ahead of the names: the tables' words, and 'selects' of the private methods out of them =====
/-- a private method of a class that the tables say can be made, by its rows of tables_1 -/
def lw_okq (q : MethodName × Nat) : Prop := (q.1.cls ≠ "java/lang/invoke/MethodHandle" ∧ q.1.cls ≠ "java/lang/invoke/VarHandle") ∧ Cond.instantiable q.1.cls q.2 ∈ tables_1 ∧ Cond.privateMethod q.1 ∈ tables_1 ∧ Cond.instanceMethod q.1 ∈ tables_1
theorem jm_1 {w : Cond} (h : w ∈ tables_1_1) : w ∈ tables_1 := List.mem_append_left _ h
theorem jm_2 {w : Cond} (h : w ∈ tables_1_2) : w ∈ tables_1 := List.mem_append_right _ (List.mem_append_left _ h)
theorem jm_3 {w : Cond} (h : w ∈ tables_1_3) : w ∈ tables_1 := List.mem_append_right _ (List.mem_append_right _ (List.mem_append_left _ h))
theorem jm_4 {w : Cond} (h : w ∈ tables_1_4) : w ∈ tables_1 := List.mem_append_right _ (List.mem_append_right _ (List.mem_append_right _ (List.mem_append_left _ h)))
theorem jm_5 {w : Cond} (h : w ∈ tables_1_5) : w ∈ tables_1 := List.mem_append_right _ (List.mem_append_right _ (List.mem_append_right _ (List.mem_append_right _ (List.mem_append_left _ h))))
theorem jm_6 {w : Cond} (h : w ∈ tables_1_6) : w ∈ tables_1 := List.mem_append_right _ (List.mem_append_right _ (List.mem_append_right _ (List.mem_append_right _ (List.mem_append_right _ (List.mem_append_left _ h)))))
theorem jm_7 {w : Cond} (h : w ∈ tables_1_7) : w ∈ tables_1 := List.mem_append_right _ (List.mem_append_right _ (List.mem_append_right _ (List.mem_append_right _ (List.mem_append_right _ (List.mem_append_right _ h)))))
theorem lw_p0 : lw_okq (⟨"NineMasters$Roads", "measure", "()V"⟩, 2) := ⟨⟨by decide +kernel, by decide +kernel⟩, jm_1 (List.mem_of_getElem? (i := 108) (by decide +kernel)), jm_1 (List.mem_of_getElem? (i := 114) (by decide +kernel)), jm_1 (List.mem_of_getElem? (i := 115) (by decide +kernel))⟩
theorem lw_p1 : lw_okq (⟨"NineMasters$Guild", "draw", "()I"⟩, 3) := ⟨⟨by decide +kernel, by decide +kernel⟩, jm_1 (List.mem_of_getElem? (i := 36) (by decide +kernel)), jm_3 (List.mem_of_getElem? (i := 29) (by decide +kernel)), jm_3 (List.mem_of_getElem? (i := 30) (by decide +kernel))⟩
theorem lw_p2 : lw_okq (⟨"NineMasters$Search", "goOn", "(LNineMasters$Realm;I)V"⟩, 12) := ⟨⟨by decide +kernel, by decide +kernel⟩, jm_1 (List.mem_of_getElem? (i := 206) (by decide +kernel)), jm_3 (List.mem_of_getElem? (i := 142) (by decide +kernel)), jm_3 (List.mem_of_getElem? (i := 143) (by decide +kernel))⟩
theorem lw_p3 : lw_okq (⟨"NineMasters$Search", "offer", "(I)V"⟩, 12) := ⟨⟨by decide +kernel, by decide +kernel⟩, jm_1 (List.mem_of_getElem? (i := 206) (by decide +kernel)), jm_3 (List.mem_of_getElem? (i := 147) (by decide +kernel)), jm_3 (List.mem_of_getElem? (i := 148) (by decide +kernel))⟩
theorem lw_p4 : lw_okq (⟨"NineMasters$Search", "isBetter", "(III)Z"⟩, 12) := ⟨⟨by decide +kernel, by decide +kernel⟩, jm_1 (List.mem_of_getElem? (i := 206) (by decide +kernel)), jm_3 (List.mem_of_getElem? (i := 151) (by decide +kernel)), jm_3 (List.mem_of_getElem? (i := 152) (by decide +kernel))⟩
theorem lw_p5 : lw_okq (⟨"NineMasters$Search", "tryMaster", "(LNineMasters$Realm;IILNineMasters$Master;)V"⟩, 12) := ⟨⟨by decide +kernel, by decide +kernel⟩, jm_1 (List.mem_of_getElem? (i := 206) (by decide +kernel)), jm_3 (List.mem_of_getElem? (i := 157) (by decide +kernel)), jm_3 (List.mem_of_getElem? (i := 158) (by decide +kernel))⟩
theorem lw_p6 : lw_okq (⟨"NineMasters$Search", "keptOf", "(III)I"⟩, 12) := ⟨⟨by decide +kernel, by decide +kernel⟩, jm_1 (List.mem_of_getElem? (i := 206) (by decide +kernel)), jm_3 (List.mem_of_getElem? (i := 162) (by decide +kernel)), jm_3 (List.mem_of_getElem? (i := 163) (by decide +kernel))⟩
theorem lw_p7 : lw_okq (⟨"NineMasters$Search", "daysTaken", "(LNineMasters$Realm;ILNineMasters$Master;I)I"⟩, 12) := ⟨⟨by decide +kernel, by decide +kernel⟩, jm_1 (List.mem_of_getElem? (i := 206) (by decide +kernel)), jm_3 (List.mem_of_getElem? (i := 167) (by decide +kernel)), jm_3 (List.mem_of_getElem? (i := 168) (by decide +kernel))⟩
theorem lw_p8 : lw_okq (⟨"NineMasters", "findSheet", "(I)LNineMasters$Sheet;"⟩, 10) := ⟨⟨by decide +kernel, by decide +kernel⟩, jm_1 (List.mem_of_getElem? (i := 22) (by decide +kernel)), jm_4 (List.mem_of_getElem? (i := 7) (by decide +kernel)), jm_4 (List.mem_of_getElem? (i := 8) (by decide +kernel))⟩
theorem lw_p9 : lw_okq (⟨"NineMasters$Tape", "step", "()V"⟩, 10) := ⟨⟨by decide +kernel, by decide +kernel⟩, jm_2 (List.mem_of_getElem? (i := 12) (by decide +kernel)), jm_4 (List.mem_of_getElem? (i := 68) (by decide +kernel)), jm_4 (List.mem_of_getElem? (i := 69) (by decide +kernel))⟩
theorem lw_p10 : lw_okq (⟨"NineMasters$Tape", "byteAt", "(I)I"⟩, 10) := ⟨⟨by decide +kernel, by decide +kernel⟩, jm_2 (List.mem_of_getElem? (i := 12) (by decide +kernel)), jm_4 (List.mem_of_getElem? (i := 72) (by decide +kernel)), jm_4 (List.mem_of_getElem? (i := 73) (by decide +kernel))⟩
theorem lw_p11 : lw_okq (⟨"NineMasters$Tape", "sortAt", "(I)I"⟩, 10) := ⟨⟨by decide +kernel, by decide +kernel⟩, jm_2 (List.mem_of_getElem? (i := 12) (by decide +kernel)), jm_4 (List.mem_of_getElem? (i := 76) (by decide +kernel)), jm_4 (List.mem_of_getElem? (i := 77) (by decide +kernel))⟩
theorem lw_p12 : lw_okq (⟨"NineMasters$Tape", "keyInHand", "()I"⟩, 10) := ⟨⟨by decide +kernel, by decide +kernel⟩, jm_2 (List.mem_of_getElem? (i := 12) (by decide +kernel)), jm_4 (List.mem_of_getElem? (i := 80) (by decide +kernel)), jm_4 (List.mem_of_getElem? (i := 81) (by decide +kernel))⟩
theorem lw_p13 : lw_okq (⟨"NineMasters$Tape", "isWordInHand", "(Ljava/lang/String;)Z"⟩, 10) := ⟨⟨by decide +kernel, by decide +kernel⟩, jm_2 (List.mem_of_getElem? (i := 12) (by decide +kernel)), jm_4 (List.mem_of_getElem? (i := 90) (by decide +kernel)), jm_4 (List.mem_of_getElem? (i := 91) (by decide +kernel))⟩
theorem lw_p14 : lw_okq (⟨"NineMasters$Tape", "readsChain", "(III)Z"⟩, 10) := ⟨⟨by decide +kernel, by decide +kernel⟩, jm_2 (List.mem_of_getElem? (i := 12) (by decide +kernel)), jm_4 (List.mem_of_getElem? (i := 142) (by decide +kernel)), jm_4 (List.mem_of_getElem? (i := 143) (by decide +kernel))⟩
theorem lw_p15 : lw_okq (⟨"NineMasters$Tape", "readsPiece", "(II)Z"⟩, 10) := ⟨⟨by decide +kernel, by decide +kernel⟩, jm_2 (List.mem_of_getElem? (i := 12) (by decide +kernel)), jm_4 (List.mem_of_getElem? (i := 146) (by decide +kernel)), jm_4 (List.mem_of_getElem? (i := 147) (by decide +kernel))⟩
def lw_privs_1 : List (MethodName × Nat) := [(⟨"NineMasters$Roads", "measure", "()V"⟩, 2), (⟨"NineMasters$Guild", "draw", "()I"⟩, 3), (⟨"NineMasters$Search", "goOn", "(LNineMasters$Realm;I)V"⟩, 12), (⟨"NineMasters$Search", "offer", "(I)V"⟩, 12), (⟨"NineMasters$Search", "isBetter", "(III)Z"⟩, 12), (⟨"NineMasters$Search", "tryMaster", "(LNineMasters$Realm;IILNineMasters$Master;)V"⟩, 12), (⟨"NineMasters$Search", "keptOf", "(III)I"⟩, 12), (⟨"NineMasters$Search", "daysTaken", "(LNineMasters$Realm;ILNineMasters$Master;I)I"⟩, 12), (⟨"NineMasters", "findSheet", "(I)LNineMasters$Sheet;"⟩, 10), (⟨"NineMasters$Tape", "step", "()V"⟩, 10), (⟨"NineMasters$Tape", "byteAt", "(I)I"⟩, 10), (⟨"NineMasters$Tape", "sortAt", "(I)I"⟩, 10), (⟨"NineMasters$Tape", "keyInHand", "()I"⟩, 10), (⟨"NineMasters$Tape", "isWordInHand", "(Ljava/lang/String;)Z"⟩, 10), (⟨"NineMasters$Tape", "readsChain", "(III)Z"⟩, 10), (⟨"NineMasters$Tape", "readsPiece", "(II)Z"⟩, 10)]
theorem lw_r1 : ∀ q ∈ lw_privs_1, lw_okq q := List.forall_mem_cons.mpr ⟨lw_p0, List.forall_mem_cons.mpr ⟨lw_p1, List.forall_mem_cons.mpr ⟨lw_p2, List.forall_mem_cons.mpr ⟨lw_p3, List.forall_mem_cons.mpr ⟨lw_p4, List.forall_mem_cons.mpr ⟨lw_p5, List.forall_mem_cons.mpr ⟨lw_p6, List.forall_mem_cons.mpr ⟨lw_p7, List.forall_mem_cons.mpr ⟨lw_p8, List.forall_mem_cons.mpr ⟨lw_p9, List.forall_mem_cons.mpr ⟨lw_p10, List.forall_mem_cons.mpr ⟨lw_p11, List.forall_mem_cons.mpr ⟨lw_p12, List.forall_mem_cons.mpr ⟨lw_p13, List.forall_mem_cons.mpr ⟨lw_p14, List.forall_mem_cons.mpr ⟨lw_p15, fun _ h => absurd h List.not_mem_nil⟩⟩⟩⟩⟩⟩⟩⟩⟩⟩⟩⟩⟩⟩⟩⟩
theorem lw_p16 : lw_okq (⟨"NineMasters$Tape", "readsOperand", "()Z"⟩, 10) := ⟨⟨by decide +kernel, by decide +kernel⟩, jm_2 (List.mem_of_getElem? (i := 12) (by decide +kernel)), jm_4 (List.mem_of_getElem? (i := 150) (by decide +kernel)), jm_4 (List.mem_of_getElem? (i := 151) (by decide +kernel))⟩
theorem lw_p17 : lw_okq (⟨"NineMasters$Tape", "numberInHand", "()I"⟩, 10) := ⟨⟨by decide +kernel, by decide +kernel⟩, jm_2 (List.mem_of_getElem? (i := 12) (by decide +kernel)), jm_4 (List.mem_of_getElem? (i := 154) (by decide +kernel)), jm_4 (List.mem_of_getElem? (i := 155) (by decide +kernel))⟩
theorem lw_p18 : lw_okq (⟨"NineMasters$Tape", "nameInHand", "()I"⟩, 10) := ⟨⟨by decide +kernel, by decide +kernel⟩, jm_2 (List.mem_of_getElem? (i := 12) (by decide +kernel)), jm_4 (List.mem_of_getElem? (i := 158) (by decide +kernel)), jm_4 (List.mem_of_getElem? (i := 159) (by decide +kernel))⟩
theorem lw_p19 : lw_okq (⟨"NineMasters$Tape", "write", "(I)V"⟩, 10) := ⟨⟨by decide +kernel, by decide +kernel⟩, jm_2 (List.mem_of_getElem? (i := 12) (by decide +kernel)), jm_4 (List.mem_of_getElem? (i := 223) (by decide +kernel)), jm_4 (List.mem_of_getElem? (i := 224) (by decide +kernel))⟩
theorem lw_p20 : lw_okq (⟨"NineMasters$Tape", "isInHand", "(C)Z"⟩, 10) := ⟨⟨by decide +kernel, by decide +kernel⟩, jm_2 (List.mem_of_getElem? (i := 12) (by decide +kernel)), jm_4 (List.mem_of_getElem? (i := 227) (by decide +kernel)), jm_4 (List.mem_of_getElem? (i := 228) (by decide +kernel))⟩
theorem lw_p21 : lw_okq (⟨"NineMasters$Tape", "levelInHand", "()I"⟩, 10) := ⟨⟨by decide +kernel, by decide +kernel⟩, jm_2 (List.mem_of_getElem? (i := 12) (by decide +kernel)), jm_4 (List.mem_of_getElem? (i := 231) (by decide +kernel)), jm_4 (List.mem_of_getElem? (i := 232) (by decide +kernel))⟩
theorem lw_p22 : lw_okq (⟨"NineMasters", "findSlot", "(I)LNineMasters$Slot;"⟩, 10) := ⟨⟨by decide +kernel, by decide +kernel⟩, jm_1 (List.mem_of_getElem? (i := 22) (by decide +kernel)), jm_5 (List.mem_of_getElem? (i := 80) (by decide +kernel)), jm_5 (List.mem_of_getElem? (i := 81) (by decide +kernel))⟩
theorem lw_p23 : lw_okq (⟨"NineMasters", "layMaster", "(LNineMasters$Slot;I)I"⟩, 10) := ⟨⟨by decide +kernel, by decide +kernel⟩, jm_1 (List.mem_of_getElem? (i := 22) (by decide +kernel)), jm_5 (List.mem_of_getElem? (i := 84) (by decide +kernel)), jm_5 (List.mem_of_getElem? (i := 85) (by decide +kernel))⟩
theorem lw_p24 : lw_okq (⟨"NineMasters", "laySheet", "(LNineMasters$Slot;I)I"⟩, 10) := ⟨⟨by decide +kernel, by decide +kernel⟩, jm_1 (List.mem_of_getElem? (i := 22) (by decide +kernel)), jm_5 (List.mem_of_getElem? (i := 89) (by decide +kernel)), jm_5 (List.mem_of_getElem? (i := 90) (by decide +kernel))⟩
theorem lw_p25 : lw_okq (⟨"NineMasters", "isWaiting", "(III)Z"⟩, 10) := ⟨⟨by decide +kernel, by decide +kernel⟩, jm_1 (List.mem_of_getElem? (i := 22) (by decide +kernel)), jm_5 (List.mem_of_getElem? (i := 119) (by decide +kernel)), jm_5 (List.mem_of_getElem? (i := 120) (by decide +kernel))⟩
theorem lw_p26 : lw_okq (⟨"NineMastersModel", "comes", "(IIII)V"⟩, 36) := ⟨⟨by decide +kernel, by decide +kernel⟩, jm_5 (List.mem_of_getElem? (i := 155) (by decide +kernel)), jm_6 (List.mem_of_getElem? (i := 47) (by decide +kernel)), jm_6 (List.mem_of_getElem? (i := 48) (by decide +kernel))⟩
theorem lw_p27 : lw_okq (⟨"NineMastersModel", "isMaster", "(I)Z"⟩, 36) := ⟨⟨by decide +kernel, by decide +kernel⟩, jm_5 (List.mem_of_getElem? (i := 155) (by decide +kernel)), jm_6 (List.mem_of_getElem? (i := 55) (by decide +kernel)), jm_6 (List.mem_of_getElem? (i := 56) (by decide +kernel))⟩
theorem lw_p28 : lw_okq (⟨"NineMastersModel", "of", "(II)I"⟩, 36) := ⟨⟨by decide +kernel, by decide +kernel⟩, jm_5 (List.mem_of_getElem? (i := 155) (by decide +kernel)), jm_6 (List.mem_of_getElem? (i := 60) (by decide +kernel)), jm_6 (List.mem_of_getElem? (i := 61) (by decide +kernel))⟩
theorem lw_p29 : lw_okq (⟨"NineMastersModel", "takes", "(II)I"⟩, 36) := ⟨⟨by decide +kernel, by decide +kernel⟩, jm_5 (List.mem_of_getElem? (i := 155) (by decide +kernel)), jm_6 (List.mem_of_getElem? (i := 67) (by decide +kernel)), jm_6 (List.mem_of_getElem? (i := 68) (by decide +kernel))⟩
theorem lw_p30 : lw_okq (⟨"NineMastersModel", "counts", "(I)I"⟩, 36) := ⟨⟨by decide +kernel, by decide +kernel⟩, jm_5 (List.mem_of_getElem? (i := 155) (by decide +kernel)), jm_6 (List.mem_of_getElem? (i := 71) (by decide +kernel)), jm_6 (List.mem_of_getElem? (i := 72) (by decide +kernel))⟩
theorem lw_p31 : lw_okq (⟨"NineMastersModel", "textAt", "(I)I"⟩, 36) := ⟨⟨by decide +kernel, by decide +kernel⟩, jm_5 (List.mem_of_getElem? (i := 155) (by decide +kernel)), jm_6 (List.mem_of_getElem? (i := 75) (by decide +kernel)), jm_6 (List.mem_of_getElem? (i := 76) (by decide +kernel))⟩
def lw_privs_2 : List (MethodName × Nat) := [(⟨"NineMasters$Tape", "readsOperand", "()Z"⟩, 10), (⟨"NineMasters$Tape", "numberInHand", "()I"⟩, 10), (⟨"NineMasters$Tape", "nameInHand", "()I"⟩, 10), (⟨"NineMasters$Tape", "write", "(I)V"⟩, 10), (⟨"NineMasters$Tape", "isInHand", "(C)Z"⟩, 10), (⟨"NineMasters$Tape", "levelInHand", "()I"⟩, 10), (⟨"NineMasters", "findSlot", "(I)LNineMasters$Slot;"⟩, 10), (⟨"NineMasters", "layMaster", "(LNineMasters$Slot;I)I"⟩, 10), (⟨"NineMasters", "laySheet", "(LNineMasters$Slot;I)I"⟩, 10), (⟨"NineMasters", "isWaiting", "(III)Z"⟩, 10), (⟨"NineMastersModel", "comes", "(IIII)V"⟩, 36), (⟨"NineMastersModel", "isMaster", "(I)Z"⟩, 36), (⟨"NineMastersModel", "of", "(II)I"⟩, 36), (⟨"NineMastersModel", "takes", "(II)I"⟩, 36), (⟨"NineMastersModel", "counts", "(I)I"⟩, 36), (⟨"NineMastersModel", "textAt", "(I)I"⟩, 36)]
theorem lw_r2 : ∀ q ∈ lw_privs_2, lw_okq q := List.forall_mem_cons.mpr ⟨lw_p16, List.forall_mem_cons.mpr ⟨lw_p17, List.forall_mem_cons.mpr ⟨lw_p18, List.forall_mem_cons.mpr ⟨lw_p19, List.forall_mem_cons.mpr ⟨lw_p20, List.forall_mem_cons.mpr ⟨lw_p21, List.forall_mem_cons.mpr ⟨lw_p22, List.forall_mem_cons.mpr ⟨lw_p23, List.forall_mem_cons.mpr ⟨lw_p24, List.forall_mem_cons.mpr ⟨lw_p25, List.forall_mem_cons.mpr ⟨lw_p26, List.forall_mem_cons.mpr ⟨lw_p27, List.forall_mem_cons.mpr ⟨lw_p28, List.forall_mem_cons.mpr ⟨lw_p29, List.forall_mem_cons.mpr ⟨lw_p30, List.forall_mem_cons.mpr ⟨lw_p31, fun _ h => absurd h List.not_mem_nil⟩⟩⟩⟩⟩⟩⟩⟩⟩⟩⟩⟩⟩⟩⟩⟩
theorem lw_p32 : lw_okq (⟨"NineMastersModel", "worked", "(I)I"⟩, 36) := ⟨⟨by decide +kernel, by decide +kernel⟩, jm_5 (List.mem_of_getElem? (i := 155) (by decide +kernel)), jm_6 (List.mem_of_getElem? (i := 79) (by decide +kernel)), jm_6 (List.mem_of_getElem? (i := 80) (by decide +kernel))⟩
theorem lw_p33 : lw_okq (⟨"NineMastersModel", "worth", "(I)I"⟩, 36) := ⟨⟨by decide +kernel, by decide +kernel⟩, jm_5 (List.mem_of_getElem? (i := 155) (by decide +kernel)), jm_6 (List.mem_of_getElem? (i := 89) (by decide +kernel)), jm_6 (List.mem_of_getElem? (i := 90) (by decide +kernel))⟩
theorem lw_p34 : lw_okq (⟨"NineMastersModel", "teaches", "(II)Z"⟩, 36) := ⟨⟨by decide +kernel, by decide +kernel⟩, jm_5 (List.mem_of_getElem? (i := 155) (by decide +kernel)), jm_6 (List.mem_of_getElem? (i := 93) (by decide +kernel)), jm_6 (List.mem_of_getElem? (i := 94) (by decide +kernel))⟩
theorem lw_p35 : lw_okq (⟨"NineMastersModel", "becomes", "(II)I"⟩, 36) := ⟨⟨by decide +kernel, by decide +kernel⟩, jm_5 (List.mem_of_getElem? (i := 155) (by decide +kernel)), jm_6 (List.mem_of_getElem? (i := 109) (by decide +kernel)), jm_6 (List.mem_of_getElem? (i := 110) (by decide +kernel))⟩
theorem lw_p36 : lw_okq (⟨"NineMastersModel", "findFar", "()V"⟩, 36) := ⟨⟨by decide +kernel, by decide +kernel⟩, jm_5 (List.mem_of_getElem? (i := 155) (by decide +kernel)), jm_6 (List.mem_of_getElem? (i := 131) (by decide +kernel)), jm_6 (List.mem_of_getElem? (i := 132) (by decide +kernel))⟩
theorem lw_p37 : lw_okq (⟨"NineMastersModel", "drawn", "()I"⟩, 36) := ⟨⟨by decide +kernel, by decide +kernel⟩, jm_5 (List.mem_of_getElem? (i := 155) (by decide +kernel)), jm_6 (List.mem_of_getElem? (i := 140) (by decide +kernel)), jm_6 (List.mem_of_getElem? (i := 141) (by decide +kernel))⟩
theorem lw_p38 : lw_okq (⟨"NineMastersModel", "doesKnow", "(I)Z"⟩, 36) := ⟨⟨by decide +kernel, by decide +kernel⟩, jm_5 (List.mem_of_getElem? (i := 155) (by decide +kernel)), jm_6 (List.mem_of_getElem? (i := 164) (by decide +kernel)), jm_6 (List.mem_of_getElem? (i := 165) (by decide +kernel))⟩
theorem lw_p39 : lw_okq (⟨"NineMastersModel", "goesBy", "(I)V"⟩, 36) := ⟨⟨by decide +kernel, by decide +kernel⟩, jm_5 (List.mem_of_getElem? (i := 155) (by decide +kernel)), jm_6 (List.mem_of_getElem? (i := 173) (by decide +kernel)), jm_6 (List.mem_of_getElem? (i := 174) (by decide +kernel))⟩
theorem lw_p40 : lw_okq (⟨"NineMastersModel", "canLearn", "(I)Z"⟩, 36) := ⟨⟨by decide +kernel, by decide +kernel⟩, jm_5 (List.mem_of_getElem? (i := 155) (by decide +kernel)), jm_6 (List.mem_of_getElem? (i := 181) (by decide +kernel)), jm_6 (List.mem_of_getElem? (i := 182) (by decide +kernel))⟩
theorem lw_p41 : lw_okq (⟨"NineMastersModel", "learns", "(I)I"⟩, 36) := ⟨⟨by decide +kernel, by decide +kernel⟩, jm_5 (List.mem_of_getElem? (i := 155) (by decide +kernel)), jm_6 (List.mem_of_getElem? (i := 185) (by decide +kernel)), jm_6 (List.mem_of_getElem? (i := 186) (by decide +kernel))⟩
theorem lw_p42 : lw_okq (⟨"NineMastersModel", "behindLesson", "(II)I"⟩, 36) := ⟨⟨by decide +kernel, by decide +kernel⟩, jm_5 (List.mem_of_getElem? (i := 155) (by decide +kernel)), jm_6 (List.mem_of_getElem? (i := 189) (by decide +kernel)), jm_6 (List.mem_of_getElem? (i := 190) (by decide +kernel))⟩
theorem lw_p43 : lw_okq (⟨"NineMastersModel", "uses", "(I)V"⟩, 36) := ⟨⟨by decide +kernel, by decide +kernel⟩, jm_5 (List.mem_of_getElem? (i := 155) (by decide +kernel)), jm_6 (List.mem_of_getElem? (i := 197) (by decide +kernel)), jm_6 (List.mem_of_getElem? (i := 198) (by decide +kernel))⟩
theorem lw_p44 : lw_okq (⟨"NineMastersModel", "can", "()Z"⟩, 36) := ⟨⟨by decide +kernel, by decide +kernel⟩, jm_5 (List.mem_of_getElem? (i := 155) (by decide +kernel)), jm_6 (List.mem_of_getElem? (i := 218) (by decide +kernel)), jm_6 (List.mem_of_getElem? (i := 219) (by decide +kernel))⟩
theorem lw_p45 : lw_okq (⟨"NineMastersModel", "findSoonest", "()V"⟩, 36) := ⟨⟨by decide +kernel, by decide +kernel⟩, jm_5 (List.mem_of_getElem? (i := 155) (by decide +kernel)), jm_6 (List.mem_of_getElem? (i := 226) (by decide +kernel)), jm_6 (List.mem_of_getElem? (i := 227) (by decide +kernel))⟩
theorem lw_p46 : lw_okq (⟨"NineMastersModel", "laysBy", "()V"⟩, 36) := ⟨⟨by decide +kernel, by decide +kernel⟩, jm_5 (List.mem_of_getElem? (i := 155) (by decide +kernel)), jm_6 (List.mem_of_getElem? (i := 230) (by decide +kernel)), jm_6 (List.mem_of_getElem? (i := 231) (by decide +kernel))⟩
theorem lw_p47 : lw_okq (⟨"NineMastersModel", "goesWay", "()I"⟩, 36) := ⟨⟨by decide +kernel, by decide +kernel⟩, jm_5 (List.mem_of_getElem? (i := 155) (by decide +kernel)), jm_6 (List.mem_of_getElem? (i := 234) (by decide +kernel)), jm_6 (List.mem_of_getElem? (i := 235) (by decide +kernel))⟩
def lw_privs_3 : List (MethodName × Nat) := [(⟨"NineMastersModel", "worked", "(I)I"⟩, 36), (⟨"NineMastersModel", "worth", "(I)I"⟩, 36), (⟨"NineMastersModel", "teaches", "(II)Z"⟩, 36), (⟨"NineMastersModel", "becomes", "(II)I"⟩, 36), (⟨"NineMastersModel", "findFar", "()V"⟩, 36), (⟨"NineMastersModel", "drawn", "()I"⟩, 36), (⟨"NineMastersModel", "doesKnow", "(I)Z"⟩, 36), (⟨"NineMastersModel", "goesBy", "(I)V"⟩, 36), (⟨"NineMastersModel", "canLearn", "(I)Z"⟩, 36), (⟨"NineMastersModel", "learns", "(I)I"⟩, 36), (⟨"NineMastersModel", "behindLesson", "(II)I"⟩, 36), (⟨"NineMastersModel", "uses", "(I)V"⟩, 36), (⟨"NineMastersModel", "can", "()Z"⟩, 36), (⟨"NineMastersModel", "findSoonest", "()V"⟩, 36), (⟨"NineMastersModel", "laysBy", "()V"⟩, 36), (⟨"NineMastersModel", "goesWay", "()I"⟩, 36)]
theorem lw_r3 : ∀ q ∈ lw_privs_3, lw_okq q := List.forall_mem_cons.mpr ⟨lw_p32, List.forall_mem_cons.mpr ⟨lw_p33, List.forall_mem_cons.mpr ⟨lw_p34, List.forall_mem_cons.mpr ⟨lw_p35, List.forall_mem_cons.mpr ⟨lw_p36, List.forall_mem_cons.mpr ⟨lw_p37, List.forall_mem_cons.mpr ⟨lw_p38, List.forall_mem_cons.mpr ⟨lw_p39, List.forall_mem_cons.mpr ⟨lw_p40, List.forall_mem_cons.mpr ⟨lw_p41, List.forall_mem_cons.mpr ⟨lw_p42, List.forall_mem_cons.mpr ⟨lw_p43, List.forall_mem_cons.mpr ⟨lw_p44, List.forall_mem_cons.mpr ⟨lw_p45, List.forall_mem_cons.mpr ⟨lw_p46, List.forall_mem_cons.mpr ⟨lw_p47, fun _ h => absurd h List.not_mem_nil⟩⟩⟩⟩⟩⟩⟩⟩⟩⟩⟩⟩⟩⟩⟩⟩
theorem lw_p48 : lw_okq (⟨"NineMastersModel", "laysBack", "()V"⟩, 36) := ⟨⟨by decide +kernel, by decide +kernel⟩, jm_5 (List.mem_of_getElem? (i := 155) (by decide +kernel)), jm_6 (List.mem_of_getElem? (i := 238) (by decide +kernel)), jm_6 (List.mem_of_getElem? (i := 239) (by decide +kernel))⟩
theorem lw_p49 : lw_okq (⟨"NineMastersModel", "areTogether", "(I)Z"⟩, 36) := ⟨⟨by decide +kernel, by decide +kernel⟩, jm_5 (List.mem_of_getElem? (i := 155) (by decide +kernel)), jm_7 (List.mem_of_getElem? (i := 7) (by decide +kernel)), jm_7 (List.mem_of_getElem? (i := 8) (by decide +kernel))⟩
theorem lw_p50 : lw_okq (⟨"NineMastersModel", "taughtNow", "()I"⟩, 36) := ⟨⟨by decide +kernel, by decide +kernel⟩, jm_5 (List.mem_of_getElem? (i := 155) (by decide +kernel)), jm_7 (List.mem_of_getElem? (i := 15) (by decide +kernel)), jm_7 (List.mem_of_getElem? (i := 16) (by decide +kernel))⟩
theorem lw_p51 : lw_okq (⟨"NineMastersModel", "year", "()I"⟩, 36) := ⟨⟨by decide +kernel, by decide +kernel⟩, jm_5 (List.mem_of_getElem? (i := 155) (by decide +kernel)), jm_7 (List.mem_of_getElem? (i := 28) (by decide +kernel)), jm_7 (List.mem_of_getElem? (i := 29) (by decide +kernel))⟩
theorem lw_p52 : lw_okq (⟨"NineMastersModel", "farFrom", "(I)I"⟩, 36) := ⟨⟨by decide +kernel, by decide +kernel⟩, jm_5 (List.mem_of_getElem? (i := 155) (by decide +kernel)), jm_7 (List.mem_of_getElem? (i := 40) (by decide +kernel)), jm_7 (List.mem_of_getElem? (i := 41) (by decide +kernel))⟩
theorem lw_p53 : lw_okq (⟨"NineMastersModel", "parse", "()I"⟩, 36) := ⟨⟨by decide +kernel, by decide +kernel⟩, jm_5 (List.mem_of_getElem? (i := 155) (by decide +kernel)), jm_7 (List.mem_of_getElem? (i := 64) (by decide +kernel)), jm_7 (List.mem_of_getElem? (i := 65) (by decide +kernel))⟩
theorem lw_p54 : lw_okq (⟨"NineMastersModel", "nextToken", "()V"⟩, 36) := ⟨⟨by decide +kernel, by decide +kernel⟩, jm_5 (List.mem_of_getElem? (i := 155) (by decide +kernel)), jm_7 (List.mem_of_getElem? (i := 68) (by decide +kernel)), jm_7 (List.mem_of_getElem? (i := 69) (by decide +kernel))⟩
theorem lw_p55 : lw_okq (⟨"NineMastersModel", "isLetter", "(I)Z"⟩, 36) := ⟨⟨by decide +kernel, by decide +kernel⟩, jm_5 (List.mem_of_getElem? (i := 155) (by decide +kernel)), jm_7 (List.mem_of_getElem? (i := 72) (by decide +kernel)), jm_7 (List.mem_of_getElem? (i := 73) (by decide +kernel))⟩
theorem lw_p56 : lw_okq (⟨"NineMastersModel", "isDigit", "(I)Z"⟩, 36) := ⟨⟨by decide +kernel, by decide +kernel⟩, jm_5 (List.mem_of_getElem? (i := 155) (by decide +kernel)), jm_7 (List.mem_of_getElem? (i := 78) (by decide +kernel)), jm_7 (List.mem_of_getElem? (i := 79) (by decide +kernel))⟩
theorem lw_p57 : lw_okq (⟨"NineMastersModel", "key", "()I"⟩, 36) := ⟨⟨by decide +kernel, by decide +kernel⟩, jm_5 (List.mem_of_getElem? (i := 155) (by decide +kernel)), jm_7 (List.mem_of_getElem? (i := 84) (by decide +kernel)), jm_7 (List.mem_of_getElem? (i := 85) (by decide +kernel))⟩
theorem lw_p58 : lw_okq (⟨"NineMastersModel", "isWordAt", "(IIII)Z"⟩, 36) := ⟨⟨by decide +kernel, by decide +kernel⟩, jm_5 (List.mem_of_getElem? (i := 155) (by decide +kernel)), jm_7 (List.mem_of_getElem? (i := 88) (by decide +kernel)), jm_7 (List.mem_of_getElem? (i := 89) (by decide +kernel))⟩
theorem lw_p59 : lw_okq (⟨"NineMastersModel", "either", "(I)Z"⟩, 36) := ⟨⟨by decide +kernel, by decide +kernel⟩, jm_5 (List.mem_of_getElem? (i := 155) (by decide +kernel)), jm_7 (List.mem_of_getElem? (i := 92) (by decide +kernel)), jm_7 (List.mem_of_getElem? (i := 93) (by decide +kernel))⟩
theorem lw_p60 : lw_okq (⟨"NineMastersModel", "both", "(I)Z"⟩, 36) := ⟨⟨by decide +kernel, by decide +kernel⟩, jm_5 (List.mem_of_getElem? (i := 155) (by decide +kernel)), jm_7 (List.mem_of_getElem? (i := 96) (by decide +kernel)), jm_7 (List.mem_of_getElem? (i := 97) (by decide +kernel))⟩
theorem lw_p61 : lw_okq (⟨"NineMastersModel", "test", "(I)Z"⟩, 36) := ⟨⟨by decide +kernel, by decide +kernel⟩, jm_5 (List.mem_of_getElem? (i := 155) (by decide +kernel)), jm_7 (List.mem_of_getElem? (i := 100) (by decide +kernel)), jm_7 (List.mem_of_getElem? (i := 101) (by decide +kernel))⟩
theorem lw_p62 : lw_okq (⟨"NineMastersModel", "sum", "(I)Z"⟩, 36) := ⟨⟨by decide +kernel, by decide +kernel⟩, jm_5 (List.mem_of_getElem? (i := 155) (by decide +kernel)), jm_7 (List.mem_of_getElem? (i := 104) (by decide +kernel)), jm_7 (List.mem_of_getElem? (i := 105) (by decide +kernel))⟩
theorem lw_p63 : lw_okq (⟨"NineMastersModel", "term", "(I)Z"⟩, 36) := ⟨⟨by decide +kernel, by decide +kernel⟩, jm_5 (List.mem_of_getElem? (i := 155) (by decide +kernel)), jm_7 (List.mem_of_getElem? (i := 108) (by decide +kernel)), jm_7 (List.mem_of_getElem? (i := 109) (by decide +kernel))⟩
def lw_privs_4 : List (MethodName × Nat) := [(⟨"NineMastersModel", "laysBack", "()V"⟩, 36), (⟨"NineMastersModel", "areTogether", "(I)Z"⟩, 36), (⟨"NineMastersModel", "taughtNow", "()I"⟩, 36), (⟨"NineMastersModel", "year", "()I"⟩, 36), (⟨"NineMastersModel", "farFrom", "(I)I"⟩, 36), (⟨"NineMastersModel", "parse", "()I"⟩, 36), (⟨"NineMastersModel", "nextToken", "()V"⟩, 36), (⟨"NineMastersModel", "isLetter", "(I)Z"⟩, 36), (⟨"NineMastersModel", "isDigit", "(I)Z"⟩, 36), (⟨"NineMastersModel", "key", "()I"⟩, 36), (⟨"NineMastersModel", "isWordAt", "(IIII)Z"⟩, 36), (⟨"NineMastersModel", "either", "(I)Z"⟩, 36), (⟨"NineMastersModel", "both", "(I)Z"⟩, 36), (⟨"NineMastersModel", "test", "(I)Z"⟩, 36), (⟨"NineMastersModel", "sum", "(I)Z"⟩, 36), (⟨"NineMastersModel", "term", "(I)Z"⟩, 36)]
theorem lw_r4 : ∀ q ∈ lw_privs_4, lw_okq q := List.forall_mem_cons.mpr ⟨lw_p48, List.forall_mem_cons.mpr ⟨lw_p49, List.forall_mem_cons.mpr ⟨lw_p50, List.forall_mem_cons.mpr ⟨lw_p51, List.forall_mem_cons.mpr ⟨lw_p52, List.forall_mem_cons.mpr ⟨lw_p53, List.forall_mem_cons.mpr ⟨lw_p54, List.forall_mem_cons.mpr ⟨lw_p55, List.forall_mem_cons.mpr ⟨lw_p56, List.forall_mem_cons.mpr ⟨lw_p57, List.forall_mem_cons.mpr ⟨lw_p58, List.forall_mem_cons.mpr ⟨lw_p59, List.forall_mem_cons.mpr ⟨lw_p60, List.forall_mem_cons.mpr ⟨lw_p61, List.forall_mem_cons.mpr ⟨lw_p62, List.forall_mem_cons.mpr ⟨lw_p63, fun _ h => absurd h List.not_mem_nil⟩⟩⟩⟩⟩⟩⟩⟩⟩⟩⟩⟩⟩⟩⟩⟩
theorem lw_p64 : lw_okq (⟨"NineMastersModel", "part0", "(I)Z"⟩, 36) := ⟨⟨by decide +kernel, by decide +kernel⟩, jm_5 (List.mem_of_getElem? (i := 155) (by decide +kernel)), jm_7 (List.mem_of_getElem? (i := 112) (by decide +kernel)), jm_7 (List.mem_of_getElem? (i := 113) (by decide +kernel))⟩
theorem lw_p65 : lw_okq (⟨"NineMastersModel", "step", "(II)V"⟩, 36) := ⟨⟨by decide +kernel, by decide +kernel⟩, jm_5 (List.mem_of_getElem? (i := 155) (by decide +kernel)), jm_7 (List.mem_of_getElem? (i := 116) (by decide +kernel)), jm_7 (List.mem_of_getElem? (i := 117) (by decide +kernel))⟩
theorem lw_p66 : lw_okq (⟨"NineMastersModel", "isSign", "(I)Z"⟩, 36) := ⟨⟨by decide +kernel, by decide +kernel⟩, jm_5 (List.mem_of_getElem? (i := 155) (by decide +kernel)), jm_7 (List.mem_of_getElem? (i := 123) (by decide +kernel)), jm_7 (List.mem_of_getElem? (i := 124) (by decide +kernel))⟩
theorem lw_p67 : lw_okq (⟨"NineMastersModel", "isText", "(I)Z"⟩, 36) := ⟨⟨by decide +kernel, by decide +kernel⟩, jm_5 (List.mem_of_getElem? (i := 155) (by decide +kernel)), jm_7 (List.mem_of_getElem? (i := 131) (by decide +kernel)), jm_7 (List.mem_of_getElem? (i := 132) (by decide +kernel))⟩
theorem lw_p68 : lw_okq (⟨"NineMastersModel", "setAside", "([I[I)V"⟩, 36) := ⟨⟨by decide +kernel, by decide +kernel⟩, jm_5 (List.mem_of_getElem? (i := 155) (by decide +kernel)), jm_7 (List.mem_of_getElem? (i := 206) (by decide +kernel)), jm_7 (List.mem_of_getElem? (i := 207) (by decide +kernel))⟩
theorem lw_p69 : lw_okq (⟨"NineMastersModel", "allOf", "(I)I"⟩, 36) := ⟨⟨by decide +kernel, by decide +kernel⟩, jm_5 (List.mem_of_getElem? (i := 155) (by decide +kernel)), jm_7 (List.mem_of_getElem? (i := 210) (by decide +kernel)), jm_7 (List.mem_of_getElem? (i := 211) (by decide +kernel))⟩
def lw_privs_5 : List (MethodName × Nat) := [(⟨"NineMastersModel", "part0", "(I)Z"⟩, 36), (⟨"NineMastersModel", "step", "(II)V"⟩, 36), (⟨"NineMastersModel", "isSign", "(I)Z"⟩, 36), (⟨"NineMastersModel", "isText", "(I)Z"⟩, 36), (⟨"NineMastersModel", "setAside", "([I[I)V"⟩, 36), (⟨"NineMastersModel", "allOf", "(I)I"⟩, 36)]
theorem lw_r5 : ∀ q ∈ lw_privs_5, lw_okq q := List.forall_mem_cons.mpr ⟨lw_p64, List.forall_mem_cons.mpr ⟨lw_p65, List.forall_mem_cons.mpr ⟨lw_p66, List.forall_mem_cons.mpr ⟨lw_p67, List.forall_mem_cons.mpr ⟨lw_p68, List.forall_mem_cons.mpr ⟨lw_p69, fun _ h => absurd h List.not_mem_nil⟩⟩⟩⟩⟩⟩
def lw_privs : List (MethodName × Nat) := lw_privs_1 ++ (lw_privs_2 ++ (lw_privs_3 ++ (lw_privs_4 ++ (lw_privs_5))))
def lw_tbl : List Cond := k2_sels lw_privs ++ tables_1
theorem lw_privs_ok : ∀ q ∈ lw_privs, lw_okq q := by
  show ∀ q ∈ lw_privs_1 ++ (lw_privs_2 ++ (lw_privs_3 ++ (lw_privs_4 ++ (lw_privs_5)))), lw_okq q
  exact List.forall_mem_append.mpr ⟨lw_r1, List.forall_mem_append.mpr ⟨lw_r2, List.forall_mem_append.mpr ⟨lw_r3, List.forall_mem_append.mpr ⟨lw_r4, lw_r5⟩⟩⟩⟩
end
section
/-! names (program: wip/gen/names.py) -/
def RX0 : String := "NineMasters$Guild"
def TX0 : u_T := fun k => match k with
  | 0 => ("NineMasters$Guild", "masters", "[LNineMasters$Master;", true)
  | 1 => ("NineMasters$Guild", "size", "I", false)
  | _ => ("NineMasters$Guild", "z", "I", false)
def tyX0 : Nat → FieldType := fun k => match k with
  | 0 => .array (.object "NineMasters$Master")
  | 1 => .int
  | _ => .int
theorem nmX0 : ∀ a, a < 3 → ∀ b, b < 3 → a ≠ b → (TX0 a).2.1 ≠ (TX0 b).2.1 := by decide +kernel
theorem tyX0_ok : ∀ k, k < 3 → parseFieldDescriptor (TX0 k).2.2.1 = some (tyX0 k) := by decide +kernel
abbrev cX0_init : ByteArray := prog_2_method_1_code
def yX0_init : MethodName := ⟨RX0, "<init>", "()V"⟩
abbrev cX0_become : ByteArray := prog_2_method_2_code
def yX0_become : MethodName := ⟨RX0, "become", "(LNineMasters$Guild;)V"⟩
abbrev cX0_find : ByteArray := prog_2_method_3_code
def yX0_find : MethodName := ⟨RX0, "find", "(I)LNineMasters$Master;"⟩
abbrev cX0_join : ByteArray := prog_2_method_4_code
def yX0_join : MethodName := ⟨RX0, "join", "(IIII)Z"⟩
abbrev cX0_joinByLot : ByteArray := prog_2_method_5_code
def yX0_joinByLot : MethodName := ⟨RX0, "joinByLot", "()V"⟩
abbrev cX0_draw : ByteArray := prog_2_method_6_code
def yX0_draw : MethodName := ⟨RX0, "draw", "()I"⟩
abbrev cX0_liveYear : ByteArray := prog_2_method_7_code
def yX0_liveYear : MethodName := ⟨RX0, "liveYear", "()V"⟩
abbrev cX0_liveYears : ByteArray := prog_2_method_8_code
def yX0_liveYears : MethodName := ⟨RX0, "liveYears", "(I)V"⟩
abbrev cX0_countDead : ByteArray := prog_2_method_9_code
def yX0_countDead : MethodName := ⟨RX0, "countDead", "()I"⟩
abbrev cX0_agesTogether : ByteArray := prog_2_method_10_code
def yX0_agesTogether : MethodName := ⟨RX0, "agesTogether", "()I"⟩
abbrev cX0_taught : ByteArray := prog_2_method_11_code
def yX0_taught : MethodName := ⟨RX0, "taught", "()I"⟩
abbrev cX0_onlyTeacher : ByteArray := prog_2_method_12_code
def yX0_onlyTeacher : MethodName := ⟨RX0, "onlyTeacher", "(I)I"⟩
abbrev cX0_canBringTogether : ByteArray := prog_2_method_13_code
def yX0_canBringTogether : MethodName := ⟨RX0, "canBringTogether", "(I)Z"⟩
abbrev cX0_leadsTo : ByteArray := prog_2_method_14_code
def yX0_leadsTo : MethodName := ⟨RX0, "leadsTo", "(LNineMasters$Guild;II)Z"⟩
abbrev cX0_helps : ByteArray := prog_2_method_15_code
def yX0_helps : MethodName := ⟨RX0, "helps", "(LNineMasters$Master;II)Z"⟩
def RX1 : String := "NineMasters$Learner"
def TX1 : u_T := fun k => match k with
  | 0 => ("NineMasters$Learner", "at", "I", false)
  | 1 => ("NineMasters$Learner", "knows", "I", false)
  | 2 => ("NineMasters$Learner", "coins", "I", false)
  | 3 => ("NineMasters$Learner", "forgets", "I", false)
  | 4 => ("NineMasters$Learner", "day", "I", false)
  | 5 => ("NineMasters$Learner", "from", "[I", true)
  | _ => ("NineMasters$Learner", "rested", "[I", true)
def tyX1 : Nat → FieldType := fun k => match k with
  | 0 => .int
  | 1 => .int
  | 2 => .int
  | 3 => .int
  | 4 => .int
  | 5 => .array .int
  | _ => .array .int
theorem nmX1 : ∀ a, a < 7 → ∀ b, b < 7 → a ≠ b → (TX1 a).2.1 ≠ (TX1 b).2.1 := by decide +kernel
theorem tyX1_ok : ∀ k, k < 7 → parseFieldDescriptor (TX1 k).2.2.1 = some (tyX1 k) := by decide +kernel
abbrev cX1_init : ByteArray := prog_3_method_1_code
def yX1_init : MethodName := ⟨RX1, "<init>", "()V"⟩
abbrev cX1_become : ByteArray := prog_3_method_2_code
def yX1_become : MethodName := ⟨RX1, "become", "(LNineMasters$Learner;)V"⟩
abbrev cX1_isAble : ByteArray := prog_3_method_3_code
def yX1_isAble : MethodName := ⟨RX1, "isAble", "(I)Z"⟩
abbrev cX1_passDays : ByteArray := prog_3_method_4_code
def yX1_passDays : MethodName := ⟨RX1, "passDays", "(I)V"⟩
abbrev cX1_canLearnOf : ByteArray := prog_3_method_5_code
def yX1_canLearnOf : MethodName := ⟨RX1, "canLearnOf", "(LNineMasters$Master;)Z"⟩
abbrev cX1_learnOf : ByteArray := prog_3_method_6_code
def yX1_learnOf : MethodName := ⟨RX1, "learnOf", "(ILNineMasters$Master;I)V"⟩
abbrev cX1_practise : ByteArray := prog_3_method_7_code
def yX1_practise : MethodName := ⟨RX1, "practise", "(I)Z"⟩
def RX2 : String := "NineMasters$Master"
def TX2 : u_T := fun k => match k with
  | 0 => ("NineMasters$Master", "kind", "I", false)
  | 1 => ("NineMasters$Master", "town", "I", false)
  | 2 => ("NineMasters$Master", "gesture", "I", false)
  | 3 => ("NineMasters$Master", "bars", "I", false)
  | 4 => ("NineMasters$Master", "fee", "I", false)
  | 5 => ("NineMasters$Master", "age", "I", false)
  | _ => ("NineMasters$Master", "dead", "Z", false)
def tyX2 : Nat → FieldType := fun k => match k with
  | 0 => .int
  | 1 => .int
  | 2 => .int
  | 3 => .int
  | 4 => .int
  | 5 => .int
  | _ => .boolean
theorem nmX2 : ∀ a, a < 7 → ∀ b, b < 7 → a ≠ b → (TX2 a).2.1 ≠ (TX2 b).2.1 := by decide +kernel
theorem tyX2_ok : ∀ k, k < 7 → parseFieldDescriptor (TX2 k).2.2.1 = some (tyX2 k) := by decide +kernel
abbrev cX2_init : ByteArray := prog_4_method_1_code
def yX2_init : MethodName := ⟨RX2, "<init>", "()V"⟩
abbrev cX2_begin : ByteArray := prog_4_method_2_code
def yX2_begin : MethodName := ⟨RX2, "begin", "(IIII)V"⟩
abbrev cX2_become : ByteArray := prog_4_method_3_code
def yX2_become : MethodName := ⟨RX2, "become", "(LNineMasters$Master;)V"⟩
abbrev cX2_isOf : ByteArray := prog_4_method_4_code
def yX2_isOf : MethodName := ⟨RX2, "isOf", "(I)Z"⟩
abbrev cX2_daysFrom : ByteArray := prog_4_method_5_code
def yX2_daysFrom : MethodName := ⟨RX2, "daysFrom", "(I)I"⟩
abbrev cX2_teaches : ByteArray := prog_4_method_6_code
def yX2_teaches : MethodName := ⟨RX2, "teaches", "(I)Z"⟩
abbrev cX2_unlearnt : ByteArray := prog_4_method_7_code
def yX2_unlearnt : MethodName := ⟨RX2, "unlearnt", "()I"⟩
abbrev cX2_worth : ByteArray := prog_4_method_8_code
def yX2_worth : MethodName := ⟨RX2, "worth", "()I"⟩
def RX3 : String := "NineMasters$Realm"
def TX3 : u_T := fun k => match k with
  | 0 => ("NineMasters$Realm", "guild", "LNineMasters$Guild;", true)
  | 1 => ("NineMasters$Realm", "roads", "LNineMasters$Roads;", true)
  | 2 => ("NineMasters$Realm", "learner", "LNineMasters$Learner;", true)
  | 3 => ("NineMasters$Realm", "wished", "[I", true)
  | 4 => ("NineMasters$Realm", "wishes", "I", false)
  | 5 => ("NineMasters$Realm", "texts", "[LNineMasters$Text;", true)
  | _ => ("NineMasters$Realm", "textCount", "I", false)
def tyX3 : Nat → FieldType := fun k => match k with
  | 0 => .object "NineMasters$Guild"
  | 1 => .object "NineMasters$Roads"
  | 2 => .object "NineMasters$Learner"
  | 3 => .array .int
  | 4 => .int
  | 5 => .array (.object "NineMasters$Text")
  | _ => .int
theorem nmX3 : ∀ a, a < 7 → ∀ b, b < 7 → a ≠ b → (TX3 a).2.1 ≠ (TX3 b).2.1 := by decide +kernel
theorem tyX3_ok : ∀ k, k < 7 → parseFieldDescriptor (TX3 k).2.2.1 = some (tyX3 k) := by decide +kernel
abbrev cX3_init : ByteArray := prog_5_method_1_code
def yX3_init : MethodName := ⟨RX3, "<init>", "()V"⟩
abbrev cX3_become : ByteArray := prog_5_method_2_code
def yX3_become : MethodName := ⟨RX3, "become", "(LNineMasters$Realm;)V"⟩
abbrev cX3_addWish : ByteArray := prog_5_method_3_code
def yX3_addWish : MethodName := ⟨RX3, "addWish", "(I)Z"⟩
abbrev cX3_wishedSet : ByteArray := prog_5_method_4_code
def yX3_wishedSet : MethodName := ⟨RX3, "wishedSet", "()I"⟩
abbrev cX3_canMakeChair : ByteArray := prog_5_method_5_code
def yX3_canMakeChair : MethodName := ⟨RX3, "canMakeChair", "()Z"⟩
abbrev cX3_makeChair : ByteArray := prog_5_method_6_code
def yX3_makeChair : MethodName := ⟨RX3, "makeChair", "()V"⟩
abbrev cX3_addText : ByteArray := prog_5_method_7_code
def yX3_addText : MethodName := ⟨RX3, "addText", "(LNineMasters$Text;)Z"⟩
abbrev cX3_findText : ByteArray := prog_5_method_8_code
def yX3_findText : MethodName := ⟨RX3, "findText", "(I)LNineMasters$Text;"⟩
abbrev cX3_numberOfLaw : ByteArray := prog_5_method_9_code
def yX3_numberOfLaw : MethodName := ⟨RX3, "numberOfLaw", "(I)I"⟩
abbrev cX3_daysTaken : ByteArray := prog_5_method_10_code
def yX3_daysTaken : MethodName := ⟨RX3, "daysTaken", "(LNineMasters$Master;I)I"⟩
abbrev cX3_fameOf : ByteArray := prog_5_method_11_code
def yX3_fameOf : MethodName := ⟨RX3, "fameOf", "(LNineMasters$Master;)I"⟩
abbrev cX3_fineNow : ByteArray := prog_5_method_12_code
def yX3_fineNow : MethodName := ⟨RX3, "fineNow", "()I"⟩
abbrev cX3_waysToMasters : ByteArray := prog_5_method_13_code
def yX3_waysToMasters : MethodName := ⟨RX3, "waysToMasters", "(I)I"⟩
abbrev cX3_apart : ByteArray := prog_5_method_14_code
def yX3_apart : MethodName := ⟨RX3, "apart", "(LNineMasters$Master;LNineMasters$Sheet;)I"⟩
def RX4 : String := "NineMasters$Roads"
def TX4 : u_T := fun k => match k with
  | 0 => ("NineMasters$Roads", "days", "[I", true)
  | _ => ("NineMasters$Roads", "ways", "[I", true)
def tyX4 : Nat → FieldType := fun k => match k with
  | 0 => .array .int
  | _ => .array .int
theorem nmX4 : ∀ a, a < 2 → ∀ b, b < 2 → a ≠ b → (TX4 a).2.1 ≠ (TX4 b).2.1 := by decide +kernel
theorem tyX4_ok : ∀ k, k < 2 → parseFieldDescriptor (TX4 k).2.2.1 = some (tyX4 k) := by decide +kernel
abbrev cX4_init : ByteArray := prog_6_method_1_code
def yX4_init : MethodName := ⟨RX4, "<init>", "()V"⟩
abbrev cX4_become : ByteArray := prog_6_method_2_code
def yX4_become : MethodName := ⟨RX4, "become", "(LNineMasters$Roads;)V"⟩
abbrev cX4_direct : ByteArray := prog_6_method_3_code
def yX4_direct : MethodName := ⟨RX4, "direct", "(II)I"⟩
abbrev cX4_fewest : ByteArray := prog_6_method_4_code
def yX4_fewest : MethodName := ⟨RX4, "fewest", "(II)I"⟩
abbrev cX4_build : ByteArray := prog_6_method_5_code
def yX4_build : MethodName := ⟨RX4, "build", "(III)V"⟩
abbrev cX4_measure : ByteArray := prog_6_method_6_code
def yX4_measure : MethodName := ⟨RX4, "measure", "()V"⟩
def RX5 : String := "NineMasters$Search"
def TX5 : u_T := fun k => match k with
  | 0 => ("NineMasters$Search", "town", "[I", true)
  | 1 => ("NineMasters$Search", "knows", "[I", true)
  | 2 => ("NineMasters$Search", "days", "[I", true)
  | 3 => ("NineMasters$Search", "paid", "[I", true)
  | 4 => ("NineMasters$Search", "first", "[I", true)
  | 5 => ("NineMasters$Search", "since", "[I", true)
  | 6 => ("NineMasters$Search", "daysKnown", "[I", true)
  | 7 => ("NineMasters$Search", "wanted", "I", false)
  | 8 => ("NineMasters$Search", "taught", "I", false)
  | 9 => ("NineMasters$Search", "bestDays", "I", false)
  | 10 => ("NineMasters$Search", "bestCoins", "I", false)
  | _ => ("NineMasters$Search", "bestFirst", "I", false)
def tyX5 : Nat → FieldType := fun k => match k with
  | 0 => .array .int
  | 1 => .array .int
  | 2 => .array .int
  | 3 => .array .int
  | 4 => .array .int
  | 5 => .array .int
  | 6 => .array .int
  | 7 => .int
  | 8 => .int
  | 9 => .int
  | 10 => .int
  | _ => .int
theorem nmX5 : ∀ a, a < 12 → ∀ b, b < 12 → a ≠ b → (TX5 a).2.1 ≠ (TX5 b).2.1 := by decide +kernel
theorem tyX5_ok : ∀ k, k < 12 → parseFieldDescriptor (TX5 k).2.2.1 = some (tyX5 k) := by decide +kernel
abbrev cX5_init : ByteArray := prog_7_method_1_code
def yX5_init : MethodName := ⟨RX5, "<init>", "()V"⟩
abbrev cX5_finds : ByteArray := prog_7_method_2_code
def yX5_finds : MethodName := ⟨RX5, "finds", "(LNineMasters$Realm;)Z"⟩
abbrev cX5_goOn : ByteArray := prog_7_method_3_code
def yX5_goOn : MethodName := ⟨RX5, "goOn", "(LNineMasters$Realm;I)V"⟩
abbrev cX5_tryMaster : ByteArray := prog_7_method_4_code
def yX5_tryMaster : MethodName := ⟨RX5, "tryMaster", "(LNineMasters$Realm;IILNineMasters$Master;)V"⟩
abbrev cX5_keptOf : ByteArray := prog_7_method_5_code
def yX5_keptOf : MethodName := ⟨RX5, "keptOf", "(III)I"⟩
abbrev cX5_daysTaken : ByteArray := prog_7_method_6_code
def yX5_daysTaken : MethodName := ⟨RX5, "daysTaken", "(LNineMasters$Realm;ILNineMasters$Master;I)I"⟩
abbrev cX5_offer : ByteArray := prog_7_method_7_code
def yX5_offer : MethodName := ⟨RX5, "offer", "(I)V"⟩
abbrev cX5_isBetter : ByteArray := prog_7_method_8_code
def yX5_isBetter : MethodName := ⟨RX5, "isBetter", "(III)Z"⟩
def RX6 : String := "NineMasters$Sheet"
def TX6 : u_T := fun k => match k with
  | 0 => ("NineMasters$Sheet", "sort", "I", false)
  | 1 => ("NineMasters$Sheet", "size", "I", false)
  | _ => ("NineMasters$Sheet", "places", "[I", true)
def tyX6 : Nat → FieldType := fun k => match k with
  | 0 => .int
  | 1 => .int
  | _ => .array .int
theorem nmX6 : ∀ a, a < 3 → ∀ b, b < 3 → a ≠ b → (TX6 a).2.1 ≠ (TX6 b).2.1 := by decide +kernel
theorem tyX6_ok : ∀ k, k < 3 → parseFieldDescriptor (TX6 k).2.2.1 = some (tyX6 k) := by decide +kernel
abbrev cX6_init : ByteArray := prog_8_method_1_code
def yX6_init : MethodName := ⟨RX6, "<init>", "()V"⟩
abbrev cX6_begin : ByteArray := prog_8_method_2_code
def yX6_begin : MethodName := ⟨RX6, "begin", "(II)V"⟩
abbrev cX6_become : ByteArray := prog_8_method_3_code
def yX6_become : MethodName := ⟨RX6, "become", "(LNineMasters$Sheet;)V"⟩
abbrev cX6_hasPlace : ByteArray := prog_8_method_4_code
def yX6_hasPlace : MethodName := ⟨RX6, "hasPlace", "(I)Z"⟩
abbrev cX6_hasPlaces : ByteArray := prog_8_method_5_code
def yX6_hasPlaces : MethodName := ⟨RX6, "hasPlaces", "(II)Z"⟩
abbrev cX6_isNumber : ByteArray := prog_8_method_6_code
def yX6_isNumber : MethodName := ⟨RX6, "isNumber", "(I)Z"⟩
def RX7 : String := "NineMasters$Slot"
def TX7 : u_T := fun k => match k with
  | 0 => ("NineMasters$Slot", "thing", "I", false)
  | 1 => ("NineMasters$Slot", "master", "LNineMasters$Master;", true)
  | 2 => ("NineMasters$Slot", "sheet", "LNineMasters$Sheet;", true)
  | _ => ("NineMasters$Slot", "number", "I", false)
def tyX7 : Nat → FieldType := fun k => match k with
  | 0 => .int
  | 1 => .object "NineMasters$Master"
  | 2 => .object "NineMasters$Sheet"
  | _ => .int
theorem nmX7 : ∀ a, a < 4 → ∀ b, b < 4 → a ≠ b → (TX7 a).2.1 ≠ (TX7 b).2.1 := by decide +kernel
theorem tyX7_ok : ∀ k, k < 4 → parseFieldDescriptor (TX7 k).2.2.1 = some (tyX7 k) := by decide +kernel
abbrev cX7_init : ByteArray := prog_9_method_1_code
def yX7_init : MethodName := ⟨RX7, "<init>", "()V"⟩
def RX8 : String := "NineMasters$Tape"
def TX8 : u_T := fun k => match k with
  | 0 => ("NineMasters$Tape", "bytes", "[I", true)
  | 1 => ("NineMasters$Tape", "size", "I", false)
  | 2 => ("NineMasters$Tape", "start", "I", false)
  | 3 => ("NineMasters$Tape", "end", "I", false)
  | 4 => ("NineMasters$Tape", "sort", "I", false)
  | 5 => ("NineMasters$Tape", "needsBlank", "Z", false)
  | 6 => ("NineMasters$Tape", "key", "I", false)
  | 7 => ("NineMasters$Tape", "operands", "I", false)
  | 8 => ("NineMasters$Tape", "code", "[I", true)
  | _ => ("NineMasters$Tape", "codeSize", "I", false)
def tyX8 : Nat → FieldType := fun k => match k with
  | 0 => .array .int
  | 1 => .int
  | 2 => .int
  | 3 => .int
  | 4 => .int
  | 5 => .boolean
  | 6 => .int
  | 7 => .int
  | 8 => .array .int
  | _ => .int
theorem nmX8 : ∀ a, a < 10 → ∀ b, b < 10 → a ≠ b → (TX8 a).2.1 ≠ (TX8 b).2.1 := by decide +kernel
theorem tyX8_ok : ∀ k, k < 10 → parseFieldDescriptor (TX8 k).2.2.1 = some (tyX8 k) := by decide +kernel
abbrev cX8_init : ByteArray := prog_10_method_1_code
def yX8_init : MethodName := ⟨RX8, "<init>", "()V"⟩
abbrev cX8_addNumber : ByteArray := prog_10_method_2_code
def yX8_addNumber : MethodName := ⟨RX8, "addNumber", "(I)V"⟩
abbrev cX8_isText : ByteArray := prog_10_method_3_code
def yX8_isText : MethodName := ⟨RX8, "isText", "()Z"⟩
abbrev cX8_textRead : ByteArray := prog_10_method_4_code
def yX8_textRead : MethodName := ⟨RX8, "textRead", "()LNineMasters$Text;"⟩
abbrev cX8_step : ByteArray := prog_10_method_5_code
def yX8_step : MethodName := ⟨RX8, "step", "()V"⟩
abbrev cX8_byteAt : ByteArray := prog_10_method_6_code
def yX8_byteAt : MethodName := ⟨RX8, "byteAt", "(I)I"⟩
abbrev cX8_sortAt : ByteArray := prog_10_method_7_code
def yX8_sortAt : MethodName := ⟨RX8, "sortAt", "(I)I"⟩
abbrev cX8_isInHand : ByteArray := prog_10_method_8_code
def yX8_isInHand : MethodName := ⟨RX8, "isInHand", "(C)Z"⟩
abbrev cX8_keyInHand : ByteArray := prog_10_method_9_code
def yX8_keyInHand : MethodName := ⟨RX8, "keyInHand", "()I"⟩
abbrev cX8_isWordInHand : ByteArray := prog_10_method_10_code
def yX8_isWordInHand : MethodName := ⟨RX8, "isWordInHand", "(Ljava/lang/String;)Z"⟩
abbrev cX8_wordOf : ByteArray := prog_10_method_11_code
def yX8_wordOf : MethodName := ⟨RX8, "wordOf", "(I)Ljava/lang/String;"⟩
abbrev cX8_namesOf : ByteArray := prog_10_method_12_code
def yX8_namesOf : MethodName := ⟨RX8, "namesOf", "(I)Ljava/lang/String;"⟩
abbrev cX8_levelInHand : ByteArray := prog_10_method_13_code
def yX8_levelInHand : MethodName := ⟨RX8, "levelInHand", "()I"⟩
abbrev cX8_readsChain : ByteArray := prog_10_method_14_code
def yX8_readsChain : MethodName := ⟨RX8, "readsChain", "(III)Z"⟩
abbrev cX8_readsPiece : ByteArray := prog_10_method_15_code
def yX8_readsPiece : MethodName := ⟨RX8, "readsPiece", "(II)Z"⟩
abbrev cX8_readsOperand : ByteArray := prog_10_method_16_code
def yX8_readsOperand : MethodName := ⟨RX8, "readsOperand", "()Z"⟩
abbrev cX8_numberInHand : ByteArray := prog_10_method_17_code
def yX8_numberInHand : MethodName := ⟨RX8, "numberInHand", "()I"⟩
abbrev cX8_nameInHand : ByteArray := prog_10_method_18_code
def yX8_nameInHand : MethodName := ⟨RX8, "nameInHand", "()I"⟩
abbrev cX8_write : ByteArray := prog_10_method_19_code
def yX8_write : MethodName := ⟨RX8, "write", "(I)V"⟩
def RX9 : String := "NineMasters$Text"
def TX9 : u_T := fun k => match k with
  | 0 => ("NineMasters$Text", "key", "I", true)
  | 1 => ("NineMasters$Text", "operands", "I", true)
  | 2 => ("NineMasters$Text", "code", "[I", true)
  | _ => ("NineMasters$Text", "stack", "[I", true)
def tyX9 : Nat → FieldType := fun k => match k with
  | 0 => .int
  | 1 => .int
  | 2 => .array .int
  | _ => .array .int
theorem nmX9 : ∀ a, a < 4 → ∀ b, b < 4 → a ≠ b → (TX9 a).2.1 ≠ (TX9 b).2.1 := by decide +kernel
theorem tyX9_ok : ∀ k, k < 4 → parseFieldDescriptor (TX9 k).2.2.1 = some (tyX9 k) := by decide +kernel
abbrev cX9_init : ByteArray := prog_11_method_1_code
def yX9_init : MethodName := ⟨RX9, "<init>", "(II[I)V"⟩
abbrev cX9_workOut : ByteArray := prog_11_method_2_code
def yX9_workOut : MethodName := ⟨RX9, "workOut", "(III)I"⟩
abbrev cX9_valueOf : ByteArray := prog_11_method_3_code
def yX9_valueOf : MethodName := ⟨RX9, "valueOf", "(IIII)I"⟩
abbrev cX9_joined : ByteArray := prog_11_method_4_code
def yX9_joined : MethodName := ⟨RX9, "joined", "(III)I"⟩
def RX10 : String := "NineMasters"
def TX10 : u_T := fun k => match k with
  | 0 => ("NineMasters", "realm", "LNineMasters$Realm;", true)
  | 1 => ("NineMasters", "image", "LNineMasters$Realm;", true)
  | 2 => ("NineMasters", "imageKept", "Z", false)
  | 3 => ("NineMasters", "thought", "LNineMasters$Guild;", true)
  | 4 => ("NineMasters", "search", "LNineMasters$Search;", true)
  | 5 => ("NineMasters", "tape", "LNineMasters$Tape;", true)
  | 6 => ("NineMasters", "sheets", "[LNineMasters$Sheet;", true)
  | 7 => ("NineMasters", "slots", "[LNineMasters$Slot;", true)
  | 8 => ("NineMasters", "waiting", "[I", true)
  | _ => ("NineMasters", "waits", "I", false)
def tyX10 : Nat → FieldType := fun k => match k with
  | 0 => .object "NineMasters$Realm"
  | 1 => .object "NineMasters$Realm"
  | 2 => .boolean
  | 3 => .object "NineMasters$Guild"
  | 4 => .object "NineMasters$Search"
  | 5 => .object "NineMasters$Tape"
  | 6 => .array (.object "NineMasters$Sheet")
  | 7 => .array (.object "NineMasters$Slot")
  | 8 => .array .int
  | _ => .int
theorem nmX10 : ∀ a, a < 10 → ∀ b, b < 10 → a ≠ b → (TX10 a).2.1 ≠ (TX10 b).2.1 := by decide +kernel
theorem tyX10_ok : ∀ k, k < 10 → parseFieldDescriptor (TX10 k).2.2.1 = some (tyX10 k) := by decide +kernel
abbrev cX10_init : ByteArray := prog_1_method_1_code
def yX10_init : MethodName := ⟨RX10, "<init>", "()V"⟩
abbrev cX10_master : ByteArray := prog_1_method_2_code
def yX10_master : MethodName := ⟨RX10, "master", "(IIII)I"⟩
abbrev cX10_told : ByteArray := prog_1_method_3_code
def yX10_told : MethodName := ⟨RX10, "told", "(II)I"⟩
abbrev cX10_as : ByteArray := prog_1_method_4_code
def yX10_as : MethodName := ⟨RX10, "as", "(II)I"⟩
abbrev cX10_turns : ByteArray := prog_1_method_5_code
def yX10_turns : MethodName := ⟨RX10, "turns", "(II)I"⟩
abbrev cX10_set : ByteArray := prog_1_method_6_code
def yX10_set : MethodName := ⟨RX10, "set", "(III)I"⟩
abbrev cX10_setFee : ByteArray := prog_1_method_7_code
def yX10_setFee : MethodName := ⟨RX10, "setFee", "(LNineMasters$Master;I)I"⟩
abbrev cX10_setAge : ByteArray := prog_1_method_8_code
def yX10_setAge : MethodName := ⟨RX10, "setAge", "(LNineMasters$Master;I)I"⟩
abbrev cX10_setDead : ByteArray := prog_1_method_9_code
def yX10_setDead : MethodName := ⟨RX10, "setDead", "(LNineMasters$Master;I)I"⟩
abbrev cX10_bars : ByteArray := prog_1_method_10_code
def yX10_bars : MethodName := ⟨RX10, "bars", "(III)I"⟩
abbrev cX10_road : ByteArray := prog_1_method_11_code
def yX10_road : MethodName := ⟨RX10, "road", "(III)I"⟩
abbrev cX10_far : ByteArray := prog_1_method_12_code
def yX10_far : MethodName := ⟨RX10, "far", "(II)I"⟩
abbrev cX10_deal : ByteArray := prog_1_method_13_code
def yX10_deal : MethodName := ⟨RX10, "deal", "(I)I"⟩
abbrev cX10_seed : ByteArray := prog_1_method_14_code
def yX10_seed : MethodName := ⟨RX10, "seed", "(I)I"⟩
abbrev cX10_apprentice : ByteArray := prog_1_method_15_code
def yX10_apprentice : MethodName := ⟨RX10, "apprentice", "(I)I"⟩
abbrev cX10_has : ByteArray := prog_1_method_16_code
def yX10_has : MethodName := ⟨RX10, "has", "(II)I"⟩
abbrev cX10_knows : ByteArray := prog_1_method_17_code
def yX10_knows : MethodName := ⟨RX10, "knows", "(II)I"⟩
abbrev cX10_go : ByteArray := prog_1_method_18_code
def yX10_go : MethodName := ⟨RX10, "go", "(I)I"⟩
abbrev cX10_learn : ByteArray := prog_1_method_19_code
def yX10_learn : MethodName := ⟨RX10, "learn", "(I)I"⟩
abbrev cX10_use : ByteArray := prog_1_method_20_code
def yX10_use : MethodName := ⟨RX10, "use", "(I)I"⟩
abbrev cX10_rests : ByteArray := prog_1_method_21_code
def yX10_rests : MethodName := ⟨RX10, "rests", "(I)I"⟩
abbrev cX10_wants : ByteArray := prog_1_method_22_code
def yX10_wants : MethodName := ⟨RX10, "wants", "(I)I"⟩
abbrev cX10_clear : ByteArray := prog_1_method_23_code
def yX10_clear : MethodName := ⟨RX10, "clear", "()I"⟩
abbrev cX10_made : ByteArray := prog_1_method_24_code
def yX10_made : MethodName := ⟨RX10, "made", "()I"⟩
abbrev cX10_soonest : ByteArray := prog_1_method_25_code
def yX10_soonest : MethodName := ⟨RX10, "soonest", "(I)I"⟩
abbrev cX10_together : ByteArray := prog_1_method_26_code
def yX10_together : MethodName := ⟨RX10, "together", "(I)I"⟩
abbrev cX10_never : ByteArray := prog_1_method_27_code
def yX10_never : MethodName := ⟨RX10, "never", "()I"⟩
abbrev cX10_last : ByteArray := prog_1_method_28_code
def yX10_last : MethodName := ⟨RX10, "last", "(I)I"⟩
abbrev cX10_years : ByteArray := prog_1_method_29_code
def yX10_years : MethodName := ⟨RX10, "years", "(I)I"⟩
abbrev cX10_gone : ByteArray := prog_1_method_30_code
def yX10_gone : MethodName := ⟨RX10, "gone", "(I)I"⟩
abbrev cX10_fresh : ByteArray := prog_1_method_31_code
def yX10_fresh : MethodName := ⟨RX10, "fresh", "()I"⟩
abbrev cX10_cut : ByteArray := prog_1_method_32_code
def yX10_cut : MethodName := ⟨RX10, "cut", "(II)I"⟩
abbrev cX10_fame : ByteArray := prog_1_method_33_code
def yX10_fame : MethodName := ⟨RX10, "fame", "(I)I"⟩
abbrev cX10_fine : ByteArray := prog_1_method_34_code
def yX10_fine : MethodName := ⟨RX10, "fine", "()I"⟩
abbrev cX10_feed : ByteArray := prog_1_method_35_code
def yX10_feed : MethodName := ⟨RX10, "feed", "(III)I"⟩
abbrev cX10_trim : ByteArray := prog_1_method_36_code
def yX10_trim : MethodName := ⟨RX10, "trim", "(I)I"⟩
abbrev cX10_text : ByteArray := prog_1_method_37_code
def yX10_text : MethodName := ⟨RX10, "text", "()I"⟩
abbrev cX10_textTold : ByteArray := prog_1_method_38_code
def yX10_textTold : MethodName := ⟨RX10, "textTold", "(II)I"⟩
abbrev cX10_why : ByteArray := prog_1_method_39_code
def yX10_why : MethodName := ⟨RX10, "why", "(I)I"⟩
abbrev cX10_sheet : ByteArray := prog_1_method_40_code
def yX10_sheet : MethodName := ⟨RX10, "sheet", "(III)I"⟩
abbrev cX10_mark : ByteArray := prog_1_method_41_code
def yX10_mark : MethodName := ⟨RX10, "mark", "(III)I"⟩
abbrev cX10_pour : ByteArray := prog_1_method_42_code
def yX10_pour : MethodName := ⟨RX10, "pour", "(I)I"⟩
abbrev cX10_reads : ByteArray := prog_1_method_43_code
def yX10_reads : MethodName := ⟨RX10, "reads", "(I)I"⟩
abbrev cX10_copy : ByteArray := prog_1_method_44_code
def yX10_copy : MethodName := ⟨RX10, "copy", "(IIIII)I"⟩
abbrev cX10_lay : ByteArray := prog_1_method_45_code
def yX10_lay : MethodName := ⟨RX10, "lay", "(III)I"⟩
abbrev cX10_layMaster : ByteArray := prog_1_method_46_code
def yX10_layMaster : MethodName := ⟨RX10, "layMaster", "(LNineMasters$Slot;I)I"⟩
abbrev cX10_laySheet : ByteArray := prog_1_method_47_code
def yX10_laySheet : MethodName := ⟨RX10, "laySheet", "(LNineMasters$Slot;I)I"⟩
abbrev cX10_ask : ByteArray := prog_1_method_48_code
def yX10_ask : MethodName := ⟨RX10, "ask", "(II)I"⟩
abbrev cX10_item : ByteArray := prog_1_method_49_code
def yX10_item : MethodName := ⟨RX10, "item", "(II)I"⟩
abbrev cX10_rest : ByteArray := prog_1_method_50_code
def yX10_rest : MethodName := ⟨RX10, "rest", "(II)I"⟩
abbrev cX10_tell : ByteArray := prog_1_method_51_code
def yX10_tell : MethodName := ⟨RX10, "tell", "(I)I"⟩
abbrev cX10_check : ByteArray := prog_1_method_52_code
def yX10_check : MethodName := ⟨RX10, "check", "(I)I"⟩
abbrev cX10_isWaiting : ByteArray := prog_1_method_53_code
def yX10_isWaiting : MethodName := ⟨RX10, "isWaiting", "(III)Z"⟩
abbrev cX10_keep : ByteArray := prog_1_method_54_code
def yX10_keep : MethodName := ⟨RX10, "keep", "()I"⟩
abbrev cX10_back : ByteArray := prog_1_method_55_code
def yX10_back : MethodName := ⟨RX10, "back", "()I"⟩
abbrev cX10_count : ByteArray := prog_1_method_56_code
def yX10_count : MethodName := ⟨RX10, "count", "(I)I"⟩
abbrev cX10_findSheet : ByteArray := prog_1_method_57_code
def yX10_findSheet : MethodName := ⟨RX10, "findSheet", "(I)LNineMasters$Sheet;"⟩
abbrev cX10_findSlot : ByteArray := prog_1_method_58_code
def yX10_findSlot : MethodName := ⟨RX10, "findSlot", "(I)LNineMasters$Slot;"⟩
abbrev cX10_within : ByteArray := prog_1_method_59_code
def yX10_within : MethodName := ⟨RX10, "within", "(II)Z"⟩
def RX11 : String := "NineMastersModel"
def TX11 : u_T := fun k => match k with
  | 0 => ("NineMastersModel", "s", "[I", true)
  | 1 => ("NineMastersModel", "image", "[I", true)
  | 2 => ("NineMastersModel", "aside", "[I", true)
  | 3 => ("NineMastersModel", "hasImage", "Z", false)
  | 4 => ("NineMastersModel", "tSort", "[I", true)
  | 5 => ("NineMastersModel", "tSize", "[I", true)
  | 6 => ("NineMastersModel", "tNumber", "[I", true)
  | 7 => ("NineMastersModel", "held", "[I", true)
  | 8 => ("NineMastersModel", "heldNumber", "[I", true)
  | 9 => ("NineMastersModel", "heldWorth", "[I", true)
  | 10 => ("NineMastersModel", "heldSize", "[I", true)
  | 11 => ("NineMastersModel", "heldRow", "[I", true)
  | 12 => ("NineMastersModel", "far", "[I", true)
  | 13 => ("NineMastersModel", "close", "[I", true)
  | 14 => ("NineMastersModel", "way", "[I", true)
  | 15 => ("NineMastersModel", "soonDays", "I", false)
  | 16 => ("NineMastersModel", "soonCoins", "I", false)
  | 17 => ("NineMastersModel", "soonFirst", "I", false)
  | 18 => ("NineMastersModel", "tape", "[I", true)
  | 19 => ("NineMastersModel", "taped", "I", false)
  | 20 => ("NineMastersModel", "begin", "I", false)
  | 21 => ("NineMastersModel", "behind", "I", false)
  | 22 => ("NineMastersModel", "token", "I", false)
  | 23 => ("NineMastersModel", "number", "I", false)
  | 24 => ("NineMastersModel", "letter", "I", false)
  | 25 => ("NineMastersModel", "deep", "I", false)
  | 26 => ("NineMastersModel", "turned", "I", false)
  | 27 => ("NineMastersModel", "laid", "I", false)
  | 28 => ("NineMastersModel", "laidAt", "I", false)
  | 29 => ("NineMastersModel", "said", "I", false)
  | 30 => ("NineMastersModel", "named", "[I", true)
  | 31 => ("NineMastersModel", "pile", "[I", true)
  | 32 => ("NineMastersModel", "carried", "[I", true)
  | 33 => ("NineMastersModel", "waits", "[I", true)
  | 34 => ("NineMastersModel", "waiting", "I", false)
  | _ => ("NineMastersModel", "rowDue", "[I", true)
def tyX11 : Nat → FieldType := fun k => match k with
  | 0 => .array .int
  | 1 => .array .int
  | 2 => .array .int
  | 3 => .boolean
  | 4 => .array .int
  | 5 => .array .int
  | 6 => .array .int
  | 7 => .array .int
  | 8 => .array .int
  | 9 => .array .int
  | 10 => .array .int
  | 11 => .array .int
  | 12 => .array .int
  | 13 => .array .int
  | 14 => .array .int
  | 15 => .int
  | 16 => .int
  | 17 => .int
  | 18 => .array .int
  | 19 => .int
  | 20 => .int
  | 21 => .int
  | 22 => .int
  | 23 => .int
  | 24 => .int
  | 25 => .int
  | 26 => .int
  | 27 => .int
  | 28 => .int
  | 29 => .int
  | 30 => .array .int
  | 31 => .array .int
  | 32 => .array .int
  | 33 => .array .int
  | 34 => .int
  | _ => .array .int
theorem nmX11 : ∀ a, a < 36 → ∀ b, b < 36 → a ≠ b → (TX11 a).2.1 ≠ (TX11 b).2.1 := by decide +kernel
theorem tyX11_ok : ∀ k, k < 36 → parseFieldDescriptor (TX11 k).2.2.1 = some (tyX11 k) := by decide +kernel
abbrev cX11_init : ByteArray := prog_13_method_1_code
def yX11_init : MethodName := ⟨RX11, "<init>", "()V"⟩
abbrev cX11_isIn : ByteArray := prog_13_method_2_code
def yX11_isIn : MethodName := ⟨RX11, "isIn", "(JJJ)Z"⟩
abbrev cX11_orNone : ByteArray := prog_13_method_3_code
def yX11_orNone : MethodName := ⟨RX11, "orNone", "(I)I"⟩
abbrev cX11_within : ByteArray := prog_13_method_4_code
def yX11_within : MethodName := ⟨RX11, "within", "(III)I"⟩
abbrev cX11_off : ByteArray := prog_13_method_5_code
def yX11_off : MethodName := ⟨RX11, "off", "(II)I"⟩
abbrev cX11_manyIn : ByteArray := prog_13_method_6_code
def yX11_manyIn : MethodName := ⟨RX11, "manyIn", "(I)I"⟩
abbrev cX11_becomes : ByteArray := prog_13_method_7_code
def yX11_becomes : MethodName := ⟨RX11, "becomes", "(II)I"⟩
abbrev cX11_textAt : ByteArray := prog_13_method_8_code
def yX11_textAt : MethodName := ⟨RX11, "textAt", "(I)I"⟩
abbrev cX11_of : ByteArray := prog_13_method_9_code
def yX11_of : MethodName := ⟨RX11, "of", "(II)I"⟩
abbrev cX11_isMaster : ByteArray := prog_13_method_10_code
def yX11_isMaster : MethodName := ⟨RX11, "isMaster", "(I)Z"⟩
abbrev cX11_isGesture : ByteArray := prog_13_method_11_code
def yX11_isGesture : MethodName := ⟨RX11, "isGesture", "(I)Z"⟩
abbrev cX11_isTown : ByteArray := prog_13_method_12_code
def yX11_isTown : MethodName := ⟨RX11, "isTown", "(I)Z"⟩
abbrev cX11_isText : ByteArray := prog_13_method_13_code
def yX11_isText : MethodName := ⟨RX11, "isText", "(I)Z"⟩
abbrev cX11_drawn : ByteArray := prog_13_method_14_code
def yX11_drawn : MethodName := ⟨RX11, "drawn", "()I"⟩
abbrev cX11_comes : ByteArray := prog_13_method_15_code
def yX11_comes : MethodName := ⟨RX11, "comes", "(IIII)V"⟩
abbrev cX11_master : ByteArray := prog_13_method_16_code
def yX11_master : MethodName := ⟨RX11, "master", "(IIII)I"⟩
abbrev cX11_takes : ByteArray := prog_13_method_17_code
def yX11_takes : MethodName := ⟨RX11, "takes", "(II)I"⟩
abbrev cX11_teaches : ByteArray := prog_13_method_18_code
def yX11_teaches : MethodName := ⟨RX11, "teaches", "(II)Z"⟩
abbrev cX11_behindLesson : ByteArray := prog_13_method_19_code
def yX11_behindLesson : MethodName := ⟨RX11, "behindLesson", "(II)I"⟩
abbrev cX11_worth : ByteArray := prog_13_method_20_code
def yX11_worth : MethodName := ⟨RX11, "worth", "(I)I"⟩
abbrev cX11_told : ByteArray := prog_13_method_21_code
def yX11_told : MethodName := ⟨RX11, "told", "(II)I"⟩
abbrev cX11_isOf : ByteArray := prog_13_method_22_code
def yX11_isOf : MethodName := ⟨RX11, "isOf", "(II)Z"⟩
abbrev cX11_as : ByteArray := prog_13_method_23_code
def yX11_as : MethodName := ⟨RX11, "as", "(II)I"⟩
abbrev cX11_turns : ByteArray := prog_13_method_24_code
def yX11_turns : MethodName := ⟨RX11, "turns", "(II)I"⟩
abbrev cX11_set : ByteArray := prog_13_method_25_code
def yX11_set : MethodName := ⟨RX11, "set", "(III)I"⟩
abbrev cX11_bars : ByteArray := prog_13_method_26_code
def yX11_bars : MethodName := ⟨RX11, "bars", "(III)I"⟩
abbrev cX11_road : ByteArray := prog_13_method_27_code
def yX11_road : MethodName := ⟨RX11, "road", "(III)I"⟩
abbrev cX11_findFar : ByteArray := prog_13_method_28_code
def yX11_findFar : MethodName := ⟨RX11, "findFar", "()V"⟩
abbrev cX11_far : ByteArray := prog_13_method_29_code
def yX11_far : MethodName := ⟨RX11, "far", "(II)I"⟩
abbrev cX11_deal : ByteArray := prog_13_method_30_code
def yX11_deal : MethodName := ⟨RX11, "deal", "(I)I"⟩
abbrev cX11_seed : ByteArray := prog_13_method_31_code
def yX11_seed : MethodName := ⟨RX11, "seed", "(I)I"⟩
abbrev cX11_apprentice : ByteArray := prog_13_method_32_code
def yX11_apprentice : MethodName := ⟨RX11, "apprentice", "(I)I"⟩
abbrev cX11_has : ByteArray := prog_13_method_33_code
def yX11_has : MethodName := ⟨RX11, "has", "(II)I"⟩
abbrev cX11_doesKnow : ByteArray := prog_13_method_34_code
def yX11_doesKnow : MethodName := ⟨RX11, "doesKnow", "(I)Z"⟩
abbrev cX11_knows : ByteArray := prog_13_method_35_code
def yX11_knows : MethodName := ⟨RX11, "knows", "(II)I"⟩
abbrev cX11_goesBy : ByteArray := prog_13_method_36_code
def yX11_goesBy : MethodName := ⟨RX11, "goesBy", "(I)V"⟩
abbrev cX11_go : ByteArray := prog_13_method_37_code
def yX11_go : MethodName := ⟨RX11, "go", "(I)I"⟩
abbrev cX11_canLearn : ByteArray := prog_13_method_38_code
def yX11_canLearn : MethodName := ⟨RX11, "canLearn", "(I)Z"⟩
abbrev cX11_learns : ByteArray := prog_13_method_39_code
def yX11_learns : MethodName := ⟨RX11, "learns", "(I)I"⟩
abbrev cX11_learn : ByteArray := prog_13_method_40_code
def yX11_learn : MethodName := ⟨RX11, "learn", "(I)I"⟩
abbrev cX11_uses : ByteArray := prog_13_method_41_code
def yX11_uses : MethodName := ⟨RX11, "uses", "(I)V"⟩
abbrev cX11_use : ByteArray := prog_13_method_42_code
def yX11_use : MethodName := ⟨RX11, "use", "(I)I"⟩
abbrev cX11_rests : ByteArray := prog_13_method_43_code
def yX11_rests : MethodName := ⟨RX11, "rests", "(I)I"⟩
abbrev cX11_wants : ByteArray := prog_13_method_44_code
def yX11_wants : MethodName := ⟨RX11, "wants", "(I)I"⟩
abbrev cX11_clear : ByteArray := prog_13_method_45_code
def yX11_clear : MethodName := ⟨RX11, "clear", "()I"⟩
abbrev cX11_can : ByteArray := prog_13_method_46_code
def yX11_can : MethodName := ⟨RX11, "can", "()Z"⟩
abbrev cX11_made : ByteArray := prog_13_method_47_code
def yX11_made : MethodName := ⟨RX11, "made", "()I"⟩
abbrev cX11_laysBy : ByteArray := prog_13_method_48_code
def yX11_laysBy : MethodName := ⟨RX11, "laysBy", "()V"⟩
abbrev cX11_laysBack : ByteArray := prog_13_method_49_code
def yX11_laysBack : MethodName := ⟨RX11, "laysBack", "()V"⟩
abbrev cX11_goesWay : ByteArray := prog_13_method_50_code
def yX11_goesWay : MethodName := ⟨RX11, "goesWay", "()I"⟩
abbrev cX11_findSoonest : ByteArray := prog_13_method_51_code
def yX11_findSoonest : MethodName := ⟨RX11, "findSoonest", "()V"⟩
abbrev cX11_soonest : ByteArray := prog_13_method_52_code
def yX11_soonest : MethodName := ⟨RX11, "soonest", "(I)I"⟩
abbrev cX11_areTogether : ByteArray := prog_13_method_53_code
def yX11_areTogether : MethodName := ⟨RX11, "areTogether", "(I)Z"⟩
abbrev cX11_together : ByteArray := prog_13_method_54_code
def yX11_together : MethodName := ⟨RX11, "together", "(I)I"⟩
abbrev cX11_taughtNow : ByteArray := prog_13_method_55_code
def yX11_taughtNow : MethodName := ⟨RX11, "taughtNow", "()I"⟩
abbrev cX11_never : ByteArray := prog_13_method_56_code
def yX11_never : MethodName := ⟨RX11, "never", "()I"⟩
abbrev cX11_last : ByteArray := prog_13_method_57_code
def yX11_last : MethodName := ⟨RX11, "last", "(I)I"⟩
abbrev cX11_year : ByteArray := prog_13_method_58_code
def yX11_year : MethodName := ⟨RX11, "year", "()I"⟩
abbrev cX11_years : ByteArray := prog_13_method_59_code
def yX11_years : MethodName := ⟨RX11, "years", "(I)I"⟩
abbrev cX11_gone : ByteArray := prog_13_method_60_code
def yX11_gone : MethodName := ⟨RX11, "gone", "(I)I"⟩
abbrev cX11_farFrom : ByteArray := prog_13_method_61_code
def yX11_farFrom : MethodName := ⟨RX11, "farFrom", "(I)I"⟩
abbrev cX11_fresh : ByteArray := prog_13_method_62_code
def yX11_fresh : MethodName := ⟨RX11, "fresh", "()I"⟩
abbrev cX11_fame : ByteArray := prog_13_method_63_code
def yX11_fame : MethodName := ⟨RX11, "fame", "(I)I"⟩
abbrev cX11_fine : ByteArray := prog_13_method_64_code
def yX11_fine : MethodName := ⟨RX11, "fine", "()I"⟩
abbrev cX11_feed : ByteArray := prog_13_method_65_code
def yX11_feed : MethodName := ⟨RX11, "feed", "(III)I"⟩
abbrev cX11_trim : ByteArray := prog_13_method_66_code
def yX11_trim : MethodName := ⟨RX11, "trim", "(I)I"⟩
abbrev cX11_isLetter : ByteArray := prog_13_method_67_code
def yX11_isLetter : MethodName := ⟨RX11, "isLetter", "(I)Z"⟩
abbrev cX11_isDigit : ByteArray := prog_13_method_68_code
def yX11_isDigit : MethodName := ⟨RX11, "isDigit", "(I)Z"⟩
abbrev cX11_nextToken : ByteArray := prog_13_method_69_code
def yX11_nextToken : MethodName := ⟨RX11, "nextToken", "()V"⟩
abbrev cX11_isSign : ByteArray := prog_13_method_70_code
def yX11_isSign : MethodName := ⟨RX11, "isSign", "(I)Z"⟩
abbrev cX11_isWordAt : ByteArray := prog_13_method_71_code
def yX11_isWordAt : MethodName := ⟨RX11, "isWordAt", "(IIII)Z"⟩
abbrev cX11_key : ByteArray := prog_13_method_72_code
def yX11_key : MethodName := ⟨RX11, "key", "()I"⟩
abbrev cX11_isName : ByteArray := prog_13_method_73_code
def yX11_isName : MethodName := ⟨RX11, "isName", "(II)Z"⟩
abbrev cX11_step : ByteArray := prog_13_method_74_code
def yX11_step : MethodName := ⟨RX11, "step", "(II)V"⟩
abbrev cX11_either : ByteArray := prog_13_method_75_code
def yX11_either : MethodName := ⟨RX11, "either", "(I)Z"⟩
abbrev cX11_both : ByteArray := prog_13_method_76_code
def yX11_both : MethodName := ⟨RX11, "both", "(I)Z"⟩
abbrev cX11_test : ByteArray := prog_13_method_77_code
def yX11_test : MethodName := ⟨RX11, "test", "(I)Z"⟩
abbrev cX11_sum : ByteArray := prog_13_method_78_code
def yX11_sum : MethodName := ⟨RX11, "sum", "(I)Z"⟩
abbrev cX11_term : ByteArray := prog_13_method_79_code
def yX11_term : MethodName := ⟨RX11, "term", "(I)Z"⟩
abbrev cX11_part0 : ByteArray := prog_13_method_80_code
def yX11_part0 : MethodName := ⟨RX11, "part0", "(I)Z"⟩
abbrev cX11_parse : ByteArray := prog_13_method_81_code
def yX11_parse : MethodName := ⟨RX11, "parse", "()I"⟩
abbrev cX11_text : ByteArray := prog_13_method_82_code
def yX11_text : MethodName := ⟨RX11, "text", "()I"⟩
abbrev cX11_textTold : ByteArray := prog_13_method_83_code
def yX11_textTold : MethodName := ⟨RX11, "textTold", "(II)I"⟩
abbrev cX11_counts : ByteArray := prog_13_method_84_code
def yX11_counts : MethodName := ⟨RX11, "counts", "(I)I"⟩
abbrev cX11_why : ByteArray := prog_13_method_85_code
def yX11_why : MethodName := ⟨RX11, "why", "(I)I"⟩
abbrev cX11_joined : ByteArray := prog_13_method_86_code
def yX11_joined : MethodName := ⟨RX11, "joined", "(III)I"⟩
abbrev cX11_worked : ByteArray := prog_13_method_87_code
def yX11_worked : MethodName := ⟨RX11, "worked", "(I)I"⟩
abbrev cX11_isSheet : ByteArray := prog_13_method_88_code
def yX11_isSheet : MethodName := ⟨RX11, "isSheet", "(I)Z"⟩
abbrev cX11_sheet : ByteArray := prog_13_method_89_code
def yX11_sheet : MethodName := ⟨RX11, "sheet", "(III)I"⟩
abbrev cX11_mark : ByteArray := prog_13_method_90_code
def yX11_mark : MethodName := ⟨RX11, "mark", "(III)I"⟩
abbrev cX11_pour : ByteArray := prog_13_method_91_code
def yX11_pour : MethodName := ⟨RX11, "pour", "(I)I"⟩
abbrev cX11_reads : ByteArray := prog_13_method_92_code
def yX11_reads : MethodName := ⟨RX11, "reads", "(I)I"⟩
abbrev cX11_cut : ByteArray := prog_13_method_93_code
def yX11_cut : MethodName := ⟨RX11, "cut", "(II)I"⟩
abbrev cX11_copy : ByteArray := prog_13_method_94_code
def yX11_copy : MethodName := ⟨RX11, "copy", "(IIIII)I"⟩
abbrev cX11_isSlot : ByteArray := prog_13_method_95_code
def yX11_isSlot : MethodName := ⟨RX11, "isSlot", "(I)Z"⟩
abbrev cX11_lay : ByteArray := prog_13_method_96_code
def yX11_lay : MethodName := ⟨RX11, "lay", "(III)I"⟩
abbrev cX11_ask : ByteArray := prog_13_method_97_code
def yX11_ask : MethodName := ⟨RX11, "ask", "(II)I"⟩
abbrev cX11_item : ByteArray := prog_13_method_98_code
def yX11_item : MethodName := ⟨RX11, "item", "(II)I"⟩
abbrev cX11_rest : ByteArray := prog_13_method_99_code
def yX11_rest : MethodName := ⟨RX11, "rest", "(II)I"⟩
abbrev cX11_tell : ByteArray := prog_13_method_100_code
def yX11_tell : MethodName := ⟨RX11, "tell", "(I)I"⟩
abbrev cX11_setAside : ByteArray := prog_13_method_101_code
def yX11_setAside : MethodName := ⟨RX11, "setAside", "([I[I)V"⟩
abbrev cX11_allOf : ByteArray := prog_13_method_102_code
def yX11_allOf : MethodName := ⟨RX11, "allOf", "(I)I"⟩
abbrev cX11_check : ByteArray := prog_13_method_103_code
def yX11_check : MethodName := ⟨RX11, "check", "(I)I"⟩
abbrev cX11_keep : ByteArray := prog_13_method_104_code
def yX11_keep : MethodName := ⟨RX11, "keep", "()I"⟩
abbrev cX11_back : ByteArray := prog_13_method_105_code
def yX11_back : MethodName := ⟨RX11, "back", "()I"⟩
abbrev cX11_count : ByteArray := prog_13_method_106_code
def yX11_count : MethodName := ⟨RX11, "count", "(I)I"⟩
def RJ6 : String := "java/lang/Integer"
abbrev cJ6_bitCount_0f7a4 : ByteArray := prog_15_method_49_code
def yJ6_bitCount_0f7a4 : MethodName := ⟨RJ6, "bitCount", "(I)I"⟩
def RJ9 : String := "java/lang/Math"
def RJ0 : String := "java/lang/String"
abbrev cJ0_length_8abf5 : ByteArray := prog_17_method_54_code
def yJ0_length_8abf5 : MethodName := ⟨RJ0, "length", "()I"⟩
abbrev cJ0_charAt_5068e : ByteArray := prog_17_method_56_code
def yJ0_charAt_5068e : MethodName := ⟨RJ0, "charAt", "(I)C"⟩
abbrev cJ0_indexOf_0f7a4 : ByteArray := prog_17_method_79_code
def yJ0_indexOf_0f7a4 : MethodName := ⟨RJ0, "indexOf", "(I)I"⟩
abbrev cJ0_indexOf_7cf53 : ByteArray := prog_17_method_80_code
def yJ0_indexOf_7cf53 : MethodName := ⟨RJ0, "indexOf", "(II)I"⟩
abbrev cJ0_coder_7d493 : ByteArray := prog_17_method_152_code
def yJ0_coder_7d493 : MethodName := ⟨RJ0, "coder", "()B"⟩
abbrev cJ0_isLatin1_aae02 : ByteArray := prog_17_method_154_code
def yJ0_isLatin1_aae02 : MethodName := ⟨RJ0, "isLatin1", "()Z"⟩
abbrev cJ0_checkIndex_df160 : ByteArray := prog_17_method_155_code
def yJ0_checkIndex_df160 : MethodName := ⟨RJ0, "checkIndex", "(II)V"⟩
def RJ1 : String := "java/lang/StringLatin1"
abbrev cJ1_charAt_3b067 : ByteArray := prog_18_method_2_code
def yJ1_charAt_3b067 : MethodName := ⟨RJ1, "charAt", "([BI)C"⟩
abbrev cJ1_canEncode_9a6ad : ByteArray := prog_18_method_4_code
def yJ1_canEncode_9a6ad : MethodName := ⟨RJ1, "canEncode", "(I)Z"⟩
abbrev cJ1_indexOf_4cfef : ByteArray := prog_18_method_22_code
def yJ1_indexOf_4cfef : MethodName := ⟨RJ1, "indexOf", "([BIII)I"⟩
abbrev cJ1_indexOfChar_4cfef : ByteArray := prog_18_method_23_code
def yJ1_indexOfChar_4cfef : MethodName := ⟨RJ1, "indexOfChar", "([BIII)I"⟩
def RJ10 : String := "java/lang/System"
def RJ3 : String := "jdk/internal/util/Preconditions"
abbrev cJ3_checkIndex_8e157 : ByteArray := prog_21_method_11_code
def yJ3_checkIndex_8e157 : MethodName := ⟨RJ3, "checkIndex", "(IILjava/util/function/BiFunction;)I"⟩
def RL : String := "NineMastersLaw"
abbrev cL_law : ByteArray := code
abbrev vwCl : List vw_C := [(RX0, TX0, 3), (RX1, TX1, 7), (RX2, TX2, 7), (RX3, TX3, 7), (RX4, TX4, 2), (RX5, TX5, 12), (RX6, TX6, 3), (RX7, TX7, 4), (RX8, TX8, 10), (RX9, TX9, 4), (RX10, TX10, 10), (RX11, TX11, 36)]
abbrev jMd : Type := MethodName × ByteArray × Nat × Option FieldType
abbrev mX0_init : jMd := (yX0_init, cX0_init, 2, none)
abbrev mX0_become : jMd := (yX0_become, cX0_become, 3, none)
abbrev mX0_find : jMd := (yX0_find, cX0_find, 2, (some (FieldType.object "NineMasters$Master")))
abbrev mX0_join : jMd := (yX0_join, cX0_join, 5, (some FieldType.boolean))
abbrev mX0_joinByLot : jMd := (yX0_joinByLot, cX0_joinByLot, 5, none)
abbrev mX0_draw : jMd := (yX0_draw, cX0_draw, 1, (some FieldType.int))
abbrev mX0_liveYear : jMd := (yX0_liveYear, cX0_liveYear, 3, none)
abbrev mX0_liveYears : jMd := (yX0_liveYears, cX0_liveYears, 3, none)
abbrev mX0_countDead : jMd := (yX0_countDead, cX0_countDead, 4, (some FieldType.int))
abbrev mX0_agesTogether : jMd := (yX0_agesTogether, cX0_agesTogether, 4, (some FieldType.int))
abbrev mX0_taught : jMd := (yX0_taught, cX0_taught, 4, (some FieldType.int))
abbrev mX0_onlyTeacher : jMd := (yX0_onlyTeacher, cX0_onlyTeacher, 5, (some FieldType.int))
abbrev mX0_canBringTogether : jMd := (yX0_canBringTogether, cX0_canBringTogether, 2, (some FieldType.boolean))
abbrev mX0_leadsTo : jMd := (yX0_leadsTo, cX0_leadsTo, 5, (some FieldType.boolean))
abbrev mX0_helps : jMd := (yX0_helps, cX0_helps, 4, (some FieldType.boolean))
abbrev mX1_init : jMd := (yX1_init, cX1_init, 1, none)
abbrev mX1_become : jMd := (yX1_become, cX1_become, 2, none)
abbrev mX1_isAble : jMd := (yX1_isAble, cX1_isAble, 2, (some FieldType.boolean))
abbrev mX1_passDays : jMd := (yX1_passDays, cX1_passDays, 3, none)
abbrev mX1_canLearnOf : jMd := (yX1_canLearnOf, cX1_canLearnOf, 2, (some FieldType.boolean))
abbrev mX1_learnOf : jMd := (yX1_learnOf, cX1_learnOf, 4, none)
abbrev mX1_practise : jMd := (yX1_practise, cX1_practise, 2, (some FieldType.boolean))
abbrev mX2_init : jMd := (yX2_init, cX2_init, 1, none)
abbrev mX2_begin : jMd := (yX2_begin, cX2_begin, 5, none)
abbrev mX2_become : jMd := (yX2_become, cX2_become, 2, none)
abbrev mX2_isOf : jMd := (yX2_isOf, cX2_isOf, 4, (some FieldType.boolean))
abbrev mX2_daysFrom : jMd := (yX2_daysFrom, cX2_daysFrom, 3, (some FieldType.int))
abbrev mX2_teaches : jMd := (yX2_teaches, cX2_teaches, 3, (some FieldType.boolean))
abbrev mX2_unlearnt : jMd := (yX2_unlearnt, cX2_unlearnt, 1, (some FieldType.int))
abbrev mX2_worth : jMd := (yX2_worth, cX2_worth, 1, (some FieldType.int))
abbrev mX3_init : jMd := (yX3_init, cX3_init, 1, none)
abbrev mX3_become : jMd := (yX3_become, cX3_become, 3, none)
abbrev mX3_addWish : jMd := (yX3_addWish, cX3_addWish, 2, (some FieldType.boolean))
abbrev mX3_wishedSet : jMd := (yX3_wishedSet, cX3_wishedSet, 3, (some FieldType.int))
abbrev mX3_canMakeChair : jMd := (yX3_canMakeChair, cX3_canMakeChair, 1, (some FieldType.boolean))
abbrev mX3_makeChair : jMd := (yX3_makeChair, cX3_makeChair, 2, none)
abbrev mX3_addText : jMd := (yX3_addText, cX3_addText, 2, (some FieldType.boolean))
abbrev mX3_findText : jMd := (yX3_findText, cX3_findText, 2, (some (FieldType.object "NineMasters$Text")))
abbrev mX3_numberOfLaw : jMd := (yX3_numberOfLaw, cX3_numberOfLaw, 4, (some FieldType.int))
abbrev mX3_daysTaken : jMd := (yX3_daysTaken, cX3_daysTaken, 5, (some FieldType.int))
abbrev mX3_fameOf : jMd := (yX3_fameOf, cX3_fameOf, 3, (some FieldType.int))
abbrev mX3_fineNow : jMd := (yX3_fineNow, cX3_fineNow, 2, (some FieldType.int))
abbrev mX3_waysToMasters : jMd := (yX3_waysToMasters, cX3_waysToMasters, 5, (some FieldType.int))
abbrev mX3_apart : jMd := (yX3_apart, cX3_apart, 5, (some FieldType.int))
abbrev mX4_init : jMd := (yX4_init, cX4_init, 1, none)
abbrev mX4_become : jMd := (yX4_become, cX4_become, 2, none)
abbrev mX4_direct : jMd := (yX4_direct, cX4_direct, 3, (some FieldType.int))
abbrev mX4_fewest : jMd := (yX4_fewest, cX4_fewest, 3, (some FieldType.int))
abbrev mX4_build : jMd := (yX4_build, cX4_build, 4, none)
abbrev mX4_measure : jMd := (yX4_measure, cX4_measure, 5, none)
abbrev mX5_init : jMd := (yX5_init, cX5_init, 1, none)
abbrev mX5_finds : jMd := (yX5_finds, cX5_finds, 3, (some FieldType.boolean))
abbrev mX5_goOn : jMd := (yX5_goOn, cX5_goOn, 7, none)
abbrev mX5_tryMaster : jMd := (yX5_tryMaster, cX5_tryMaster, 14, none)
abbrev mX5_keptOf : jMd := (yX5_keptOf, cX5_keptOf, 6, (some FieldType.int))
abbrev mX5_daysTaken : jMd := (yX5_daysTaken, cX5_daysTaken, 6, (some FieldType.int))
abbrev mX5_offer : jMd := (yX5_offer, cX5_offer, 2, none)
abbrev mX5_isBetter : jMd := (yX5_isBetter, cX5_isBetter, 4, (some FieldType.boolean))
abbrev mX6_init : jMd := (yX6_init, cX6_init, 1, none)
abbrev mX6_begin : jMd := (yX6_begin, cX6_begin, 4, none)
abbrev mX6_become : jMd := (yX6_become, cX6_become, 2, none)
abbrev mX6_hasPlace : jMd := (yX6_hasPlace, cX6_hasPlace, 2, (some FieldType.boolean))
abbrev mX6_hasPlaces : jMd := (yX6_hasPlaces, cX6_hasPlaces, 3, (some FieldType.boolean))
abbrev mX6_isNumber : jMd := (yX6_isNumber, cX6_isNumber, 2, (some FieldType.boolean))
abbrev mX7_init : jMd := (yX7_init, cX7_init, 1, none)
abbrev mX8_init : jMd := (yX8_init, cX8_init, 1, none)
abbrev mX8_addNumber : jMd := (yX8_addNumber, cX8_addNumber, 3, none)
abbrev mX8_isText : jMd := (yX8_isText, cX8_isText, 1, (some FieldType.boolean))
abbrev mX8_textRead : jMd := (yX8_textRead, cX8_textRead, 2, (some (FieldType.object "NineMasters$Text")))
abbrev mX8_step : jMd := (yX8_step, cX8_step, 3, none)
abbrev mX8_byteAt : jMd := (yX8_byteAt, cX8_byteAt, 2, (some FieldType.int))
abbrev mX8_sortAt : jMd := (yX8_sortAt, cX8_sortAt, 3, (some FieldType.int))
abbrev mX8_isInHand : jMd := (yX8_isInHand, cX8_isInHand, 2, (some FieldType.boolean))
abbrev mX8_keyInHand : jMd := (yX8_keyInHand, cX8_keyInHand, 2, (some FieldType.int))
abbrev mX8_isWordInHand : jMd := (yX8_isWordInHand, cX8_isWordInHand, 3, (some FieldType.boolean))
abbrev mX8_wordOf : jMd := (yX8_wordOf, cX8_wordOf, 1, (some (FieldType.object "java/lang/String")))
abbrev mX8_namesOf : jMd := (yX8_namesOf, cX8_namesOf, 1, (some (FieldType.object "java/lang/String")))
abbrev mX8_levelInHand : jMd := (yX8_levelInHand, cX8_levelInHand, 1, (some FieldType.int))
abbrev mX8_readsChain : jMd := (yX8_readsChain, cX8_readsChain, 7, (some FieldType.boolean))
abbrev mX8_readsPiece : jMd := (yX8_readsPiece, cX8_readsPiece, 4, (some FieldType.boolean))
abbrev mX8_readsOperand : jMd := (yX8_readsOperand, cX8_readsOperand, 2, (some FieldType.boolean))
abbrev mX8_numberInHand : jMd := (yX8_numberInHand, cX8_numberInHand, 3, (some FieldType.int))
abbrev mX8_nameInHand : jMd := (yX8_nameInHand, cX8_nameInHand, 2, (some FieldType.int))
abbrev mX8_write : jMd := (yX8_write, cX8_write, 2, none)
abbrev mX9_init : jMd := (yX9_init, cX9_init, 4, none)
abbrev mX9_workOut : jMd := (yX9_workOut, cX9_workOut, 7, (some FieldType.int))
abbrev mX9_valueOf : jMd := (yX9_valueOf, cX9_valueOf, 4, (some FieldType.int))
abbrev mX9_joined : jMd := (yX9_joined, cX9_joined, 3, (some FieldType.int))
abbrev mX10_init : jMd := (yX10_init, cX10_init, 2, none)
abbrev mX10_master : jMd := (yX10_master, cX10_master, 6, (some FieldType.int))
abbrev mX10_told : jMd := (yX10_told, cX10_told, 5, (some FieldType.int))
abbrev mX10_as : jMd := (yX10_as, cX10_as, 4, (some FieldType.int))
abbrev mX10_turns : jMd := (yX10_turns, cX10_turns, 5, (some FieldType.int))
abbrev mX10_set : jMd := (yX10_set, cX10_set, 5, (some FieldType.int))
abbrev mX10_setFee : jMd := (yX10_setFee, cX10_setFee, 3, (some FieldType.int))
abbrev mX10_setAge : jMd := (yX10_setAge, cX10_setAge, 3, (some FieldType.int))
abbrev mX10_setDead : jMd := (yX10_setDead, cX10_setDead, 3, (some FieldType.int))
abbrev mX10_bars : jMd := (yX10_bars, cX10_bars, 6, (some FieldType.int))
abbrev mX10_road : jMd := (yX10_road, cX10_road, 5, (some FieldType.int))
abbrev mX10_far : jMd := (yX10_far, cX10_far, 4, (some FieldType.int))
abbrev mX10_deal : jMd := (yX10_deal, cX10_deal, 4, (some FieldType.int))
abbrev mX10_seed : jMd := (yX10_seed, cX10_seed, 3, (some FieldType.int))
abbrev mX10_apprentice : jMd := (yX10_apprentice, cX10_apprentice, 2, (some FieldType.int))
abbrev mX10_has : jMd := (yX10_has, cX10_has, 5, (some FieldType.int))
abbrev mX10_knows : jMd := (yX10_knows, cX10_knows, 4, (some FieldType.int))
abbrev mX10_go : jMd := (yX10_go, cX10_go, 4, (some FieldType.int))
abbrev mX10_learn : jMd := (yX10_learn, cX10_learn, 4, (some FieldType.int))
abbrev mX10_use : jMd := (yX10_use, cX10_use, 2, (some FieldType.int))
abbrev mX10_rests : jMd := (yX10_rests, cX10_rests, 2, (some FieldType.int))
abbrev mX10_wants : jMd := (yX10_wants, cX10_wants, 2, (some FieldType.int))
abbrev mX10_clear : jMd := (yX10_clear, cX10_clear, 2, (some FieldType.int))
abbrev mX10_made : jMd := (yX10_made, cX10_made, 1, (some FieldType.int))
abbrev mX10_soonest : jMd := (yX10_soonest, cX10_soonest, 2, (some FieldType.int))
abbrev mX10_together : jMd := (yX10_together, cX10_together, 2, (some FieldType.int))
abbrev mX10_never : jMd := (yX10_never, cX10_never, 5, (some FieldType.int))
abbrev mX10_last : jMd := (yX10_last, cX10_last, 2, (some FieldType.int))
abbrev mX10_years : jMd := (yX10_years, cX10_years, 3, (some FieldType.int))
abbrev mX10_gone : jMd := (yX10_gone, cX10_gone, 2, (some FieldType.int))
abbrev mX10_fresh : jMd := (yX10_fresh, cX10_fresh, 3, (some FieldType.int))
abbrev mX10_cut : jMd := (yX10_cut, cX10_cut, 9, (some FieldType.int))
abbrev mX10_fame : jMd := (yX10_fame, cX10_fame, 3, (some FieldType.int))
abbrev mX10_fine : jMd := (yX10_fine, cX10_fine, 1, (some FieldType.int))
abbrev mX10_feed : jMd := (yX10_feed, cX10_feed, 4, (some FieldType.int))
abbrev mX10_trim : jMd := (yX10_trim, cX10_trim, 2, (some FieldType.int))
abbrev mX10_text : jMd := (yX10_text, cX10_text, 3, (some FieldType.int))
abbrev mX10_textTold : jMd := (yX10_textTold, cX10_textTold, 4, (some FieldType.int))
abbrev mX10_why : jMd := (yX10_why, cX10_why, 3, (some FieldType.int))
abbrev mX10_sheet : jMd := (yX10_sheet, cX10_sheet, 5, (some FieldType.int))
abbrev mX10_mark : jMd := (yX10_mark, cX10_mark, 5, (some FieldType.int))
abbrev mX10_pour : jMd := (yX10_pour, cX10_pour, 7, (some FieldType.int))
abbrev mX10_reads : jMd := (yX10_reads, cX10_reads, 5, (some FieldType.int))
abbrev mX10_copy : jMd := (yX10_copy, cX10_copy, 8, (some FieldType.int))
abbrev mX10_lay : jMd := (yX10_lay, cX10_lay, 6, (some FieldType.int))
abbrev mX10_layMaster : jMd := (yX10_layMaster, cX10_layMaster, 5, (some FieldType.int))
abbrev mX10_laySheet : jMd := (yX10_laySheet, cX10_laySheet, 5, (some FieldType.int))
abbrev mX10_ask : jMd := (yX10_ask, cX10_ask, 4, (some FieldType.int))
abbrev mX10_item : jMd := (yX10_item, cX10_item, 4, (some FieldType.int))
abbrev mX10_rest : jMd := (yX10_rest, cX10_rest, 4, (some FieldType.int))
abbrev mX10_tell : jMd := (yX10_tell, cX10_tell, 2, (some FieldType.int))
abbrev mX10_check : jMd := (yX10_check, cX10_check, 5, (some FieldType.int))
abbrev mX10_isWaiting : jMd := (yX10_isWaiting, cX10_isWaiting, 4, (some FieldType.boolean))
abbrev mX10_keep : jMd := (yX10_keep, cX10_keep, 1, (some FieldType.int))
abbrev mX10_back : jMd := (yX10_back, cX10_back, 1, (some FieldType.int))
abbrev mX10_count : jMd := (yX10_count, cX10_count, 2, (some FieldType.int))
abbrev mX10_findSheet : jMd := (yX10_findSheet, cX10_findSheet, 2, (some (FieldType.object "NineMasters$Sheet")))
abbrev mX10_findSlot : jMd := (yX10_findSlot, cX10_findSlot, 2, (some (FieldType.object "NineMasters$Slot")))
abbrev mX10_within : jMd := (yX10_within, cX10_within, 2, (some FieldType.boolean))
abbrev mX11_init : jMd := (yX11_init, cX11_init, 2, none)
abbrev mX11_isIn : jMd := (yX11_isIn, cX11_isIn, 6, (some FieldType.boolean))
abbrev mX11_orNone : jMd := (yX11_orNone, cX11_orNone, 1, (some FieldType.int))
abbrev mX11_within : jMd := (yX11_within, cX11_within, 3, (some FieldType.int))
abbrev mX11_off : jMd := (yX11_off, cX11_off, 2, (some FieldType.int))
abbrev mX11_manyIn : jMd := (yX11_manyIn, cX11_manyIn, 3, (some FieldType.int))
abbrev mX11_becomes : jMd := (yX11_becomes, cX11_becomes, 4, (some FieldType.int))
abbrev mX11_textAt : jMd := (yX11_textAt, cX11_textAt, 2, (some FieldType.int))
abbrev mX11_of : jMd := (yX11_of, cX11_of, 3, (some FieldType.int))
abbrev mX11_isMaster : jMd := (yX11_isMaster, cX11_isMaster, 2, (some FieldType.boolean))
abbrev mX11_isGesture : jMd := (yX11_isGesture, cX11_isGesture, 1, (some FieldType.boolean))
abbrev mX11_isTown : jMd := (yX11_isTown, cX11_isTown, 1, (some FieldType.boolean))
abbrev mX11_isText : jMd := (yX11_isText, cX11_isText, 2, (some FieldType.boolean))
abbrev mX11_drawn : jMd := (yX11_drawn, cX11_drawn, 1, (some FieldType.int))
abbrev mX11_comes : jMd := (yX11_comes, cX11_comes, 6, none)
abbrev mX11_master : jMd := (yX11_master, cX11_master, 5, (some FieldType.int))
abbrev mX11_takes : jMd := (yX11_takes, cX11_takes, 6, (some FieldType.int))
abbrev mX11_teaches : jMd := (yX11_teaches, cX11_teaches, 4, (some FieldType.boolean))
abbrev mX11_behindLesson : jMd := (yX11_behindLesson, cX11_behindLesson, 4, (some FieldType.int))
abbrev mX11_worth : jMd := (yX11_worth, cX11_worth, 3, (some FieldType.int))
abbrev mX11_told : jMd := (yX11_told, cX11_told, 3, (some FieldType.int))
abbrev mX11_isOf : jMd := (yX11_isOf, cX11_isOf, 2, (some FieldType.boolean))
abbrev mX11_as : jMd := (yX11_as, cX11_as, 3, (some FieldType.int))
abbrev mX11_turns : jMd := (yX11_turns, cX11_turns, 3, (some FieldType.int))
abbrev mX11_set : jMd := (yX11_set, cX11_set, 4, (some FieldType.int))
abbrev mX11_bars : jMd := (yX11_bars, cX11_bars, 4, (some FieldType.int))
abbrev mX11_road : jMd := (yX11_road, cX11_road, 4, (some FieldType.int))
abbrev mX11_findFar : jMd := (yX11_findFar, cX11_findFar, 4, none)
abbrev mX11_far : jMd := (yX11_far, cX11_far, 4, (some FieldType.int))
abbrev mX11_deal : jMd := (yX11_deal, cX11_deal, 6, (some FieldType.int))
abbrev mX11_seed : jMd := (yX11_seed, cX11_seed, 2, (some FieldType.int))
abbrev mX11_apprentice : jMd := (yX11_apprentice, cX11_apprentice, 2, (some FieldType.int))
abbrev mX11_has : jMd := (yX11_has, cX11_has, 3, (some FieldType.int))
abbrev mX11_doesKnow : jMd := (yX11_doesKnow, cX11_doesKnow, 2, (some FieldType.boolean))
abbrev mX11_knows : jMd := (yX11_knows, cX11_knows, 3, (some FieldType.int))
abbrev mX11_goesBy : jMd := (yX11_goesBy, cX11_goesBy, 3, none)
abbrev mX11_go : jMd := (yX11_go, cX11_go, 3, (some FieldType.int))
abbrev mX11_canLearn : jMd := (yX11_canLearn, cX11_canLearn, 2, (some FieldType.boolean))
abbrev mX11_learns : jMd := (yX11_learns, cX11_learns, 4, (some FieldType.int))
abbrev mX11_learn : jMd := (yX11_learn, cX11_learn, 3, (some FieldType.int))
abbrev mX11_uses : jMd := (yX11_uses, cX11_uses, 2, none)
abbrev mX11_use : jMd := (yX11_use, cX11_use, 2, (some FieldType.int))
abbrev mX11_rests : jMd := (yX11_rests, cX11_rests, 2, (some FieldType.int))
abbrev mX11_wants : jMd := (yX11_wants, cX11_wants, 2, (some FieldType.int))
abbrev mX11_clear : jMd := (yX11_clear, cX11_clear, 1, (some FieldType.int))
abbrev mX11_can : jMd := (yX11_can, cX11_can, 2, (some FieldType.boolean))
abbrev mX11_made : jMd := (yX11_made, cX11_made, 2, (some FieldType.int))
abbrev mX11_laysBy : jMd := (yX11_laysBy, cX11_laysBy, 2, none)
abbrev mX11_laysBack : jMd := (yX11_laysBack, cX11_laysBack, 2, none)
abbrev mX11_goesWay : jMd := (yX11_goesWay, cX11_goesWay, 7, (some FieldType.int))
abbrev mX11_findSoonest : jMd := (yX11_findSoonest, cX11_findSoonest, 3, none)
abbrev mX11_soonest : jMd := (yX11_soonest, cX11_soonest, 2, (some FieldType.int))
abbrev mX11_areTogether : jMd := (yX11_areTogether, cX11_areTogether, 12, (some FieldType.boolean))
abbrev mX11_together : jMd := (yX11_together, cX11_together, 2, (some FieldType.int))
abbrev mX11_taughtNow : jMd := (yX11_taughtNow, cX11_taughtNow, 3, (some FieldType.int))
abbrev mX11_never : jMd := (yX11_never, cX11_never, 5, (some FieldType.int))
abbrev mX11_last : jMd := (yX11_last, cX11_last, 5, (some FieldType.int))
abbrev mX11_year : jMd := (yX11_year, cX11_year, 4, (some FieldType.int))
abbrev mX11_years : jMd := (yX11_years, cX11_years, 4, (some FieldType.int))
abbrev mX11_gone : jMd := (yX11_gone, cX11_gone, 5, (some FieldType.int))
abbrev mX11_farFrom : jMd := (yX11_farFrom, cX11_farFrom, 4, (some FieldType.int))
abbrev mX11_fresh : jMd := (yX11_fresh, cX11_fresh, 3, (some FieldType.int))
abbrev mX11_fame : jMd := (yX11_fame, cX11_fame, 3, (some FieldType.int))
abbrev mX11_fine : jMd := (yX11_fine, cX11_fine, 2, (some FieldType.int))
abbrev mX11_feed : jMd := (yX11_feed, cX11_feed, 6, (some FieldType.int))
abbrev mX11_trim : jMd := (yX11_trim, cX11_trim, 2, (some FieldType.int))
abbrev mX11_isLetter : jMd := (yX11_isLetter, cX11_isLetter, 2, (some FieldType.boolean))
abbrev mX11_isDigit : jMd := (yX11_isDigit, cX11_isDigit, 2, (some FieldType.boolean))
abbrev mX11_nextToken : jMd := (yX11_nextToken, cX11_nextToken, 3, none)
abbrev mX11_isSign : jMd := (yX11_isSign, cX11_isSign, 2, (some FieldType.boolean))
abbrev mX11_isWordAt : jMd := (yX11_isWordAt, cX11_isWordAt, 6, (some FieldType.boolean))
abbrev mX11_key : jMd := (yX11_key, cX11_key, 1, (some FieldType.int))
abbrev mX11_isName : jMd := (yX11_isName, cX11_isName, 2, (some FieldType.boolean))
abbrev mX11_step : jMd := (yX11_step, cX11_step, 3, none)
abbrev mX11_either : jMd := (yX11_either, cX11_either, 2, (some FieldType.boolean))
abbrev mX11_both : jMd := (yX11_both, cX11_both, 2, (some FieldType.boolean))
abbrev mX11_test : jMd := (yX11_test, cX11_test, 3, (some FieldType.boolean))
abbrev mX11_sum : jMd := (yX11_sum, cX11_sum, 3, (some FieldType.boolean))
abbrev mX11_term : jMd := (yX11_term, cX11_term, 3, (some FieldType.boolean))
abbrev mX11_part0 : jMd := (yX11_part0, cX11_part0, 2, (some FieldType.boolean))
abbrev mX11_parse : jMd := (yX11_parse, cX11_parse, 3, (some FieldType.int))
abbrev mX11_text : jMd := (yX11_text, cX11_text, 3, (some FieldType.int))
abbrev mX11_textTold : jMd := (yX11_textTold, cX11_textTold, 3, (some FieldType.int))
abbrev mX11_counts : jMd := (yX11_counts, cX11_counts, 4, (some FieldType.int))
abbrev mX11_why : jMd := (yX11_why, cX11_why, 2, (some FieldType.int))
abbrev mX11_joined : jMd := (yX11_joined, cX11_joined, 3, (some FieldType.int))
abbrev mX11_worked : jMd := (yX11_worked, cX11_worked, 6, (some FieldType.int))
abbrev mX11_isSheet : jMd := (yX11_isSheet, cX11_isSheet, 1, (some FieldType.boolean))
abbrev mX11_sheet : jMd := (yX11_sheet, cX11_sheet, 5, (some FieldType.int))
abbrev mX11_mark : jMd := (yX11_mark, cX11_mark, 4, (some FieldType.int))
abbrev mX11_pour : jMd := (yX11_pour, cX11_pour, 6, (some FieldType.int))
abbrev mX11_reads : jMd := (yX11_reads, cX11_reads, 4, (some FieldType.int))
abbrev mX11_cut : jMd := (yX11_cut, cX11_cut, 9, (some FieldType.int))
abbrev mX11_copy : jMd := (yX11_copy, cX11_copy, 7, (some FieldType.int))
abbrev mX11_isSlot : jMd := (yX11_isSlot, cX11_isSlot, 1, (some FieldType.boolean))
abbrev mX11_lay : jMd := (yX11_lay, cX11_lay, 7, (some FieldType.int))
abbrev mX11_ask : jMd := (yX11_ask, cX11_ask, 3, (some FieldType.int))
abbrev mX11_item : jMd := (yX11_item, cX11_item, 4, (some FieldType.int))
abbrev mX11_rest : jMd := (yX11_rest, cX11_rest, 3, (some FieldType.int))
abbrev mX11_tell : jMd := (yX11_tell, cX11_tell, 2, (some FieldType.int))
abbrev mX11_setAside : jMd := (yX11_setAside, cX11_setAside, 4, none)
abbrev mX11_allOf : jMd := (yX11_allOf, cX11_allOf, 4, (some FieldType.int))
abbrev mX11_check : jMd := (yX11_check, cX11_check, 6, (some FieldType.int))
abbrev mX11_keep : jMd := (yX11_keep, cX11_keep, 1, (some FieldType.int))
abbrev mX11_back : jMd := (yX11_back, cX11_back, 1, (some FieldType.int))
abbrev mX11_count : jMd := (yX11_count, cX11_count, 2, (some FieldType.int))
abbrev mJ6_bitCount_0f7a4 : jMd := (yJ6_bitCount_0f7a4, cJ6_bitCount_0f7a4, 1, (some FieldType.int))
abbrev mJ0_length_8abf5 : jMd := (yJ0_length_8abf5, cJ0_length_8abf5, 1, (some FieldType.int))
abbrev mJ0_charAt_5068e : jMd := (yJ0_charAt_5068e, cJ0_charAt_5068e, 2, (some FieldType.char))
abbrev mJ0_indexOf_0f7a4 : jMd := (yJ0_indexOf_0f7a4, cJ0_indexOf_0f7a4, 2, (some FieldType.int))
abbrev mJ0_indexOf_7cf53 : jMd := (yJ0_indexOf_7cf53, cJ0_indexOf_7cf53, 3, (some FieldType.int))
abbrev mJ0_coder_7d493 : jMd := (yJ0_coder_7d493, cJ0_coder_7d493, 1, (some FieldType.byte))
abbrev mJ0_isLatin1_aae02 : jMd := (yJ0_isLatin1_aae02, cJ0_isLatin1_aae02, 1, (some FieldType.boolean))
abbrev mJ0_checkIndex_df160 : jMd := (yJ0_checkIndex_df160, cJ0_checkIndex_df160, 2, none)
abbrev mJ1_charAt_3b067 : jMd := (yJ1_charAt_3b067, cJ1_charAt_3b067, 2, (some FieldType.char))
abbrev mJ1_canEncode_9a6ad : jMd := (yJ1_canEncode_9a6ad, cJ1_canEncode_9a6ad, 1, (some FieldType.boolean))
abbrev mJ1_indexOf_4cfef : jMd := (yJ1_indexOf_4cfef, cJ1_indexOf_4cfef, 4, (some FieldType.int))
abbrev mJ1_indexOfChar_4cfef : jMd := (yJ1_indexOfChar_4cfef, cJ1_indexOfChar_4cfef, 6, (some FieldType.int))
abbrev mJ3_checkIndex_8e157 : jMd := (yJ3_checkIndex_8e157, cJ3_checkIndex_8e157, 3, (some FieldType.int))
/-- the links between nest mates -/
def jNest : List (String × Nat × MethodName × String) := [("NineMasters", 11, yX3_init, "NineMasters"), ("NineMasters$Guild", 21, yX2_init, "NineMasters"), ("NineMasters$Realm", 27, yX1_init, "NineMasters"), ("NineMasters", 28, yX5_init, "NineMasters"), ("NineMasters", 35, yX8_init, "NineMasters"), ("NineMasters", 56, yX6_init, "NineMasters"), ("NineMasters", 57, yX7_init, "NineMasters"), ("NineMasters$Slot", 17, yX2_init, "NineMasters"), ("NineMasters$Slot", 24, yX6_init, "NineMasters"), ("NineMasters$Guild", 29, yX10_within, "NineMasters"), ("NineMasters$Realm", 65, yX10_within, "NineMasters"), ("NineMasters$Text", 31, yX10_within, "NineMasters"), ("NineMasters$Master", 34, yX10_within, "NineMasters"), ("NineMasters$Roads", 27, yX10_within, "NineMasters"), ("NineMasters$Learner", 40, yX10_within, "NineMasters"), ("NineMasters$Search", 83, yX10_within, "NineMasters"), ("NineMasters$Sheet", 28, yX10_within, "NineMasters"), ("NineMasters$Tape", 22, yX10_within, "NineMasters")]
end
