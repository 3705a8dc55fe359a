-- ===== PART A: goes FIRST, ahead of the names: the tables' words, and 'selects' of the private methods out of them =====
/-- a private method of a class that the tables say can be made, by its rows of tables_1 -/
def lw_okq (q : MethodName × Nat) : Prop := (q.1.cls ≠ "java/lang/invoke/MethodHandle" ∧ q.1.cls ≠ "java/lang/invoke/VarHandle") ∧ Cond.instantiable q.1.cls q.2 ∈ tables_1 ∧ Cond.privateMethod q.1 ∈ tables_1 ∧ Cond.instanceMethod q.1 ∈ tables_1
theorem lw_p0 : lw_okq (⟨"LighterAtDusk", "takeText", "()I"⟩, 13) := ⟨⟨by decide +kernel, by decide +kernel⟩, List.mem_of_getElem? (i := 23) (by decide +kernel), List.mem_of_getElem? (i := 363) (by decide +kernel), List.mem_of_getElem? (i := 364) (by decide +kernel)⟩
theorem lw_p1 : lw_okq (⟨"LighterAtDusk$DayReader", "takesKind", "(I)Z"⟩, 7) := ⟨⟨by decide +kernel, by decide +kernel⟩, List.mem_of_getElem? (i := 192) (by decide +kernel), List.mem_of_getElem? (i := 394) (by decide +kernel), List.mem_of_getElem? (i := 395) (by decide +kernel)⟩
theorem lw_p2 : lw_okq (⟨"LighterAtDusk$DayReader", "takesNumber", "(II)Z"⟩, 7) := ⟨⟨by decide +kernel, by decide +kernel⟩, List.mem_of_getElem? (i := 192) (by decide +kernel), List.mem_of_getElem? (i := 402) (by decide +kernel), List.mem_of_getElem? (i := 403) (by decide +kernel)⟩
theorem lw_p3 : lw_okq (⟨"LighterAtDusk$DayReader", "takesLetter", "(II)Z"⟩, 7) := ⟨⟨by decide +kernel, by decide +kernel⟩, List.mem_of_getElem? (i := 192) (by decide +kernel), List.mem_of_getElem? (i := 410) (by decide +kernel), List.mem_of_getElem? (i := 411) (by decide +kernel)⟩
theorem lw_p4 : lw_okq (⟨"LighterAtDusk$DayReader", "takesPlace", "(II)Z"⟩, 7) := ⟨⟨by decide +kernel, by decide +kernel⟩, List.mem_of_getElem? (i := 192) (by decide +kernel), List.mem_of_getElem? (i := 414) (by decide +kernel), List.mem_of_getElem? (i := 415) (by decide +kernel)⟩
theorem lw_p5 : lw_okq (⟨"LighterAtDusk$DayReader", "takesWay", "(II)Z"⟩, 7) := ⟨⟨by decide +kernel, by decide +kernel⟩, List.mem_of_getElem? (i := 192) (by decide +kernel), List.mem_of_getElem? (i := 418) (by decide +kernel), List.mem_of_getElem? (i := 419) (by decide +kernel)⟩
theorem lw_p6 : lw_okq (⟨"LighterAtDusk$FolkReader", "takesKind", "(I)Z"⟩, 6) := ⟨⟨by decide +kernel, by decide +kernel⟩, List.mem_of_getElem? (i := 164) (by decide +kernel), List.mem_of_getElem? (i := 425) (by decide +kernel), List.mem_of_getElem? (i := 426) (by decide +kernel)⟩
theorem lw_p7 : lw_okq (⟨"LighterAtDusk$Habit", "takesDigit", "(I)Z"⟩, 11) := ⟨⟨by decide +kernel, by decide +kernel⟩, List.mem_of_getElem? (i := 53) (by decide +kernel), List.mem_of_getElem? (i := 440) (by decide +kernel), List.mem_of_getElem? (i := 441) (by decide +kernel)⟩
theorem lw_p8 : lw_okq (⟨"LighterAtDusk$Habit", "put", "(I)V"⟩, 11) := ⟨⟨by decide +kernel, by decide +kernel⟩, List.mem_of_getElem? (i := 53) (by decide +kernel), List.mem_of_getElem? (i := 444) (by decide +kernel), List.mem_of_getElem? (i := 445) (by decide +kernel)⟩
theorem lw_p9 : lw_okq (⟨"LighterAtDusk$Habit", "takesBehind", "(I)Z"⟩, 11) := ⟨⟨by decide +kernel, by decide +kernel⟩, List.mem_of_getElem? (i := 53) (by decide +kernel), List.mem_of_getElem? (i := 448) (by decide +kernel), List.mem_of_getElem? (i := 449) (by decide +kernel)⟩
theorem lw_p10 : lw_okq (⟨"LighterAtDusk$Habit", "closes", "()Z"⟩, 11) := ⟨⟨by decide +kernel, by decide +kernel⟩, List.mem_of_getElem? (i := 53) (by decide +kernel), List.mem_of_getElem? (i := 452) (by decide +kernel), List.mem_of_getElem? (i := 453) (by decide +kernel)⟩
theorem lw_p11 : lw_okq (⟨"LighterAtDusk$Habit", "putOff", "(I)V"⟩, 11) := ⟨⟨by decide +kernel, by decide +kernel⟩, List.mem_of_getElem? (i := 53) (by decide +kernel), List.mem_of_getElem? (i := 459) (by decide +kernel), List.mem_of_getElem? (i := 460) (by decide +kernel)⟩
theorem lw_p12 : lw_okq (⟨"LighterAtDusk$Habit", "takesAhead", "(I)Z"⟩, 11) := ⟨⟨by decide +kernel, by decide +kernel⟩, List.mem_of_getElem? (i := 53) (by decide +kernel), List.mem_of_getElem? (i := 463) (by decide +kernel), List.mem_of_getElem? (i := 464) (by decide +kernel)⟩
theorem lw_p13 : lw_okq (⟨"LighterAtDusk", "tipsBy", "(I)Z"⟩, 13) := ⟨⟨by decide +kernel, by decide +kernel⟩, List.mem_of_getElem? (i := 23) (by decide +kernel), List.mem_of_getElem? (i := 589) (by decide +kernel), List.mem_of_getElem? (i := 590) (by decide +kernel)⟩
theorem lw_p14 : lw_okq (⟨"LighterAtDusk$Deck", "copyTo", "([II)V"⟩, 9) := ⟨⟨by decide +kernel, by decide +kernel⟩, List.mem_of_getElem? (i := 123) (by decide +kernel), List.mem_of_getElem? (i := 600) (by decide +kernel), List.mem_of_getElem? (i := 601) (by decide +kernel)⟩
theorem lw_p15 : lw_okq (⟨"LighterAtDusk", "load", "()I"⟩, 13) := ⟨⟨by decide +kernel, by decide +kernel⟩, List.mem_of_getElem? (i := 23) (by decide +kernel), List.mem_of_getElem? (i := 617) (by decide +kernel), List.mem_of_getElem? (i := 618) (by decide +kernel)⟩
def lw_privs_1 : List (MethodName × Nat) := [(⟨"LighterAtDusk", "takeText", "()I"⟩, 13), (⟨"LighterAtDusk$DayReader", "takesKind", "(I)Z"⟩, 7), (⟨"LighterAtDusk$DayReader", "takesNumber", "(II)Z"⟩, 7), (⟨"LighterAtDusk$DayReader", "takesLetter", "(II)Z"⟩, 7), (⟨"LighterAtDusk$DayReader", "takesPlace", "(II)Z"⟩, 7), (⟨"LighterAtDusk$DayReader", "takesWay", "(II)Z"⟩, 7), (⟨"LighterAtDusk$FolkReader", "takesKind", "(I)Z"⟩, 6), (⟨"LighterAtDusk$Habit", "takesDigit", "(I)Z"⟩, 11), (⟨"LighterAtDusk$Habit", "put", "(I)V"⟩, 11), (⟨"LighterAtDusk$Habit", "takesBehind", "(I)Z"⟩, 11), (⟨"LighterAtDusk$Habit", "closes", "()Z"⟩, 11), (⟨"LighterAtDusk$Habit", "putOff", "(I)V"⟩, 11), (⟨"LighterAtDusk$Habit", "takesAhead", "(I)Z"⟩, 11), (⟨"LighterAtDusk", "tipsBy", "(I)Z"⟩, 13), (⟨"LighterAtDusk$Deck", "copyTo", "([II)V"⟩, 9), (⟨"LighterAtDusk", "load", "()I"⟩, 13)]
theorem lw_r1 : ∀ q ∈ lw_privs_1, lw_okq q := List.forall_mem_cons.mpr ⟨lw_p0, List.forall_mem_cons.mpr ⟨lw_p1, List.forall_mem_cons.mpr ⟨lw_p2, List.forall_mem_cons.mpr ⟨lw_p3, List.forall_mem_cons.mpr ⟨lw_p4, List.forall_mem_cons.mpr ⟨lw_p5, List.forall_mem_cons.mpr ⟨lw_p6, List.forall_mem_cons.mpr ⟨lw_p7, List.forall_mem_cons.mpr ⟨lw_p8, List.forall_mem_cons.mpr ⟨lw_p9, List.forall_mem_cons.mpr ⟨lw_p10, List.forall_mem_cons.mpr ⟨lw_p11, List.forall_mem_cons.mpr ⟨lw_p12, List.forall_mem_cons.mpr ⟨lw_p13, List.forall_mem_cons.mpr ⟨lw_p14, List.forall_mem_cons.mpr ⟨lw_p15, fun _ h => absurd h List.not_mem_nil⟩⟩⟩⟩⟩⟩⟩⟩⟩⟩⟩⟩⟩⟩⟩⟩
theorem lw_p16 : lw_okq (⟨"LighterAtDusk", "comeAboard", "(II)I"⟩, 13) := ⟨⟨by decide +kernel, by decide +kernel⟩, List.mem_of_getElem? (i := 23) (by decide +kernel), List.mem_of_getElem? (i := 625) (by decide +kernel), List.mem_of_getElem? (i := 626) (by decide +kernel)⟩
theorem lw_p17 : lw_okq (⟨"LighterAtDusk", "goOff", "(I)I"⟩, 13) := ⟨⟨by decide +kernel, by decide +kernel⟩, List.mem_of_getElem? (i := 23) (by decide +kernel), List.mem_of_getElem? (i := 639) (by decide +kernel), List.mem_of_getElem? (i := 640) (by decide +kernel)⟩
theorem lw_p18 : lw_okq (⟨"LighterAtDusk", "tread", "(II)I"⟩, 13) := ⟨⟨by decide +kernel, by decide +kernel⟩, List.mem_of_getElem? (i := 23) (by decide +kernel), List.mem_of_getElem? (i := 647) (by decide +kernel), List.mem_of_getElem? (i := 648) (by decide +kernel)⟩
theorem lw_p19 : lw_okq (⟨"LighterAtDusk", "act", "(I)Z"⟩, 13) := ⟨⟨by decide +kernel, by decide +kernel⟩, List.mem_of_getElem? (i := 23) (by decide +kernel), List.mem_of_getElem? (i := 658) (by decide +kernel), List.mem_of_getElem? (i := 659) (by decide +kernel)⟩
theorem lw_p20 : lw_okq (⟨"LighterAtDusk$Deck", "copyFrom", "([II)V"⟩, 9) := ⟨⟨by decide +kernel, by decide +kernel⟩, List.mem_of_getElem? (i := 123) (by decide +kernel), List.mem_of_getElem? (i := 670) (by decide +kernel), List.mem_of_getElem? (i := 671) (by decide +kernel)⟩
theorem lw_p21 : lw_okq (⟨"LighterAtDusk", "bellsWithin", "(III)I"⟩, 13) := ⟨⟨by decide +kernel, by decide +kernel⟩, List.mem_of_getElem? (i := 23) (by decide +kernel), List.mem_of_getElem? (i := 692) (by decide +kernel), List.mem_of_getElem? (i := 693) (by decide +kernel)⟩
theorem lw_p22 : lw_okq (⟨"LighterAtDusk", "dawn", "()I"⟩, 13) := ⟨⟨by decide +kernel, by decide +kernel⟩, List.mem_of_getElem? (i := 23) (by decide +kernel), List.mem_of_getElem? (i := 696) (by decide +kernel), List.mem_of_getElem? (i := 697) (by decide +kernel)⟩
theorem lw_p23 : lw_okq (⟨"LighterAtDusk", "firstClimb", "(II)I"⟩, 13) := ⟨⟨by decide +kernel, by decide +kernel⟩, List.mem_of_getElem? (i := 23) (by decide +kernel), List.mem_of_getElem? (i := 704) (by decide +kernel), List.mem_of_getElem? (i := 705) (by decide +kernel)⟩
theorem lw_p24 : lw_okq (⟨"LighterAtDusk", "isFuller", "(II)Z"⟩, 13) := ⟨⟨by decide +kernel, by decide +kernel⟩, List.mem_of_getElem? (i := 23) (by decide +kernel), List.mem_of_getElem? (i := 724) (by decide +kernel), List.mem_of_getElem? (i := 725) (by decide +kernel)⟩
theorem lw_p25 : lw_okq (⟨"LighterAtDusk$Tasks", "suitedBy", "(I)I"⟩, 7) := ⟨⟨by decide +kernel, by decide +kernel⟩, List.mem_of_getElem? (i := 224) (by decide +kernel), List.mem_of_getElem? (i := 772) (by decide +kernel), List.mem_of_getElem? (i := 773) (by decide +kernel)⟩
theorem lw_p26 : lw_okq (⟨"LighterAtDusk$Tasks", "canBeLeft", "(II)Z"⟩, 7) := ⟨⟨by decide +kernel, by decide +kernel⟩, List.mem_of_getElem? (i := 224) (by decide +kernel), List.mem_of_getElem? (i := 791) (by decide +kernel), List.mem_of_getElem? (i := 792) (by decide +kernel)⟩
theorem lw_p27 : lw_okq (⟨"LighterAtDusk$Tasks", "nextTask", "(II)I"⟩, 7) := ⟨⟨by decide +kernel, by decide +kernel⟩, List.mem_of_getElem? (i := 224) (by decide +kernel), List.mem_of_getElem? (i := 800) (by decide +kernel), List.mem_of_getElem? (i := 801) (by decide +kernel)⟩
theorem lw_p28 : lw_okq (⟨"LighterAtDusk$Tasks", "groupsOf", "(I)J"⟩, 7) := ⟨⟨by decide +kernel, by decide +kernel⟩, List.mem_of_getElem? (i := 224) (by decide +kernel), List.mem_of_getElem? (i := 813) (by decide +kernel), List.mem_of_getElem? (i := 814) (by decide +kernel)⟩
theorem lw_p29 : lw_okq (⟨"LighterAtDusk", "canRow", "(I)Z"⟩, 13) := ⟨⟨by decide +kernel, by decide +kernel⟩, List.mem_of_getElem? (i := 23) (by decide +kernel), List.mem_of_getElem? (i := 822) (by decide +kernel), List.mem_of_getElem? (i := 823) (by decide +kernel)⟩
theorem lw_p30 : lw_okq (⟨"LighterAtDusk$River", "reach", "(II)V"⟩, 5) := ⟨⟨by decide +kernel, by decide +kernel⟩, List.mem_of_getElem? (i := 257) (by decide +kernel), List.mem_of_getElem? (i := 841) (by decide +kernel), List.mem_of_getElem? (i := 842) (by decide +kernel)⟩
theorem lw_p31 : lw_okq (⟨"LighterAtDusk$River", "canEnd", "(I)Z"⟩, 5) := ⟨⟨by decide +kernel, by decide +kernel⟩, List.mem_of_getElem? (i := 257) (by decide +kernel), List.mem_of_getElem? (i := 846) (by decide +kernel), List.mem_of_getElem? (i := 847) (by decide +kernel)⟩
def lw_privs_2 : List (MethodName × Nat) := [(⟨"LighterAtDusk", "comeAboard", "(II)I"⟩, 13), (⟨"LighterAtDusk", "goOff", "(I)I"⟩, 13), (⟨"LighterAtDusk", "tread", "(II)I"⟩, 13), (⟨"LighterAtDusk", "act", "(I)Z"⟩, 13), (⟨"LighterAtDusk$Deck", "copyFrom", "([II)V"⟩, 9), (⟨"LighterAtDusk", "bellsWithin", "(III)I"⟩, 13), (⟨"LighterAtDusk", "dawn", "()I"⟩, 13), (⟨"LighterAtDusk", "firstClimb", "(II)I"⟩, 13), (⟨"LighterAtDusk", "isFuller", "(II)Z"⟩, 13), (⟨"LighterAtDusk$Tasks", "suitedBy", "(I)I"⟩, 7), (⟨"LighterAtDusk$Tasks", "canBeLeft", "(II)Z"⟩, 7), (⟨"LighterAtDusk$Tasks", "nextTask", "(II)I"⟩, 7), (⟨"LighterAtDusk$Tasks", "groupsOf", "(I)J"⟩, 7), (⟨"LighterAtDusk", "canRow", "(I)Z"⟩, 13), (⟨"LighterAtDusk$River", "reach", "(II)V"⟩, 5), (⟨"LighterAtDusk$River", "canEnd", "(I)Z"⟩, 5)]
theorem lw_r2 : ∀ q ∈ lw_privs_2, lw_okq q := List.forall_mem_cons.mpr ⟨lw_p16, List.forall_mem_cons.mpr ⟨lw_p17, List.forall_mem_cons.mpr ⟨lw_p18, List.forall_mem_cons.mpr ⟨lw_p19, List.forall_mem_cons.mpr ⟨lw_p20, List.forall_mem_cons.mpr ⟨lw_p21, List.forall_mem_cons.mpr ⟨lw_p22, List.forall_mem_cons.mpr ⟨lw_p23, List.forall_mem_cons.mpr ⟨lw_p24, List.forall_mem_cons.mpr ⟨lw_p25, List.forall_mem_cons.mpr ⟨lw_p26, List.forall_mem_cons.mpr ⟨lw_p27, List.forall_mem_cons.mpr ⟨lw_p28, List.forall_mem_cons.mpr ⟨lw_p29, List.forall_mem_cons.mpr ⟨lw_p30, List.forall_mem_cons.mpr ⟨lw_p31, fun _ h => absurd h List.not_mem_nil⟩⟩⟩⟩⟩⟩⟩⟩⟩⟩⟩⟩⟩⟩⟩⟩
theorem lw_p32 : lw_okq (⟨"LighterAtDusk$River", "isReached", "(II)Z"⟩, 5) := ⟨⟨by decide +kernel, by decide +kernel⟩, List.mem_of_getElem? (i := 257) (by decide +kernel), List.mem_of_getElem? (i := 850) (by decide +kernel), List.mem_of_getElem? (i := 851) (by decide +kernel)⟩
theorem lw_p33 : lw_okq (⟨"LighterAtDusk$River", "carries", "(I)Z"⟩, 5) := ⟨⟨by decide +kernel, by decide +kernel⟩, List.mem_of_getElem? (i := 257) (by decide +kernel), List.mem_of_getElem? (i := 854) (by decide +kernel), List.mem_of_getElem? (i := 855) (by decide +kernel)⟩
theorem lw_p34 : lw_okq (⟨"LighterAtDusk$River", "widen", "(I)V"⟩, 5) := ⟨⟨by decide +kernel, by decide +kernel⟩, List.mem_of_getElem? (i := 257) (by decide +kernel), List.mem_of_getElem? (i := 858) (by decide +kernel), List.mem_of_getElem? (i := 859) (by decide +kernel)⟩
theorem lw_p35 : lw_okq (⟨"LighterAtDusk$River", "bankOf", "(II)I"⟩, 5) := ⟨⟨by decide +kernel, by decide +kernel⟩, List.mem_of_getElem? (i := 257) (by decide +kernel), List.mem_of_getElem? (i := 862) (by decide +kernel), List.mem_of_getElem? (i := 863) (by decide +kernel)⟩
theorem lw_p36 : lw_okq (⟨"LighterAtDusk$River", "prune", "(I)V"⟩, 5) := ⟨⟨by decide +kernel, by decide +kernel⟩, List.mem_of_getElem? (i := 257) (by decide +kernel), List.mem_of_getElem? (i := 870) (by decide +kernel), List.mem_of_getElem? (i := 871) (by decide +kernel)⟩
theorem lw_p37 : lw_okq (⟨"LighterAtDusk$River", "leastLoad", "(II)I"⟩, 5) := ⟨⟨by decide +kernel, by decide +kernel⟩, List.mem_of_getElem? (i := 257) (by decide +kernel), List.mem_of_getElem? (i := 874) (by decide +kernel), List.mem_of_getElem? (i := 875) (by decide +kernel)⟩
theorem lw_p38 : lw_okq (⟨"LighterAtDusk$River", "leave", "(II)V"⟩, 5) := ⟨⟨by decide +kernel, by decide +kernel⟩, List.mem_of_getElem? (i := 257) (by decide +kernel), List.mem_of_getElem? (i := 878) (by decide +kernel), List.mem_of_getElem? (i := 879) (by decide +kernel)⟩
theorem lw_p39 : lw_okq (⟨"LighterAtDusk$Stance", "begin", "(I)V"⟩, 10) := ⟨⟨by decide +kernel, by decide +kernel⟩, List.mem_of_getElem? (i := 893) (by decide +kernel), List.mem_of_getElem? (i := 934) (by decide +kernel), List.mem_of_getElem? (i := 935) (by decide +kernel)⟩
theorem lw_p40 : lw_okq (⟨"LighterAtDusk$Stance", "weighAt", "(I)V"⟩, 10) := ⟨⟨by decide +kernel, by decide +kernel⟩, List.mem_of_getElem? (i := 893) (by decide +kernel), List.mem_of_getElem? (i := 941) (by decide +kernel), List.mem_of_getElem? (i := 942) (by decide +kernel)⟩
theorem lw_p41 : lw_okq (⟨"LighterAtDusk$Stance", "widenFrom", "(II)Z"⟩, 10) := ⟨⟨by decide +kernel, by decide +kernel⟩, List.mem_of_getElem? (i := 893) (by decide +kernel), List.mem_of_getElem? (i := 949) (by decide +kernel), List.mem_of_getElem? (i := 950) (by decide +kernel)⟩
theorem lw_p42 : lw_okq (⟨"LighterAtDusk$Stance", "leanOf", "(I)I"⟩, 10) := ⟨⟨by decide +kernel, by decide +kernel⟩, List.mem_of_getElem? (i := 893) (by decide +kernel), List.mem_of_getElem? (i := 953) (by decide +kernel), List.mem_of_getElem? (i := 954) (by decide +kernel)⟩
theorem lw_p43 : lw_okq (⟨"LighterAtDusk$Stance", "bearsLean", "(I)Z"⟩, 10) := ⟨⟨by decide +kernel, by decide +kernel⟩, List.mem_of_getElem? (i := 893) (by decide +kernel), List.mem_of_getElem? (i := 957) (by decide +kernel), List.mem_of_getElem? (i := 958) (by decide +kernel)⟩
theorem lw_p44 : lw_okq (⟨"LighterAtDusk$Stance", "addWay", "(II)Z"⟩, 10) := ⟨⟨by decide +kernel, by decide +kernel⟩, List.mem_of_getElem? (i := 893) (by decide +kernel), List.mem_of_getElem? (i := 961) (by decide +kernel), List.mem_of_getElem? (i := 962) (by decide +kernel)⟩
theorem lw_p45 : lw_okq (⟨"LighterAtDusk$Stance", "slotOf", "(II)I"⟩, 10) := ⟨⟨by decide +kernel, by decide +kernel⟩, List.mem_of_getElem? (i := 893) (by decide +kernel), List.mem_of_getElem? (i := 965) (by decide +kernel), List.mem_of_getElem? (i := 966) (by decide +kernel)⟩
theorem lw_p46 : lw_okq (⟨"LighterAtDusk$Stance", "stepped", "(IIII)I"⟩, 10) := ⟨⟨by decide +kernel, by decide +kernel⟩, List.mem_of_getElem? (i := 893) (by decide +kernel), List.mem_of_getElem? (i := 970) (by decide +kernel), List.mem_of_getElem? (i := 971) (by decide +kernel)⟩
theorem lw_p47 : lw_okq (⟨"LighterAtDusk$Stance", "bestFrom", "(II)I"⟩, 10) := ⟨⟨by decide +kernel, by decide +kernel⟩, List.mem_of_getElem? (i := 893) (by decide +kernel), List.mem_of_getElem? (i := 978) (by decide +kernel), List.mem_of_getElem? (i := 979) (by decide +kernel)⟩
def lw_privs_3 : List (MethodName × Nat) := [(⟨"LighterAtDusk$River", "isReached", "(II)Z"⟩, 5), (⟨"LighterAtDusk$River", "carries", "(I)Z"⟩, 5), (⟨"LighterAtDusk$River", "widen", "(I)V"⟩, 5), (⟨"LighterAtDusk$River", "bankOf", "(II)I"⟩, 5), (⟨"LighterAtDusk$River", "prune", "(I)V"⟩, 5), (⟨"LighterAtDusk$River", "leastLoad", "(II)I"⟩, 5), (⟨"LighterAtDusk$River", "leave", "(II)V"⟩, 5), (⟨"LighterAtDusk$Stance", "begin", "(I)V"⟩, 10), (⟨"LighterAtDusk$Stance", "weighAt", "(I)V"⟩, 10), (⟨"LighterAtDusk$Stance", "widenFrom", "(II)Z"⟩, 10), (⟨"LighterAtDusk$Stance", "leanOf", "(I)I"⟩, 10), (⟨"LighterAtDusk$Stance", "bearsLean", "(I)Z"⟩, 10), (⟨"LighterAtDusk$Stance", "addWay", "(II)Z"⟩, 10), (⟨"LighterAtDusk$Stance", "slotOf", "(II)I"⟩, 10), (⟨"LighterAtDusk$Stance", "stepped", "(IIII)I"⟩, 10), (⟨"LighterAtDusk$Stance", "bestFrom", "(II)I"⟩, 10)]
theorem lw_r3 : ∀ q ∈ lw_privs_3, lw_okq q := List.forall_mem_cons.mpr ⟨lw_p32, List.forall_mem_cons.mpr ⟨lw_p33, List.forall_mem_cons.mpr ⟨lw_p34, List.forall_mem_cons.mpr ⟨lw_p35, List.forall_mem_cons.mpr ⟨lw_p36, List.forall_mem_cons.mpr ⟨lw_p37, List.forall_mem_cons.mpr ⟨lw_p38, List.forall_mem_cons.mpr ⟨lw_p39, List.forall_mem_cons.mpr ⟨lw_p40, List.forall_mem_cons.mpr ⟨lw_p41, List.forall_mem_cons.mpr ⟨lw_p42, List.forall_mem_cons.mpr ⟨lw_p43, List.forall_mem_cons.mpr ⟨lw_p44, List.forall_mem_cons.mpr ⟨lw_p45, List.forall_mem_cons.mpr ⟨lw_p46, List.forall_mem_cons.mpr ⟨lw_p47, fun _ h => absurd h List.not_mem_nil⟩⟩⟩⟩⟩⟩⟩⟩⟩⟩⟩⟩⟩⟩⟩⟩
theorem lw_p48 : lw_okq (⟨"LighterAtDusk$Stance", "bestBy", "(IIII)I"⟩, 10) := ⟨⟨by decide +kernel, by decide +kernel⟩, List.mem_of_getElem? (i := 893) (by decide +kernel), List.mem_of_getElem? (i := 983) (by decide +kernel), List.mem_of_getElem? (i := 984) (by decide +kernel)⟩
theorem lw_p49 : lw_okq (⟨"LighterAtDusk$Stance", "indexOf", "(II)I"⟩, 10) := ⟨⟨by decide +kernel, by decide +kernel⟩, List.mem_of_getElem? (i := 893) (by decide +kernel), List.mem_of_getElem? (i := 993) (by decide +kernel), List.mem_of_getElem? (i := 994) (by decide +kernel)⟩
theorem lw_p50 : lw_okq (⟨"LighterAtDusk$Stance", "behindMove", "(II)I"⟩, 10) := ⟨⟨by decide +kernel, by decide +kernel⟩, List.mem_of_getElem? (i := 893) (by decide +kernel), List.mem_of_getElem? (i := 998) (by decide +kernel), List.mem_of_getElem? (i := 999) (by decide +kernel)⟩
theorem lw_p51 : lw_okq (⟨"LighterAtDusk", "areApart", "(II)Z"⟩, 13) := ⟨⟨by decide +kernel, by decide +kernel⟩, List.mem_of_getElem? (i := 23) (by decide +kernel), List.mem_of_getElem? (i := 1010) (by decide +kernel), List.mem_of_getElem? (i := 1011) (by decide +kernel)⟩
theorem lw_p52 : lw_okq (⟨"LighterAtDusk", "overweight", "(III)I"⟩, 13) := ⟨⟨by decide +kernel, by decide +kernel⟩, List.mem_of_getElem? (i := 23) (by decide +kernel), List.mem_of_getElem? (i := 1014) (by decide +kernel), List.mem_of_getElem? (i := 1015) (by decide +kernel)⟩
theorem lw_p53 : lw_okq (⟨"LighterAtDusk", "canBeFalse", "(I)Z"⟩, 13) := ⟨⟨by decide +kernel, by decide +kernel⟩, List.mem_of_getElem? (i := 23) (by decide +kernel), List.mem_of_getElem? (i := 1067) (by decide +kernel), List.mem_of_getElem? (i := 1068) (by decide +kernel)⟩
theorem lw_p54 : lw_okq (⟨"LighterAtDusk", "thingsThatFit", "(III)I"⟩, 13) := ⟨⟨by decide +kernel, by decide +kernel⟩, List.mem_of_getElem? (i := 23) (by decide +kernel), List.mem_of_getElem? (i := 1079) (by decide +kernel), List.mem_of_getElem? (i := 1080) (by decide +kernel)⟩
theorem lw_p55 : lw_okq (⟨"LighterAtDusk", "isSlighter", "(II)Z"⟩, 13) := ⟨⟨by decide +kernel, by decide +kernel⟩, List.mem_of_getElem? (i := 23) (by decide +kernel), List.mem_of_getElem? (i := 1092) (by decide +kernel), List.mem_of_getElem? (i := 1093) (by decide +kernel)⟩
theorem lw_p56 : lw_okq (⟨"LighterAtDusk", "leastLoad", "(II)I"⟩, 13) := ⟨⟨by decide +kernel, by decide +kernel⟩, List.mem_of_getElem? (i := 23) (by decide +kernel), List.mem_of_getElem? (i := 1100) (by decide +kernel), List.mem_of_getElem? (i := 1101) (by decide +kernel)⟩
theorem lw_p57 : lw_okq (⟨"LighterAtDusk", "loadIfNext", "(III)I"⟩, 13) := ⟨⟨by decide +kernel, by decide +kernel⟩, List.mem_of_getElem? (i := 23) (by decide +kernel), List.mem_of_getElem? (i := 1104) (by decide +kernel), List.mem_of_getElem? (i := 1105) (by decide +kernel)⟩
theorem lw_p58 : lw_okq (⟨"LighterAtDusk", "nextCarried", "(II)I"⟩, 13) := ⟨⟨by decide +kernel, by decide +kernel⟩, List.mem_of_getElem? (i := 23) (by decide +kernel), List.mem_of_getElem? (i := 1108) (by decide +kernel), List.mem_of_getElem? (i := 1109) (by decide +kernel)⟩
theorem lw_p59 : lw_okq (⟨"java/lang/Throwable", "fillInStackTrace", "(I)Ljava/lang/Throwable;"⟩, 6) := ⟨⟨by decide +kernel, by decide +kernel⟩, List.mem_of_getElem? (i := 1176) (by decide +kernel), List.mem_of_getElem? (i := 1174) (by decide +kernel), List.mem_of_getElem? (i := 1175) (by decide +kernel)⟩
theorem lw_p60 : lw_okq (⟨"LighterAtDuskModel", "begin", "([BII)V"⟩, 53) := ⟨⟨by decide +kernel, by decide +kernel⟩, List.mem_of_getElem? (i := 1247) (by decide +kernel), List.mem_of_getElem? (i := 1434) (by decide +kernel), List.mem_of_getElem? (i := 1435) (by decide +kernel)⟩
theorem lw_p61 : lw_okq (⟨"LighterAtDuskModel", "fine", "()Z"⟩, 53) := ⟨⟨by decide +kernel, by decide +kernel⟩, List.mem_of_getElem? (i := 1247) (by decide +kernel), List.mem_of_getElem? (i := 1438) (by decide +kernel), List.mem_of_getElem? (i := 1439) (by decide +kernel)⟩
theorem lw_p62 : lw_okq (⟨"LighterAtDuskModel", "fault", "(I)V"⟩, 53) := ⟨⟨by decide +kernel, by decide +kernel⟩, List.mem_of_getElem? (i := 1247) (by decide +kernel), List.mem_of_getElem? (i := 1442) (by decide +kernel), List.mem_of_getElem? (i := 1443) (by decide +kernel)⟩
theorem lw_p63 : lw_okq (⟨"LighterAtDuskModel", "readOne", "(I)V"⟩, 53) := ⟨⟨by decide +kernel, by decide +kernel⟩, List.mem_of_getElem? (i := 1247) (by decide +kernel), List.mem_of_getElem? (i := 1446) (by decide +kernel), List.mem_of_getElem? (i := 1447) (by decide +kernel)⟩
def lw_privs_4 : List (MethodName × Nat) := [(⟨"LighterAtDusk$Stance", "bestBy", "(IIII)I"⟩, 10), (⟨"LighterAtDusk$Stance", "indexOf", "(II)I"⟩, 10), (⟨"LighterAtDusk$Stance", "behindMove", "(II)I"⟩, 10), (⟨"LighterAtDusk", "areApart", "(II)Z"⟩, 13), (⟨"LighterAtDusk", "overweight", "(III)I"⟩, 13), (⟨"LighterAtDusk", "canBeFalse", "(I)Z"⟩, 13), (⟨"LighterAtDusk", "thingsThatFit", "(III)I"⟩, 13), (⟨"LighterAtDusk", "isSlighter", "(II)Z"⟩, 13), (⟨"LighterAtDusk", "leastLoad", "(II)I"⟩, 13), (⟨"LighterAtDusk", "loadIfNext", "(III)I"⟩, 13), (⟨"LighterAtDusk", "nextCarried", "(II)I"⟩, 13), (⟨"java/lang/Throwable", "fillInStackTrace", "(I)Ljava/lang/Throwable;"⟩, 6), (⟨"LighterAtDuskModel", "begin", "([BII)V"⟩, 53), (⟨"LighterAtDuskModel", "fine", "()Z"⟩, 53), (⟨"LighterAtDuskModel", "fault", "(I)V"⟩, 53), (⟨"LighterAtDuskModel", "readOne", "(I)V"⟩, 53)]
theorem lw_r4 : ∀ q ∈ lw_privs_4, lw_okq q := List.forall_mem_cons.mpr ⟨lw_p48, List.forall_mem_cons.mpr ⟨lw_p49, List.forall_mem_cons.mpr ⟨lw_p50, List.forall_mem_cons.mpr ⟨lw_p51, List.forall_mem_cons.mpr ⟨lw_p52, List.forall_mem_cons.mpr ⟨lw_p53, List.forall_mem_cons.mpr ⟨lw_p54, List.forall_mem_cons.mpr ⟨lw_p55, List.forall_mem_cons.mpr ⟨lw_p56, List.forall_mem_cons.mpr ⟨lw_p57, List.forall_mem_cons.mpr ⟨lw_p58, List.forall_mem_cons.mpr ⟨lw_p59, List.forall_mem_cons.mpr ⟨lw_p60, List.forall_mem_cons.mpr ⟨lw_p61, List.forall_mem_cons.mpr ⟨lw_p62, List.forall_mem_cons.mpr ⟨lw_p63, fun _ h => absurd h List.not_mem_nil⟩⟩⟩⟩⟩⟩⟩⟩⟩⟩⟩⟩⟩⟩⟩⟩
theorem lw_p64 : lw_okq (⟨"LighterAtDuskModel", "here", "()I"⟩, 53) := ⟨⟨by decide +kernel, by decide +kernel⟩, List.mem_of_getElem? (i := 1247) (by decide +kernel), List.mem_of_getElem? (i := 1450) (by decide +kernel), List.mem_of_getElem? (i := 1451) (by decide +kernel)⟩
theorem lw_p65 : lw_okq (⟨"LighterAtDuskModel", "number", "(I)I"⟩, 53) := ⟨⟨by decide +kernel, by decide +kernel⟩, List.mem_of_getElem? (i := 1247) (by decide +kernel), List.mem_of_getElem? (i := 1454) (by decide +kernel), List.mem_of_getElem? (i := 1455) (by decide +kernel)⟩
theorem lw_p66 : lw_okq (⟨"LighterAtDuskModel", "passes", "(C)Z"⟩, 53) := ⟨⟨by decide +kernel, by decide +kernel⟩, List.mem_of_getElem? (i := 1247) (by decide +kernel), List.mem_of_getElem? (i := 1458) (by decide +kernel), List.mem_of_getElem? (i := 1459) (by decide +kernel)⟩
theorem lw_p67 : lw_okq (⟨"LighterAtDuskModel", "held", "(I)I"⟩, 53) := ⟨⟨by decide +kernel, by decide +kernel⟩, List.mem_of_getElem? (i := 1247) (by decide +kernel), List.mem_of_getElem? (i := 1466) (by decide +kernel), List.mem_of_getElem? (i := 1467) (by decide +kernel)⟩
theorem lw_p68 : lw_okq (⟨"LighterAtDuskModel", "sum", "(I)I"⟩, 53) := ⟨⟨by decide +kernel, by decide +kernel⟩, List.mem_of_getElem? (i := 1247) (by decide +kernel), List.mem_of_getElem? (i := 1470) (by decide +kernel), List.mem_of_getElem? (i := 1471) (by decide +kernel)⟩
theorem lw_p69 : lw_okq (⟨"LighterAtDuskModel", "product", "(I)I"⟩, 53) := ⟨⟨by decide +kernel, by decide +kernel⟩, List.mem_of_getElem? (i := 1247) (by decide +kernel), List.mem_of_getElem? (i := 1474) (by decide +kernel), List.mem_of_getElem? (i := 1475) (by decide +kernel)⟩
theorem lw_p70 : lw_okq (⟨"LighterAtDuskModel", "thing", "(I)I"⟩, 53) := ⟨⟨by decide +kernel, by decide +kernel⟩, List.mem_of_getElem? (i := 1247) (by decide +kernel), List.mem_of_getElem? (i := 1478) (by decide +kernel), List.mem_of_getElem? (i := 1479) (by decide +kernel)⟩
theorem lw_p71 : lw_okq (⟨"LighterAtDuskModel", "need", "(C)V"⟩, 53) := ⟨⟨by decide +kernel, by decide +kernel⟩, List.mem_of_getElem? (i := 1247) (by decide +kernel), List.mem_of_getElem? (i := 1482) (by decide +kernel), List.mem_of_getElem? (i := 1483) (by decide +kernel)⟩
theorem lw_p72 : lw_okq (⟨"LighterAtDuskModel", "isOne", "(I)Z"⟩, 53) := ⟨⟨by decide +kernel, by decide +kernel⟩, List.mem_of_getElem? (i := 1247) (by decide +kernel), List.mem_of_getElem? (i := 1490) (by decide +kernel), List.mem_of_getElem? (i := 1491) (by decide +kernel)⟩
theorem lw_p73 : lw_okq (⟨"LighterAtDuskModel", "lost", "()I"⟩, 53) := ⟨⟨by decide +kernel, by decide +kernel⟩, List.mem_of_getElem? (i := 1247) (by decide +kernel), List.mem_of_getElem? (i := 1494) (by decide +kernel), List.mem_of_getElem? (i := 1495) (by decide +kernel)⟩
theorem lw_p74 : lw_okq (⟨"LighterAtDuskModel", "weightOf", "(II)I"⟩, 53) := ⟨⟨by decide +kernel, by decide +kernel⟩, List.mem_of_getElem? (i := 1247) (by decide +kernel), List.mem_of_getElem? (i := 1498) (by decide +kernel), List.mem_of_getElem? (i := 1499) (by decide +kernel)⟩
theorem lw_p75 : lw_okq (⟨"LighterAtDuskModel", "weightBy", "(III)I"⟩, 53) := ⟨⟨by decide +kernel, by decide +kernel⟩, List.mem_of_getElem? (i := 1247) (by decide +kernel), List.mem_of_getElem? (i := 1502) (by decide +kernel), List.mem_of_getElem? (i := 1503) (by decide +kernel)⟩
theorem lw_p76 : lw_okq (⟨"LighterAtDuskModel", "dawn", "()I"⟩, 53) := ⟨⟨by decide +kernel, by decide +kernel⟩, List.mem_of_getElem? (i := 1247) (by decide +kernel), List.mem_of_getElem? (i := 1511) (by decide +kernel), List.mem_of_getElem? (i := 1512) (by decide +kernel)⟩
theorem lw_p77 : lw_okq (⟨"LighterAtDuskModel", "areFolk", "(I)Z"⟩, 53) := ⟨⟨by decide +kernel, by decide +kernel⟩, List.mem_of_getElem? (i := 1247) (by decide +kernel), List.mem_of_getElem? (i := 1523) (by decide +kernel), List.mem_of_getElem? (i := 1524) (by decide +kernel)⟩
theorem lw_p78 : lw_okq (⟨"LighterAtDuskModel", "everybody", "()I"⟩, 53) := ⟨⟨by decide +kernel, by decide +kernel⟩, List.mem_of_getElem? (i := 1247) (by decide +kernel), List.mem_of_getElem? (i := 1527) (by decide +kernel), List.mem_of_getElem? (i := 1528) (by decide +kernel)⟩
theorem lw_p79 : lw_okq (⟨"LighterAtDuskModel", "weightOfAll", "(II)I"⟩, 53) := ⟨⟨by decide +kernel, by decide +kernel⟩, List.mem_of_getElem? (i := 1247) (by decide +kernel), List.mem_of_getElem? (i := 1531) (by decide +kernel), List.mem_of_getElem? (i := 1532) (by decide +kernel)⟩
def lw_privs_5 : List (MethodName × Nat) := [(⟨"LighterAtDuskModel", "here", "()I"⟩, 53), (⟨"LighterAtDuskModel", "number", "(I)I"⟩, 53), (⟨"LighterAtDuskModel", "passes", "(C)Z"⟩, 53), (⟨"LighterAtDuskModel", "held", "(I)I"⟩, 53), (⟨"LighterAtDuskModel", "sum", "(I)I"⟩, 53), (⟨"LighterAtDuskModel", "product", "(I)I"⟩, 53), (⟨"LighterAtDuskModel", "thing", "(I)I"⟩, 53), (⟨"LighterAtDuskModel", "need", "(C)V"⟩, 53), (⟨"LighterAtDuskModel", "isOne", "(I)Z"⟩, 53), (⟨"LighterAtDuskModel", "lost", "()I"⟩, 53), (⟨"LighterAtDuskModel", "weightOf", "(II)I"⟩, 53), (⟨"LighterAtDuskModel", "weightBy", "(III)I"⟩, 53), (⟨"LighterAtDuskModel", "dawn", "()I"⟩, 53), (⟨"LighterAtDuskModel", "areFolk", "(I)Z"⟩, 53), (⟨"LighterAtDuskModel", "everybody", "()I"⟩, 53), (⟨"LighterAtDuskModel", "weightOfAll", "(II)I"⟩, 53)]
theorem lw_r5 : ∀ q ∈ lw_privs_5, lw_okq q := List.forall_mem_cons.mpr ⟨lw_p64, List.forall_mem_cons.mpr ⟨lw_p65, List.forall_mem_cons.mpr ⟨lw_p66, List.forall_mem_cons.mpr ⟨lw_p67, List.forall_mem_cons.mpr ⟨lw_p68, List.forall_mem_cons.mpr ⟨lw_p69, List.forall_mem_cons.mpr ⟨lw_p70, List.forall_mem_cons.mpr ⟨lw_p71, List.forall_mem_cons.mpr ⟨lw_p72, List.forall_mem_cons.mpr ⟨lw_p73, List.forall_mem_cons.mpr ⟨lw_p74, List.forall_mem_cons.mpr ⟨lw_p75, List.forall_mem_cons.mpr ⟨lw_p76, List.forall_mem_cons.mpr ⟨lw_p77, List.forall_mem_cons.mpr ⟨lw_p78, List.forall_mem_cons.mpr ⟨lw_p79, fun _ h => absurd h List.not_mem_nil⟩⟩⟩⟩⟩⟩⟩⟩⟩⟩⟩⟩⟩⟩⟩⟩
theorem lw_p80 : lw_okq (⟨"LighterAtDuskModel", "remember", "([I)V"⟩, 53) := ⟨⟨by decide +kernel, by decide +kernel⟩, List.mem_of_getElem? (i := 1247) (by decide +kernel), List.mem_of_getElem? (i := 1550) (by decide +kernel), List.mem_of_getElem? (i := 1551) (by decide +kernel)⟩
theorem lw_p81 : lw_okq (⟨"LighterAtDuskModel", "isTipping", "([I)Z"⟩, 53) := ⟨⟨by decide +kernel, by decide +kernel⟩, List.mem_of_getElem? (i := 1247) (by decide +kernel), List.mem_of_getElem? (i := 1557) (by decide +kernel), List.mem_of_getElem? (i := 1558) (by decide +kernel)⟩
theorem lw_p82 : lw_okq (⟨"LighterAtDuskModel", "leanOf", "([II)I"⟩, 53) := ⟨⟨by decide +kernel, by decide +kernel⟩, List.mem_of_getElem? (i := 1247) (by decide +kernel), List.mem_of_getElem? (i := 1561) (by decide +kernel), List.mem_of_getElem? (i := 1562) (by decide +kernel)⟩
theorem lw_p83 : lw_okq (⟨"LighterAtDuskModel", "isTipping", "(I)Z"⟩, 53) := ⟨⟨by decide +kernel, by decide +kernel⟩, List.mem_of_getElem? (i := 1247) (by decide +kernel), List.mem_of_getElem? (i := 1565) (by decide +kernel), List.mem_of_getElem? (i := 1566) (by decide +kernel)⟩
theorem lw_p84 : lw_okq (⟨"LighterAtDuskModel", "tell", "(I)V"⟩, 53) := ⟨⟨by decide +kernel, by decide +kernel⟩, List.mem_of_getElem? (i := 1247) (by decide +kernel), List.mem_of_getElem? (i := 1570) (by decide +kernel), List.mem_of_getElem? (i := 1571) (by decide +kernel)⟩
theorem lw_p85 : lw_okq (⟨"LighterAtDuskModel", "tryBoard", "(II)I"⟩, 53) := ⟨⟨by decide +kernel, by decide +kernel⟩, List.mem_of_getElem? (i := 1247) (by decide +kernel), List.mem_of_getElem? (i := 1578) (by decide +kernel), List.mem_of_getElem? (i := 1579) (by decide +kernel)⟩
theorem lw_p86 : lw_okq (⟨"LighterAtDuskModel", "doTried", "()V"⟩, 53) := ⟨⟨by decide +kernel, by decide +kernel⟩, List.mem_of_getElem? (i := 1247) (by decide +kernel), List.mem_of_getElem? (i := 1582) (by decide +kernel), List.mem_of_getElem? (i := 1583) (by decide +kernel)⟩
theorem lw_p87 : lw_okq (⟨"LighterAtDuskModel", "tryOff", "(I)I"⟩, 53) := ⟨⟨by decide +kernel, by decide +kernel⟩, List.mem_of_getElem? (i := 1247) (by decide +kernel), List.mem_of_getElem? (i := 1590) (by decide +kernel), List.mem_of_getElem? (i := 1591) (by decide +kernel)⟩
theorem lw_p88 : lw_okq (⟨"LighterAtDuskModel", "tryStep", "(II)I"⟩, 53) := ⟨⟨by decide +kernel, by decide +kernel⟩, List.mem_of_getElem? (i := 1247) (by decide +kernel), List.mem_of_getElem? (i := 1598) (by decide +kernel), List.mem_of_getElem? (i := 1599) (by decide +kernel)⟩
theorem lw_p89 : lw_okq (⟨"LighterAtDuskModel", "readAct", "(I)V"⟩, 53) := ⟨⟨by decide +kernel, by decide +kernel⟩, List.mem_of_getElem? (i := 1247) (by decide +kernel), List.mem_of_getElem? (i := 1606) (by decide +kernel), List.mem_of_getElem? (i := 1607) (by decide +kernel)⟩
theorem lw_p90 : lw_okq (⟨"LighterAtDuskModel", "letter", "()I"⟩, 53) := ⟨⟨by decide +kernel, by decide +kernel⟩, List.mem_of_getElem? (i := 1247) (by decide +kernel), List.mem_of_getElem? (i := 1610) (by decide +kernel), List.mem_of_getElem? (i := 1611) (by decide +kernel)⟩
theorem lw_p91 : lw_okq (⟨"LighterAtDuskModel", "act", "(I)Z"⟩, 53) := ⟨⟨by decide +kernel, by decide +kernel⟩, List.mem_of_getElem? (i := 1247) (by decide +kernel), List.mem_of_getElem? (i := 1614) (by decide +kernel), List.mem_of_getElem? (i := 1615) (by decide +kernel)⟩
theorem lw_p92 : lw_okq (⟨"LighterAtDuskModel", "findSets", "(I)V"⟩, 53) := ⟨⟨by decide +kernel, by decide +kernel⟩, List.mem_of_getElem? (i := 1247) (by decide +kernel), List.mem_of_getElem? (i := 1653) (by decide +kernel), List.mem_of_getElem? (i := 1654) (by decide +kernel)⟩
theorem lw_p93 : lw_okq (⟨"LighterAtDuskModel", "crewOf", "(I)I"⟩, 53) := ⟨⟨by decide +kernel, by decide +kernel⟩, List.mem_of_getElem? (i := 1247) (by decide +kernel), List.mem_of_getElem? (i := 1682) (by decide +kernel), List.mem_of_getElem? (i := 1683) (by decide +kernel)⟩
theorem lw_p94 : lw_okq (⟨"LighterAtDuskModel", "does", "(II)Z"⟩, 53) := ⟨⟨by decide +kernel, by decide +kernel⟩, List.mem_of_getElem? (i := 1247) (by decide +kernel), List.mem_of_getElem? (i := 1686) (by decide +kernel), List.mem_of_getElem? (i := 1687) (by decide +kernel)⟩
theorem lw_p95 : lw_okq (⟨"LighterAtDuskModel", "findAble", "()V"⟩, 53) := ⟨⟨by decide +kernel, by decide +kernel⟩, List.mem_of_getElem? (i := 1247) (by decide +kernel), List.mem_of_getElem? (i := 1694) (by decide +kernel), List.mem_of_getElem? (i := 1695) (by decide +kernel)⟩
def lw_privs_6 : List (MethodName × Nat) := [(⟨"LighterAtDuskModel", "remember", "([I)V"⟩, 53), (⟨"LighterAtDuskModel", "isTipping", "([I)Z"⟩, 53), (⟨"LighterAtDuskModel", "leanOf", "([II)I"⟩, 53), (⟨"LighterAtDuskModel", "isTipping", "(I)Z"⟩, 53), (⟨"LighterAtDuskModel", "tell", "(I)V"⟩, 53), (⟨"LighterAtDuskModel", "tryBoard", "(II)I"⟩, 53), (⟨"LighterAtDuskModel", "doTried", "()V"⟩, 53), (⟨"LighterAtDuskModel", "tryOff", "(I)I"⟩, 53), (⟨"LighterAtDuskModel", "tryStep", "(II)I"⟩, 53), (⟨"LighterAtDuskModel", "readAct", "(I)V"⟩, 53), (⟨"LighterAtDuskModel", "letter", "()I"⟩, 53), (⟨"LighterAtDuskModel", "act", "(I)Z"⟩, 53), (⟨"LighterAtDuskModel", "findSets", "(I)V"⟩, 53), (⟨"LighterAtDuskModel", "crewOf", "(I)I"⟩, 53), (⟨"LighterAtDuskModel", "does", "(II)Z"⟩, 53), (⟨"LighterAtDuskModel", "findAble", "()V"⟩, 53)]
theorem lw_r6 : ∀ q ∈ lw_privs_6, lw_okq q := List.forall_mem_cons.mpr ⟨lw_p80, List.forall_mem_cons.mpr ⟨lw_p81, List.forall_mem_cons.mpr ⟨lw_p82, List.forall_mem_cons.mpr ⟨lw_p83, List.forall_mem_cons.mpr ⟨lw_p84, List.forall_mem_cons.mpr ⟨lw_p85, List.forall_mem_cons.mpr ⟨lw_p86, List.forall_mem_cons.mpr ⟨lw_p87, List.forall_mem_cons.mpr ⟨lw_p88, List.forall_mem_cons.mpr ⟨lw_p89, List.forall_mem_cons.mpr ⟨lw_p90, List.forall_mem_cons.mpr ⟨lw_p91, List.forall_mem_cons.mpr ⟨lw_p92, List.forall_mem_cons.mpr ⟨lw_p93, List.forall_mem_cons.mpr ⟨lw_p94, List.forall_mem_cons.mpr ⟨lw_p95, fun _ h => absurd h List.not_mem_nil⟩⟩⟩⟩⟩⟩⟩⟩⟩⟩⟩⟩⟩⟩⟩⟩
theorem lw_p96 : lw_okq (⟨"LighterAtDuskModel", "planFrom", "(III)Z"⟩, 53) := ⟨⟨by decide +kernel, by decide +kernel⟩, List.mem_of_getElem? (i := 1247) (by decide +kernel), List.mem_of_getElem? (i := 1702) (by decide +kernel), List.mem_of_getElem? (i := 1703) (by decide +kernel)⟩
theorem lw_p97 : lw_okq (⟨"LighterAtDuskModel", "canSetOut", "(I)Z"⟩, 53) := ⟨⟨by decide +kernel, by decide +kernel⟩, List.mem_of_getElem? (i := 1247) (by decide +kernel), List.mem_of_getElem? (i := 1714) (by decide +kernel), List.mem_of_getElem? (i := 1715) (by decide +kernel)⟩
theorem lw_p98 : lw_okq (⟨"LighterAtDuskModel", "findCross", "(II)I"⟩, 53) := ⟨⟨by decide +kernel, by decide +kernel⟩, List.mem_of_getElem? (i := 1247) (by decide +kernel), List.mem_of_getElem? (i := 1722) (by decide +kernel), List.mem_of_getElem? (i := 1723) (by decide +kernel)⟩
theorem lw_p99 : lw_okq (⟨"LighterAtDuskModel", "canCross", "(II)Z"⟩, 53) := ⟨⟨by decide +kernel, by decide +kernel⟩, List.mem_of_getElem? (i := 1247) (by decide +kernel), List.mem_of_getElem? (i := 1726) (by decide +kernel), List.mem_of_getElem? (i := 1727) (by decide +kernel)⟩
theorem lw_p100 : lw_okq (⟨"LighterAtDuskModel", "findGood", "(III)V"⟩, 53) := ⟨⟨by decide +kernel, by decide +kernel⟩, List.mem_of_getElem? (i := 1247) (by decide +kernel), List.mem_of_getElem? (i := 1731) (by decide +kernel), List.mem_of_getElem? (i := 1732) (by decide +kernel)⟩
theorem lw_p101 : lw_okq (⟨"LighterAtDuskModel", "findWays", "(I)Z"⟩, 53) := ⟨⟨by decide +kernel, by decide +kernel⟩, List.mem_of_getElem? (i := 1247) (by decide +kernel), List.mem_of_getElem? (i := 1743) (by decide +kernel), List.mem_of_getElem? (i := 1744) (by decide +kernel)⟩
theorem lw_p102 : lw_okq (⟨"LighterAtDuskModel", "codeOf", "([I)I"⟩, 53) := ⟨⟨by decide +kernel, by decide +kernel⟩, List.mem_of_getElem? (i := 1247) (by decide +kernel), List.mem_of_getElem? (i := 1747) (by decide +kernel), List.mem_of_getElem? (i := 1748) (by decide +kernel)⟩
theorem lw_p103 : lw_okq (⟨"LighterAtDuskModel", "add", "(II)Z"⟩, 53) := ⟨⟨by decide +kernel, by decide +kernel⟩, List.mem_of_getElem? (i := 1247) (by decide +kernel), List.mem_of_getElem? (i := 1751) (by decide +kernel), List.mem_of_getElem? (i := 1752) (by decide +kernel)⟩
theorem lw_p104 : lw_okq (⟨"LighterAtDuskModel", "find", "(II)I"⟩, 53) := ⟨⟨by decide +kernel, by decide +kernel⟩, List.mem_of_getElem? (i := 1247) (by decide +kernel), List.mem_of_getElem? (i := 1755) (by decide +kernel), List.mem_of_getElem? (i := 1756) (by decide +kernel)⟩
theorem lw_p105 : lw_okq (⟨"LighterAtDuskModel", "wayOf", "(II)I"⟩, 53) := ⟨⟨by decide +kernel, by decide +kernel⟩, List.mem_of_getElem? (i := 1247) (by decide +kernel), List.mem_of_getElem? (i := 1759) (by decide +kernel), List.mem_of_getElem? (i := 1760) (by decide +kernel)⟩
theorem lw_p106 : lw_okq (⟨"LighterAtDuskModel", "findEach", "(I)V"⟩, 53) := ⟨⟨by decide +kernel, by decide +kernel⟩, List.mem_of_getElem? (i := 1247) (by decide +kernel), List.mem_of_getElem? (i := 1764) (by decide +kernel), List.mem_of_getElem? (i := 1765) (by decide +kernel)⟩
theorem lw_p107 : lw_okq (⟨"LighterAtDuskModel", "layCode", "(I[I)V"⟩, 53) := ⟨⟨by decide +kernel, by decide +kernel⟩, List.mem_of_getElem? (i := 1247) (by decide +kernel), List.mem_of_getElem? (i := 1768) (by decide +kernel), List.mem_of_getElem? (i := 1769) (by decide +kernel)⟩
theorem lw_p108 : lw_okq (⟨"LighterAtDuskModel", "leanStood", "()I"⟩, 53) := ⟨⟨by decide +kernel, by decide +kernel⟩, List.mem_of_getElem? (i := 1247) (by decide +kernel), List.mem_of_getElem? (i := 1772) (by decide +kernel), List.mem_of_getElem? (i := 1773) (by decide +kernel)⟩
theorem lw_p109 : lw_okq (⟨"LighterAtDuskModel", "stepTo", "(III)I"⟩, 53) := ⟨⟨by decide +kernel, by decide +kernel⟩, List.mem_of_getElem? (i := 1247) (by decide +kernel), List.mem_of_getElem? (i := 1776) (by decide +kernel), List.mem_of_getElem? (i := 1777) (by decide +kernel)⟩
theorem lw_p110 : lw_okq (⟨"LighterAtDuskModel", "findSteps", "(I)V"⟩, 53) := ⟨⟨by decide +kernel, by decide +kernel⟩, List.mem_of_getElem? (i := 1247) (by decide +kernel), List.mem_of_getElem? (i := 1780) (by decide +kernel), List.mem_of_getElem? (i := 1781) (by decide +kernel)⟩
theorem lw_p111 : lw_okq (⟨"LighterAtDuskModel", "stepsBy", "(IIII)I"⟩, 53) := ⟨⟨by decide +kernel, by decide +kernel⟩, List.mem_of_getElem? (i := 1247) (by decide +kernel), List.mem_of_getElem? (i := 1784) (by decide +kernel), List.mem_of_getElem? (i := 1785) (by decide +kernel)⟩
def lw_privs_7 : List (MethodName × Nat) := [(⟨"LighterAtDuskModel", "planFrom", "(III)Z"⟩, 53), (⟨"LighterAtDuskModel", "canSetOut", "(I)Z"⟩, 53), (⟨"LighterAtDuskModel", "findCross", "(II)I"⟩, 53), (⟨"LighterAtDuskModel", "canCross", "(II)Z"⟩, 53), (⟨"LighterAtDuskModel", "findGood", "(III)V"⟩, 53), (⟨"LighterAtDuskModel", "findWays", "(I)Z"⟩, 53), (⟨"LighterAtDuskModel", "codeOf", "([I)I"⟩, 53), (⟨"LighterAtDuskModel", "add", "(II)Z"⟩, 53), (⟨"LighterAtDuskModel", "find", "(II)I"⟩, 53), (⟨"LighterAtDuskModel", "wayOf", "(II)I"⟩, 53), (⟨"LighterAtDuskModel", "findEach", "(I)V"⟩, 53), (⟨"LighterAtDuskModel", "layCode", "(I[I)V"⟩, 53), (⟨"LighterAtDuskModel", "leanStood", "()I"⟩, 53), (⟨"LighterAtDuskModel", "stepTo", "(III)I"⟩, 53), (⟨"LighterAtDuskModel", "findSteps", "(I)V"⟩, 53), (⟨"LighterAtDuskModel", "stepsBy", "(IIII)I"⟩, 53)]
theorem lw_r7 : ∀ q ∈ lw_privs_7, lw_okq q := List.forall_mem_cons.mpr ⟨lw_p96, List.forall_mem_cons.mpr ⟨lw_p97, List.forall_mem_cons.mpr ⟨lw_p98, List.forall_mem_cons.mpr ⟨lw_p99, List.forall_mem_cons.mpr ⟨lw_p100, List.forall_mem_cons.mpr ⟨lw_p101, List.forall_mem_cons.mpr ⟨lw_p102, List.forall_mem_cons.mpr ⟨lw_p103, List.forall_mem_cons.mpr ⟨lw_p104, List.forall_mem_cons.mpr ⟨lw_p105, List.forall_mem_cons.mpr ⟨lw_p106, List.forall_mem_cons.mpr ⟨lw_p107, List.forall_mem_cons.mpr ⟨lw_p108, List.forall_mem_cons.mpr ⟨lw_p109, List.forall_mem_cons.mpr ⟨lw_p110, List.forall_mem_cons.mpr ⟨lw_p111, fun _ h => absurd h List.not_mem_nil⟩⟩⟩⟩⟩⟩⟩⟩⟩⟩⟩⟩⟩⟩⟩⟩
theorem lw_p112 : lw_okq (⟨"LighterAtDuskModel", "leftOf", "(II)I"⟩, 53) := ⟨⟨by decide +kernel, by decide +kernel⟩, List.mem_of_getElem? (i := 1247) (by decide +kernel), List.mem_of_getElem? (i := 1788) (by decide +kernel), List.mem_of_getElem? (i := 1789) (by decide +kernel)⟩
theorem lw_p113 : lw_okq (⟨"LighterAtDuskModel", "areTwoSets", "(II)Z"⟩, 53) := ⟨⟨by decide +kernel, by decide +kernel⟩, List.mem_of_getElem? (i := 1247) (by decide +kernel), List.mem_of_getElem? (i := 1800) (by decide +kernel), List.mem_of_getElem? (i := 1801) (by decide +kernel)⟩
theorem lw_p114 : lw_okq (⟨"LighterAtDuskModel", "sinks", "(III)I"⟩, 53) := ⟨⟨by decide +kernel, by decide +kernel⟩, List.mem_of_getElem? (i := 1247) (by decide +kernel), List.mem_of_getElem? (i := 1804) (by decide +kernel), List.mem_of_getElem? (i := 1805) (by decide +kernel)⟩
theorem lw_p115 : lw_okq (⟨"LighterAtDuskModel", "falseOnes", "()I"⟩, 53) := ⟨⟨by decide +kernel, by decide +kernel⟩, List.mem_of_getElem? (i := 1247) (by decide +kernel), List.mem_of_getElem? (i := 1837) (by decide +kernel), List.mem_of_getElem? (i := 1838) (by decide +kernel)⟩
theorem lw_p116 : lw_okq (⟨"LighterAtDuskModel", "findBases", "(I)V"⟩, 53) := ⟨⟨by decide +kernel, by decide +kernel⟩, List.mem_of_getElem? (i := 1247) (by decide +kernel), List.mem_of_getElem? (i := 1845) (by decide +kernel), List.mem_of_getElem? (i := 1846) (by decide +kernel)⟩
theorem lw_p117 : lw_okq (⟨"LighterAtDuskModel", "isPerson", "(I)Z"⟩, 53) := ⟨⟨by decide +kernel, by decide +kernel⟩, List.mem_of_getElem? (i := 1247) (by decide +kernel), List.mem_of_getElem? (i := 1869) (by decide +kernel), List.mem_of_getElem? (i := 1870) (by decide +kernel)⟩
theorem lw_p118 : lw_okq (⟨"LighterAtDuskModel", "goOrder", "(III)V"⟩, 53) := ⟨⟨by decide +kernel, by decide +kernel⟩, List.mem_of_getElem? (i := 1247) (by decide +kernel), List.mem_of_getElem? (i := 1878) (by decide +kernel), List.mem_of_getElem? (i := 1879) (by decide +kernel)⟩
def lw_privs_8 : List (MethodName × Nat) := [(⟨"LighterAtDuskModel", "leftOf", "(II)I"⟩, 53), (⟨"LighterAtDuskModel", "areTwoSets", "(II)Z"⟩, 53), (⟨"LighterAtDuskModel", "sinks", "(III)I"⟩, 53), (⟨"LighterAtDuskModel", "falseOnes", "()I"⟩, 53), (⟨"LighterAtDuskModel", "findBases", "(I)V"⟩, 53), (⟨"LighterAtDuskModel", "isPerson", "(I)Z"⟩, 53), (⟨"LighterAtDuskModel", "goOrder", "(III)V"⟩, 53)]
theorem lw_r8 : ∀ q ∈ lw_privs_8, lw_okq q := List.forall_mem_cons.mpr ⟨lw_p112, List.forall_mem_cons.mpr ⟨lw_p113, List.forall_mem_cons.mpr ⟨lw_p114, List.forall_mem_cons.mpr ⟨lw_p115, List.forall_mem_cons.mpr ⟨lw_p116, List.forall_mem_cons.mpr ⟨lw_p117, List.forall_mem_cons.mpr ⟨lw_p118, fun _ h => absurd h List.not_mem_nil⟩⟩⟩⟩⟩⟩⟩
def lw_privs : List (MethodName × Nat) := lw_privs_1 ++ (lw_privs_2 ++ (lw_privs_3 ++ (lw_privs_4 ++ (lw_privs_5 ++ (lw_privs_6 ++ (lw_privs_7 ++ (lw_privs_8)))))))
def lw_tbl : List Cond := k2_sels lw_privs ++ tables_1
theorem lw_privs_ok : ∀ q ∈ lw_privs, lw_okq q := by
  show ∀ q ∈ lw_privs_1 ++ (lw_privs_2 ++ (lw_privs_3 ++ (lw_privs_4 ++ (lw_privs_5 ++ (lw_privs_6 ++ (lw_privs_7 ++ (lw_privs_8))))))), lw_okq q
  exact List.forall_mem_append.mpr ⟨lw_r1, List.forall_mem_append.mpr ⟨lw_r2, List.forall_mem_append.mpr ⟨lw_r3, List.forall_mem_append.mpr ⟨lw_r4, List.forall_mem_append.mpr ⟨lw_r5, List.forall_mem_append.mpr ⟨lw_r6, List.forall_mem_append.mpr ⟨lw_r7, lw_r8⟩⟩⟩⟩⟩⟩⟩
-- ===== end of PART A; then your names; then what follows =====
/-! ===== BEGIN words of one list among another's, by their places ===== -/
theorem goodIn_r {big : List Cond} (ws : List Cond) (ps : List Nat) (hp : ws = ps.filterMap (fun i => big[i]?)) (h : ws.all goodWord = true) : GoodIn big ws := by
  intro w hw
  have h1 := List.all_eq_true.mp h w hw
  rw [hp] at hw
  obtain ⟨i, -, hi⟩ := List.mem_filterMap.mp hw
  have hm : w ∈ big := by first | exact List.mem_of_getElem? hi | exact List.getElem?_mem hi
  exact ⟨hm, good_of_word h1⟩
theorem goodIn_app {big a b : List Cond} (ha : GoodIn big a) (hb : GoodIn big b) : GoodIn big (a ++ b) := fun w h => (List.mem_append.mp h).elim (ha w) (hb w)
theorem goodIn_ca {big a b : List Cond} {c : Cond} (ha : GoodIn big (c :: a)) (hb : GoodIn big b) : GoodIn big (c :: (a ++ b)) := fun w h => (List.mem_cons.mp h).elim (fun e => ha w (List.mem_cons.mpr (Or.inl e))) (fun h => (List.mem_append.mp h).elim (fun h => ha w (List.mem_cons.mpr (Or.inr h))) (hb w))
theorem goodIn_sub {big ws : List Cond} (hm : ∀ w ∈ ws, w ∈ big) (h : ws.all goodWord = true) : GoodIn big ws := fun w hw => ⟨hm w hw, good_of_word (List.all_eq_true.mp h w hw)⟩
/-! ===== END ===== -/

def RX0 : String := "LighterAtDusk$Crowd"
def TX0 : u_T := fun k => match k with
  | 0 => ("LighterAtDusk$Crowd", "size", "I", false)
  | 1 => ("LighterAtDusk$Crowd", "persons", "I", false)
  | 2 => ("LighterAtDusk$Crowd", "bases", "[I", true)
  | 3 => ("LighterAtDusk$Crowd", "habit", "LLighterAtDusk$Habit;", true)
  | _ => ("LighterAtDusk$Crowd", "sums", "[I", true)
def tyX0 : Nat → FieldType := fun k => match k with
  | 0 => .int
  | 1 => .int
  | 2 => .array .int
  | 3 => .object "LighterAtDusk$Habit"
  | _ => .array .int
abbrev wsX00 : List Cond := u_ws RX0 TX0 5
theorem nmX0 : ∀ a, a < 5 → ∀ b, b < 5 → a ≠ b → (TX0 a).2.1 ≠ (TX0 b).2.1 := by decide +kernel
theorem tyX0_ok : ∀ k, k < 5 → parseFieldDescriptor (TX0 k).2.2.1 = some (tyX0 k) := by decide +kernel
abbrev cX0_init : ByteArray := prog_2_method_1_code
def yX0_init : MethodName := ⟨RX0, "<init>", "()V"⟩
abbrev cX0_has : ByteArray := prog_2_method_2_code
def yX0_has : MethodName := ⟨RX0, "has", "(I)Z"⟩
abbrev cX0_holds : ByteArray := prog_2_method_3_code
def yX0_holds : MethodName := ⟨RX0, "holds", "(I)Z"⟩
abbrev cX0_sets : ByteArray := prog_2_method_4_code
def yX0_sets : MethodName := ⟨RX0, "sets", "()I"⟩
abbrev cX0_isPerson : ByteArray := prog_2_method_5_code
def yX0_isPerson : MethodName := ⟨RX0, "isPerson", "(I)Z"⟩
abbrev cX0_join : ByteArray := prog_2_method_6_code
def yX0_join : MethodName := ⟨RX0, "join", "(ZI)V"⟩
abbrev cX0_weightAt : ByteArray := prog_2_method_7_code
def yX0_weightAt : MethodName := ⟨RX0, "weightAt", "(II)I"⟩
abbrev cX0_weightWith : ByteArray := prog_2_method_8_code
def yX0_weightWith : MethodName := ⟨RX0, "weightWith", "(III)I"⟩
abbrev cX0_together : ByteArray := prog_2_method_9_code
def yX0_together : MethodName := ⟨RX0, "together", "(II)I"⟩
abbrev cX0_sumAll : ByteArray := prog_2_method_10_code
def yX0_sumAll : MethodName := ⟨RX0, "sumAll", "(I)V"⟩
abbrev cX0_rebase : ByteArray := prog_2_method_11_code
def yX0_rebase : MethodName := ⟨RX0, "rebase", "(IIII)I"⟩
abbrev cX0_narrowed : ByteArray := prog_2_method_12_code
def yX0_narrowed : MethodName := ⟨RX0, "narrowed", "(II)I"⟩
def RX1 : String := "LighterAtDusk$DayReader"
def TX1 : u_T := fun k => match k with
  | 0 => ("LighterAtDusk$DayReader", "kinds", "[I", true)
  | 1 => ("LighterAtDusk$DayReader", "whos", "[I", true)
  | 2 => ("LighterAtDusk$DayReader", "amounts", "[I", true)
  | 3 => ("LighterAtDusk$DayReader", "actCount", "I", false)
  | 4 => ("LighterAtDusk$DayReader", "state", "I", false)
  | 5 => ("LighterAtDusk$DayReader", "digits", "I", false)
  | _ => ("LighterAtDusk$DayReader", "negative", "Z", false)
def tyX1 : Nat → FieldType := fun k => match k with
  | 0 => .array .int
  | 1 => .array .int
  | 2 => .array .int
  | 3 => .int
  | 4 => .int
  | 5 => .int
  | _ => .boolean
abbrev wsX10 : List Cond := u_ws RX1 TX1 7
theorem nmX1 : ∀ a, a < 7 → ∀ b, b < 7 → a ≠ b → (TX1 a).2.1 ≠ (TX1 b).2.1 := by decide +kernel
theorem tyX1_ok : ∀ k, k < 7 → parseFieldDescriptor (TX1 k).2.2.1 = some (tyX1 k) := by decide +kernel
abbrev cX1_init : ByteArray := prog_3_method_1_code
def yX1_init : MethodName := ⟨RX1, "<init>", "()V"⟩
abbrev cX1_begin : ByteArray := prog_3_method_2_code
def yX1_begin : MethodName := ⟨RX1, "begin", "()V"⟩
abbrev cX1_canEnd : ByteArray := prog_3_method_3_code
def yX1_canEnd : MethodName := ⟨RX1, "canEnd", "()Z"⟩
abbrev cX1_takes : ByteArray := prog_3_method_4_code
def yX1_takes : MethodName := ⟨RX1, "takes", "(I)Z"⟩
abbrev cX1_takesKind : ByteArray := prog_3_method_5_code
def yX1_takesKind : MethodName := ⟨RX1, "takesKind", "(I)Z"⟩
abbrev cX1_takesNumber : ByteArray := prog_3_method_6_code
def yX1_takesNumber : MethodName := ⟨RX1, "takesNumber", "(II)Z"⟩
abbrev cX1_takesLetter : ByteArray := prog_3_method_7_code
def yX1_takesLetter : MethodName := ⟨RX1, "takesLetter", "(II)Z"⟩
abbrev cX1_takesPlace : ByteArray := prog_3_method_8_code
def yX1_takesPlace : MethodName := ⟨RX1, "takesPlace", "(II)Z"⟩
abbrev cX1_takesWay : ByteArray := prog_3_method_9_code
def yX1_takesWay : MethodName := ⟨RX1, "takesWay", "(II)Z"⟩
def RX2 : String := "LighterAtDusk$Deck"
def TX2 : u_T := fun k => match k with
  | 0 => ("LighterAtDusk$Deck", "crowd", "LLighterAtDusk$Crowd;", true)
  | 1 => ("LighterAtDusk$Deck", "now", "I", false)
  | 2 => ("LighterAtDusk$Deck", "aboard", "I", false)
  | 3 => ("LighterAtDusk$Deck", "places", "[I", true)
  | 4 => ("LighterAtDusk$Deck", "marked", "[I", true)
  | 5 => ("LighterAtDusk$Deck", "past", "[I", true)
  | 6 => ("LighterAtDusk$Deck", "pastCount", "I", false)
  | 7 => ("LighterAtDusk$Deck", "kept", "[I", true)
  | _ => ("LighterAtDusk$Deck", "isKept", "[Z", true)
def tyX2 : Nat → FieldType := fun k => match k with
  | 0 => .object "LighterAtDusk$Crowd"
  | 1 => .int
  | 2 => .int
  | 3 => .array .int
  | 4 => .array .int
  | 5 => .array .int
  | 6 => .int
  | 7 => .array .int
  | _ => .array .boolean
abbrev wsX20 : List Cond := u_ws RX2 TX2 9
theorem nmX2 : ∀ a, a < 9 → ∀ b, b < 9 → a ≠ b → (TX2 a).2.1 ≠ (TX2 b).2.1 := by decide +kernel
theorem tyX2_ok : ∀ k, k < 9 → parseFieldDescriptor (TX2 k).2.2.1 = some (tyX2 k) := by decide +kernel
abbrev cX2_init : ByteArray := prog_4_method_1_code
def yX2_init : MethodName := ⟨RX2, "<init>", "(LLighterAtDusk$Crowd;)V"⟩
abbrev cX2_isAboard : ByteArray := prog_4_method_2_code
def yX2_isAboard : MethodName := ⟨RX2, "isAboard", "(I)Z"⟩
abbrev cX2_leanAt : ByteArray := prog_4_method_3_code
def yX2_leanAt : MethodName := ⟨RX2, "leanAt", "(I)I"⟩
abbrev cX2_copyTo : ByteArray := prog_4_method_4_code
def yX2_copyTo : MethodName := ⟨RX2, "copyTo", "([II)V"⟩
abbrev cX2_copyFrom : ByteArray := prog_4_method_5_code
def yX2_copyFrom : MethodName := ⟨RX2, "copyFrom", "([II)V"⟩
abbrev cX2_mark : ByteArray := prog_4_method_6_code
def yX2_mark : MethodName := ⟨RX2, "mark", "()V"⟩
abbrev cX2_remember : ByteArray := prog_4_method_7_code
def yX2_remember : MethodName := ⟨RX2, "remember", "()V"⟩
abbrev cX2_goBack : ByteArray := prog_4_method_8_code
def yX2_goBack : MethodName := ⟨RX2, "goBack", "()I"⟩
abbrev cX2_forgetPast : ByteArray := prog_4_method_9_code
def yX2_forgetPast : MethodName := ⟨RX2, "forgetPast", "()V"⟩
abbrev cX2_store : ByteArray := prog_4_method_10_code
def yX2_store : MethodName := ⟨RX2, "store", "(I)V"⟩
abbrev cX2_restore : ByteArray := prog_4_method_11_code
def yX2_restore : MethodName := ⟨RX2, "restore", "(I)V"⟩
abbrev cX2_forgetKept : ByteArray := prog_4_method_12_code
def yX2_forgetKept : MethodName := ⟨RX2, "forgetKept", "()V"⟩
def RX3 : String := "LighterAtDusk$FolkReader"
def TX3 : u_T := fun k => match k with
  | 0 => ("LighterAtDusk$FolkReader", "bases", "[I", true)
  | 1 => ("LighterAtDusk$FolkReader", "room", "I", false)
  | 2 => ("LighterAtDusk$FolkReader", "lines", "I", false)
  | 3 => ("LighterAtDusk$FolkReader", "persons", "I", false)
  | 4 => ("LighterAtDusk$FolkReader", "digits", "I", false)
  | _ => ("LighterAtDusk$FolkReader", "inLine", "Z", false)
def tyX3 : Nat → FieldType := fun k => match k with
  | 0 => .array .int
  | 1 => .int
  | 2 => .int
  | 3 => .int
  | 4 => .int
  | _ => .boolean
abbrev wsX30 : List Cond := u_ws RX3 TX3 6
theorem nmX3 : ∀ a, a < 6 → ∀ b, b < 6 → a ≠ b → (TX3 a).2.1 ≠ (TX3 b).2.1 := by decide +kernel
theorem tyX3_ok : ∀ k, k < 6 → parseFieldDescriptor (TX3 k).2.2.1 = some (tyX3 k) := by decide +kernel
abbrev cX3_init : ByteArray := prog_5_method_1_code
def yX3_init : MethodName := ⟨RX3, "<init>", "()V"⟩
abbrev cX3_isPerson : ByteArray := prog_5_method_2_code
def yX3_isPerson : MethodName := ⟨RX3, "isPerson", "(I)Z"⟩
abbrev cX3_begin : ByteArray := prog_5_method_3_code
def yX3_begin : MethodName := ⟨RX3, "begin", "()V"⟩
abbrev cX3_takes : ByteArray := prog_5_method_4_code
def yX3_takes : MethodName := ⟨RX3, "takes", "(I)Z"⟩
abbrev cX3_takesKind : ByteArray := prog_5_method_5_code
def yX3_takesKind : MethodName := ⟨RX3, "takesKind", "(I)Z"⟩
abbrev cX3_canEnd : ByteArray := prog_5_method_6_code
def yX3_canEnd : MethodName := ⟨RX3, "canEnd", "()Z"⟩
abbrev cX3_faultAt : ByteArray := prog_5_method_7_code
def yX3_faultAt : MethodName := ⟨RX3, "faultAt", "(I)I"⟩
def RX4 : String := "LighterAtDusk$Habit"
def TX4 : u_T := fun k => match k with
  | 0 => ("LighterAtDusk$Habit", "codes", "[I", true)
  | 1 => ("LighterAtDusk$Habit", "length", "I", false)
  | 2 => ("LighterAtDusk$Habit", "stack", "[I", true)
  | 3 => ("LighterAtDusk$Habit", "draft", "[I", true)
  | 4 => ("LighterAtDusk$Habit", "drafted", "I", false)
  | 5 => ("LighterAtDusk$Habit", "waiting", "[I", true)
  | 6 => ("LighterAtDusk$Habit", "waitingCount", "I", false)
  | 7 => ("LighterAtDusk$Habit", "compared", "[Z", true)
  | 8 => ("LighterAtDusk$Habit", "depth", "I", false)
  | 9 => ("LighterAtDusk$Habit", "digits", "I", false)
  | _ => ("LighterAtDusk$Habit", "behindThing", "Z", false)
def tyX4 : Nat → FieldType := fun k => match k with
  | 0 => .array .int
  | 1 => .int
  | 2 => .array .int
  | 3 => .array .int
  | 4 => .int
  | 5 => .array .int
  | 6 => .int
  | 7 => .array .boolean
  | 8 => .int
  | 9 => .int
  | _ => .boolean
abbrev wsX40 : List Cond := u_ws RX4 TX4 11
theorem nmX4 : ∀ a, a < 11 → ∀ b, b < 11 → a ≠ b → (TX4 a).2.1 ≠ (TX4 b).2.1 := by decide +kernel
theorem tyX4_ok : ∀ k, k < 11 → parseFieldDescriptor (TX4 k).2.2.1 = some (tyX4 k) := by decide +kernel
abbrev cX4_init : ByteArray := prog_6_method_1_code
def yX4_init : MethodName := ⟨RX4, "<init>", "()V"⟩
abbrev cX4_drop : ByteArray := prog_6_method_2_code
def yX4_drop : MethodName := ⟨RX4, "drop", "()V"⟩
abbrev cX4_adopt : ByteArray := prog_6_method_3_code
def yX4_adopt : MethodName := ⟨RX4, "adopt", "()V"⟩
abbrev cX4_weigh : ByteArray := prog_6_method_4_code
def yX4_weigh : MethodName := ⟨RX4, "weigh", "(IIII)I"⟩
abbrev cX4_joined : ByteArray := prog_6_method_5_code
def yX4_joined : MethodName := ⟨RX4, "joined", "(III)I"⟩
abbrev cX4_isLetter : ByteArray := prog_6_method_6_code
def yX4_isLetter : MethodName := ⟨RX4, "isLetter", "(I)Z"⟩
abbrev cX4_bond : ByteArray := prog_6_method_7_code
def yX4_bond : MethodName := ⟨RX4, "bond", "(I)I"⟩
abbrev cX4_begin : ByteArray := prog_6_method_8_code
def yX4_begin : MethodName := ⟨RX4, "begin", "()V"⟩
abbrev cX4_canEnd : ByteArray := prog_6_method_9_code
def yX4_canEnd : MethodName := ⟨RX4, "canEnd", "()Z"⟩
abbrev cX4_takes : ByteArray := prog_6_method_10_code
def yX4_takes : MethodName := ⟨RX4, "takes", "(I)Z"⟩
abbrev cX4_takesDigit : ByteArray := prog_6_method_11_code
def yX4_takesDigit : MethodName := ⟨RX4, "takesDigit", "(I)Z"⟩
abbrev cX4_takesAhead : ByteArray := prog_6_method_12_code
def yX4_takesAhead : MethodName := ⟨RX4, "takesAhead", "(I)Z"⟩
abbrev cX4_takesBehind : ByteArray := prog_6_method_13_code
def yX4_takesBehind : MethodName := ⟨RX4, "takesBehind", "(I)Z"⟩
abbrev cX4_closes : ByteArray := prog_6_method_14_code
def yX4_closes : MethodName := ⟨RX4, "closes", "()Z"⟩
abbrev cX4_put : ByteArray := prog_6_method_15_code
def yX4_put : MethodName := ⟨RX4, "put", "(I)V"⟩
abbrev cX4_putOff : ByteArray := prog_6_method_16_code
def yX4_putOff : MethodName := ⟨RX4, "putOff", "(I)V"⟩
def RX5 : String := "LighterAtDusk$Reader"
def TX5 : u_T := fun k => match k with
  | _ => ("", "", "", false)
def tyX5 : Nat → FieldType := fun k => match k with
  | _ => .int
abbrev wsX50 : List Cond := u_ws RX5 TX5 0
theorem nmX5 : ∀ a, a < 0 → ∀ b, b < 0 → a ≠ b → (TX5 a).2.1 ≠ (TX5 b).2.1 := by decide +kernel
theorem tyX5_ok : ∀ k, k < 0 → parseFieldDescriptor (TX5 k).2.2.1 = some (tyX5 k) := by decide +kernel
abbrev cX5_init : ByteArray := prog_7_method_1_code
def yX5_init : MethodName := ⟨RX5, "<init>", "()V"⟩
abbrev cX5_faultAt : ByteArray := prog_7_method_5_code
def yX5_faultAt : MethodName := ⟨RX5, "faultAt", "(I)I"⟩
abbrev cX5_readThrough : ByteArray := prog_7_method_6_code
def yX5_readThrough : MethodName := ⟨RX5, "readThrough", "([III)I"⟩
abbrev cX5_isDigit : ByteArray := prog_7_method_7_code
def yX5_isDigit : MethodName := ⟨RX5, "isDigit", "(I)Z"⟩
def RX6 : String := "LighterAtDusk$River"
def TX6 : u_T := fun k => match k with
  | 0 => ("LighterAtDusk$River", "crowd", "LLighterAtDusk$Crowd;", true)
  | 1 => ("LighterAtDusk$River", "reached", "[J", true)
  | 2 => ("LighterAtDusk$River", "those", "I", false)
  | 3 => ("LighterAtDusk$River", "boat", "I", false)
  | _ => ("LighterAtDusk$River", "first", "I", false)
def tyX6 : Nat → FieldType := fun k => match k with
  | 0 => .object "LighterAtDusk$Crowd"
  | 1 => .array .long
  | 2 => .int
  | 3 => .int
  | _ => .int
abbrev wsX60 : List Cond := u_ws RX6 TX6 5
theorem nmX6 : ∀ a, a < 5 → ∀ b, b < 5 → a ≠ b → (TX6 a).2.1 ≠ (TX6 b).2.1 := by decide +kernel
theorem tyX6_ok : ∀ k, k < 5 → parseFieldDescriptor (TX6 k).2.2.1 = some (tyX6 k) := by decide +kernel
abbrev cX6_init : ByteArray := prog_8_method_1_code
def yX6_init : MethodName := ⟨RX6, "<init>", "(LLighterAtDusk$Crowd;)V"⟩
abbrev cX6_begin : ByteArray := prog_8_method_2_code
def yX6_begin : MethodName := ⟨RX6, "begin", "(III)V"⟩
abbrev cX6_isReached : ByteArray := prog_8_method_3_code
def yX6_isReached : MethodName := ⟨RX6, "isReached", "(II)Z"⟩
abbrev cX6_reach : ByteArray := prog_8_method_4_code
def yX6_reach : MethodName := ⟨RX6, "reach", "(II)V"⟩
abbrev cX6_leave : ByteArray := prog_8_method_5_code
def yX6_leave : MethodName := ⟨RX6, "leave", "(II)V"⟩
abbrev cX6_carries : ByteArray := prog_8_method_6_code
def yX6_carries : MethodName := ⟨RX6, "carries", "(I)Z"⟩
abbrev cX6_bankOf : ByteArray := prog_8_method_7_code
def yX6_bankOf : MethodName := ⟨RX6, "bankOf", "(II)I"⟩
abbrev cX6_fewest : ByteArray := prog_8_method_8_code
def yX6_fewest : MethodName := ⟨RX6, "fewest", "(I)I"⟩
abbrev cX6_canEnd : ByteArray := prog_8_method_9_code
def yX6_canEnd : MethodName := ⟨RX6, "canEnd", "(I)Z"⟩
abbrev cX6_widen : ByteArray := prog_8_method_10_code
def yX6_widen : MethodName := ⟨RX6, "widen", "(I)V"⟩
abbrev cX6_leastLoad : ByteArray := prog_8_method_11_code
def yX6_leastLoad : MethodName := ⟨RX6, "leastLoad", "(II)I"⟩
abbrev cX6_prune : ByteArray := prog_8_method_12_code
def yX6_prune : MethodName := ⟨RX6, "prune", "(I)V"⟩
abbrev cX6_tellLoads : ByteArray := prog_8_method_13_code
def yX6_tellLoads : MethodName := ⟨RX6, "tellLoads", "(ILLighterAtDusk$Row;)V"⟩
def RX7 : String := "LighterAtDusk$Row"
def TX7 : u_T := fun k => match k with
  | 0 => ("LighterAtDusk$Row", "numbers", "[I", true)
  | _ => ("LighterAtDusk$Row", "length", "I", false)
def tyX7 : Nat → FieldType := fun k => match k with
  | 0 => .array .int
  | _ => .int
abbrev wsX70 : List Cond := u_ws RX7 TX7 2
theorem nmX7 : ∀ a, a < 2 → ∀ b, b < 2 → a ≠ b → (TX7 a).2.1 ≠ (TX7 b).2.1 := by decide +kernel
theorem tyX7_ok : ∀ k, k < 2 → parseFieldDescriptor (TX7 k).2.2.1 = some (tyX7 k) := by decide +kernel
abbrev cX7_init : ByteArray := prog_9_method_1_code
def yX7_init : MethodName := ⟨RX7, "<init>", "()V"⟩
abbrev cX7_begin : ByteArray := prog_9_method_2_code
def yX7_begin : MethodName := ⟨RX7, "begin", "()V"⟩
abbrev cX7_add : ByteArray := prog_9_method_3_code
def yX7_add : MethodName := ⟨RX7, "add", "(I)V"⟩
abbrev cX7_tell : ByteArray := prog_9_method_4_code
def yX7_tell : MethodName := ⟨RX7, "tell", "(I)V"⟩
def RX8 : String := "LighterAtDusk$Scales"
def TX8 : u_T := fun k => match k with
  | 0 => ("LighterAtDusk$Scales", "crowd", "LLighterAtDusk$Crowd;", true)
  | 1 => ("LighterAtDusk$Scales", "size", "I", false)
  | 2 => ("LighterAtDusk$Scales", "sets", "[I", true)
  | 3 => ("LighterAtDusk$Scales", "waits", "[I", true)
  | 4 => ("LighterAtDusk$Scales", "sums", "[I", true)
  | 5 => ("LighterAtDusk$Scales", "needs", "[I", true)
  | 6 => ("LighterAtDusk$Scales", "moments", "[I", true)
  | _ => ("LighterAtDusk$Scales", "needCount", "I", false)
def tyX8 : Nat → FieldType := fun k => match k with
  | 0 => .object "LighterAtDusk$Crowd"
  | 1 => .int
  | 2 => .array .int
  | 3 => .array .int
  | 4 => .array .int
  | 5 => .array .int
  | 6 => .array .int
  | _ => .int
abbrev wsX80 : List Cond := u_ws RX8 TX8 8
theorem nmX8 : ∀ a, a < 8 → ∀ b, b < 8 → a ≠ b → (TX8 a).2.1 ≠ (TX8 b).2.1 := by decide +kernel
theorem tyX8_ok : ∀ k, k < 8 → parseFieldDescriptor (TX8 k).2.2.1 = some (tyX8 k) := by decide +kernel
abbrev cX8_init : ByteArray := prog_10_method_1_code
def yX8_init : MethodName := ⟨RX8, "<init>", "(LLighterAtDusk$Crowd;)V"⟩
abbrev cX8_hear : ByteArray := prog_10_method_2_code
def yX8_hear : MethodName := ⟨RX8, "hear", "(III)I"⟩
abbrev cX8_wrongAt : ByteArray := prog_10_method_3_code
def yX8_wrongAt : MethodName := ⟨RX8, "wrongAt", "(I)I"⟩
abbrev cX8_gather : ByteArray := prog_10_method_4_code
def yX8_gather : MethodName := ⟨RX8, "gather", "(II)Z"⟩
abbrev cX8_agrees : ByteArray := prog_10_method_5_code
def yX8_agrees : MethodName := ⟨RX8, "agrees", "(II)Z"⟩
def RX9 : String := "LighterAtDusk$Stance"
def TX9 : u_T := fun k => match k with
  | 0 => ("LighterAtDusk$Stance", "crowd", "LLighterAtDusk$Crowd;", true)
  | 1 => ("LighterAtDusk$Stance", "deck", "LLighterAtDusk$Deck;", true)
  | 2 => ("LighterAtDusk$Stance", "standing", "[I", true)
  | 3 => ("LighterAtDusk$Stance", "standingCount", "I", false)
  | 4 => ("LighterAtDusk$Stance", "weights", "[I", true)
  | 5 => ("LighterAtDusk$Stance", "ways", "[I", true)
  | 6 => ("LighterAtDusk$Stance", "wayCounts", "[I", true)
  | 7 => ("LighterAtDusk$Stance", "best", "[I", true)
  | 8 => ("LighterAtDusk$Stance", "slots", "[I", true)
  | _ => ("LighterAtDusk$Stance", "raft", "I", false)
def tyX9 : Nat → FieldType := fun k => match k with
  | 0 => .object "LighterAtDusk$Crowd"
  | 1 => .object "LighterAtDusk$Deck"
  | 2 => .array .int
  | 3 => .int
  | 4 => .array .int
  | 5 => .array .int
  | 6 => .array .int
  | 7 => .array .int
  | 8 => .array .int
  | _ => .int
abbrev wsX90 : List Cond := u_ws RX9 TX9 10
theorem nmX9 : ∀ a, a < 10 → ∀ b, b < 10 → a ≠ b → (TX9 a).2.1 ≠ (TX9 b).2.1 := by decide +kernel
theorem tyX9_ok : ∀ k, k < 10 → parseFieldDescriptor (TX9 k).2.2.1 = some (tyX9 k) := by decide +kernel
abbrev cX9_init : ByteArray := prog_11_method_1_code
def yX9_init : MethodName := ⟨RX9, "<init>", "(LLighterAtDusk$Crowd;LLighterAtDusk$Deck;)V"⟩
abbrev cX9_begin : ByteArray := prog_11_method_2_code
def yX9_begin : MethodName := ⟨RX9, "begin", "(I)V"⟩
abbrev cX9_weighAt : ByteArray := prog_11_method_3_code
def yX9_weighAt : MethodName := ⟨RX9, "weighAt", "(I)V"⟩
abbrev cX9_leanOf : ByteArray := prog_11_method_4_code
def yX9_leanOf : MethodName := ⟨RX9, "leanOf", "(I)I"⟩
abbrev cX9_bearsLean : ByteArray := prog_11_method_5_code
def yX9_bearsLean : MethodName := ⟨RX9, "bearsLean", "(I)Z"⟩
abbrev cX9_stepped : ByteArray := prog_11_method_6_code
def yX9_stepped : MethodName := ⟨RX9, "stepped", "(IIII)I"⟩
abbrev cX9_slotOf : ByteArray := prog_11_method_7_code
def yX9_slotOf : MethodName := ⟨RX9, "slotOf", "(II)I"⟩
abbrev cX9_addWay : ByteArray := prog_11_method_8_code
def yX9_addWay : MethodName := ⟨RX9, "addWay", "(II)Z"⟩
abbrev cX9_widen : ByteArray := prog_11_method_9_code
def yX9_widen : MethodName := ⟨RX9, "widen", "(II)I"⟩
abbrev cX9_widenFrom : ByteArray := prog_11_method_10_code
def yX9_widenFrom : MethodName := ⟨RX9, "widenFrom", "(II)Z"⟩
abbrev cX9_narrow : ByteArray := prog_11_method_11_code
def yX9_narrow : MethodName := ⟨RX9, "narrow", "(I)V"⟩
abbrev cX9_bestFrom : ByteArray := prog_11_method_12_code
def yX9_bestFrom : MethodName := ⟨RX9, "bestFrom", "(II)I"⟩
abbrev cX9_bestBy : ByteArray := prog_11_method_13_code
def yX9_bestBy : MethodName := ⟨RX9, "bestBy", "(IIII)I"⟩
abbrev cX9_indexOf : ByteArray := prog_11_method_14_code
def yX9_indexOf : MethodName := ⟨RX9, "indexOf", "(II)I"⟩
abbrev cX9_behindMove : ByteArray := prog_11_method_15_code
def yX9_behindMove : MethodName := ⟨RX9, "behindMove", "(II)I"⟩
abbrev cX9_tellSteps : ByteArray := prog_11_method_16_code
def yX9_tellSteps : MethodName := ⟨RX9, "tellSteps", "(ILLighterAtDusk$Row;)V"⟩
def RX10 : String := "LighterAtDusk$Tasks"
def TX10 : u_T := fun k => match k with
  | 0 => ("LighterAtDusk$Tasks", "size", "I", false)
  | 1 => ("LighterAtDusk$Tasks", "lows", "[I", true)
  | 2 => ("LighterAtDusk$Tasks", "highs", "[I", true)
  | 3 => ("LighterAtDusk$Tasks", "doableAt", "[I", true)
  | 4 => ("LighterAtDusk$Tasks", "left", "[J", true)
  | 5 => ("LighterAtDusk$Tasks", "groups", "[J", true)
  | _ => ("LighterAtDusk$Tasks", "able", "[I", true)
def tyX10 : Nat → FieldType := fun k => match k with
  | 0 => .int
  | 1 => .array .int
  | 2 => .array .int
  | 3 => .array .int
  | 4 => .array .long
  | 5 => .array .long
  | _ => .array .int
abbrev wsX100 : List Cond := u_ws RX10 TX10 7
theorem nmX10 : ∀ a, a < 7 → ∀ b, b < 7 → a ≠ b → (TX10 a).2.1 ≠ (TX10 b).2.1 := by decide +kernel
theorem tyX10_ok : ∀ k, k < 7 → parseFieldDescriptor (TX10 k).2.2.1 = some (tyX10 k) := by decide +kernel
abbrev cX10_init : ByteArray := prog_12_method_1_code
def yX10_init : MethodName := ⟨RX10, "<init>", "()V"⟩
abbrev cX10_has : ByteArray := prog_12_method_2_code
def yX10_has : MethodName := ⟨RX10, "has", "(I)Z"⟩
abbrev cX10_suits : ByteArray := prog_12_method_3_code
def yX10_suits : MethodName := ⟨RX10, "suits", "(II)Z"⟩
abbrev cX10_suitedBy : ByteArray := prog_12_method_4_code
def yX10_suitedBy : MethodName := ⟨RX10, "suitedBy", "(I)I"⟩
abbrev cX10_doable : ByteArray := prog_12_method_5_code
def yX10_doable : MethodName := ⟨RX10, "doable", "(LLighterAtDusk$Crowd;)I"⟩
abbrev cX10_withTask : ByteArray := prog_12_method_6_code
def yX10_withTask : MethodName := ⟨RX10, "withTask", "(JI)J"⟩
abbrev cX10_plan : ByteArray := prog_12_method_7_code
def yX10_plan : MethodName := ⟨RX10, "plan", "(I)Z"⟩
abbrev cX10_canBeLeft : ByteArray := prog_12_method_8_code
def yX10_canBeLeft : MethodName := ⟨RX10, "canBeLeft", "(II)Z"⟩
abbrev cX10_tellPlan : ByteArray := prog_12_method_9_code
def yX10_tellPlan : MethodName := ⟨RX10, "tellPlan", "(ILLighterAtDusk$Row;)V"⟩
abbrev cX10_nextTask : ByteArray := prog_12_method_10_code
def yX10_nextTask : MethodName := ⟨RX10, "nextTask", "(II)I"⟩
abbrev cX10_mostAtOnce : ByteArray := prog_12_method_11_code
def yX10_mostAtOnce : MethodName := ⟨RX10, "mostAtOnce", "(LLighterAtDusk$Crowd;)I"⟩
abbrev cX10_groupsOf : ByteArray := prog_12_method_12_code
def yX10_groupsOf : MethodName := ⟨RX10, "groupsOf", "(I)J"⟩
def RX11 : String := "LighterAtDusk"
def TX11 : u_T := fun k => match k with
  | 0 => ("LighterAtDusk", "signs", "[I", true)
  | 1 => ("LighterAtDusk", "signCount", "I", false)
  | 2 => ("LighterAtDusk", "told", "LLighterAtDusk$Row;", true)
  | 3 => ("LighterAtDusk", "crowd", "LLighterAtDusk$Crowd;", true)
  | 4 => ("LighterAtDusk", "deck", "LLighterAtDusk$Deck;", true)
  | 5 => ("LighterAtDusk", "folkReader", "LLighterAtDusk$FolkReader;", true)
  | 6 => ("LighterAtDusk", "dayReader", "LLighterAtDusk$DayReader;", true)
  | 7 => ("LighterAtDusk", "tasks", "LLighterAtDusk$Tasks;", true)
  | 8 => ("LighterAtDusk", "river", "LLighterAtDusk$River;", true)
  | 9 => ("LighterAtDusk", "scales", "LLighterAtDusk$Scales;", true)
  | 10 => ("LighterAtDusk", "bears", "[I", true)
  | 11 => ("LighterAtDusk", "least", "[I", true)
  | _ => ("LighterAtDusk", "stance", "LLighterAtDusk$Stance;", false)
def tyX11 : Nat → FieldType := fun k => match k with
  | 0 => .array .int
  | 1 => .int
  | 2 => .object "LighterAtDusk$Row"
  | 3 => .object "LighterAtDusk$Crowd"
  | 4 => .object "LighterAtDusk$Deck"
  | 5 => .object "LighterAtDusk$FolkReader"
  | 6 => .object "LighterAtDusk$DayReader"
  | 7 => .object "LighterAtDusk$Tasks"
  | 8 => .object "LighterAtDusk$River"
  | 9 => .object "LighterAtDusk$Scales"
  | 10 => .array .int
  | 11 => .array .int
  | _ => .object "LighterAtDusk$Stance"
abbrev wsX110 : List Cond := u_ws RX11 TX11 13
theorem nmX11 : ∀ a, a < 13 → ∀ b, b < 13 → a ≠ b → (TX11 a).2.1 ≠ (TX11 b).2.1 := by decide +kernel
theorem tyX11_ok : ∀ k, k < 13 → parseFieldDescriptor (TX11 k).2.2.1 = some (tyX11 k) := by decide +kernel
abbrev cX11_init : ByteArray := prog_1_method_1_code
def yX11_init : MethodName := ⟨RX11, "<init>", "()V"⟩
abbrev cX11_sign : ByteArray := prog_1_method_2_code
def yX11_sign : MethodName := ⟨RX11, "sign", "(I)I"⟩
abbrev cX11_end : ByteArray := prog_1_method_3_code
def yX11_end : MethodName := ⟨RX11, "end", "(I)Z"⟩
abbrev cX11_folk : ByteArray := prog_1_method_4_code
def yX11_folk : MethodName := ⟨RX11, "folk", "()I"⟩
abbrev cX11_rule : ByteArray := prog_1_method_5_code
def yX11_rule : MethodName := ⟨RX11, "rule", "()I"⟩
abbrev cX11_of : ByteArray := prog_1_method_6_code
def yX11_of : MethodName := ⟨RX11, "of", "(II)I"⟩
abbrev cX11_weight : ByteArray := prog_1_method_7_code
def yX11_weight : MethodName := ⟨RX11, "weight", "(II)I"⟩
abbrev cX11_all : ByteArray := prog_1_method_8_code
def yX11_all : MethodName := ⟨RX11, "all", "(II)I"⟩
abbrev cX11_bear : ByteArray := prog_1_method_9_code
def yX11_bear : MethodName := ⟨RX11, "bear", "(II)I"⟩
abbrev cX11_sheet : ByteArray := prog_1_method_10_code
def yX11_sheet : MethodName := ⟨RX11, "sheet", "(IIII)I"⟩
abbrev cX11_ring : ByteArray := prog_1_method_11_code
def yX11_ring : MethodName := ⟨RX11, "ring", "(I)I"⟩
abbrev cX11_board : ByteArray := prog_1_method_12_code
def yX11_board : MethodName := ⟨RX11, "board", "(II)I"⟩
abbrev cX11_off : ByteArray := prog_1_method_13_code
def yX11_off : MethodName := ⟨RX11, "off", "(I)I"⟩
abbrev cX11_step : ByteArray := prog_1_method_14_code
def yX11_step : MethodName := ⟨RX11, "step", "(II)I"⟩
abbrev cX11_day : ByteArray := prog_1_method_15_code
def yX11_day : MethodName := ⟨RX11, "day", "()I"⟩
abbrev cX11_undo : ByteArray := prog_1_method_16_code
def yX11_undo : MethodName := ⟨RX11, "undo", "()I"⟩
abbrev cX11_lean : ByteArray := prog_1_method_17_code
def yX11_lean : MethodName := ⟨RX11, "lean", "(I)I"⟩
abbrev cX11_tips : ByteArray := prog_1_method_18_code
def yX11_tips : MethodName := ⟨RX11, "tips", "()I"⟩
abbrev cX11_lighter : ByteArray := prog_1_method_19_code
def yX11_lighter : MethodName := ⟨RX11, "lighter", "(II)I"⟩
abbrev cX11_between : ByteArray := prog_1_method_20_code
def yX11_between : MethodName := ⟨RX11, "between", "(III)I"⟩
abbrev cX11_climbs : ByteArray := prog_1_method_21_code
def yX11_climbs : MethodName := ⟨RX11, "climbs", "(II)I"⟩
abbrev cX11_spread : ByteArray := prog_1_method_22_code
def yX11_spread : MethodName := ⟨RX11, "spread", "(I)I"⟩
abbrev cX11_floor : ByteArray := prog_1_method_23_code
def yX11_floor : MethodName := ⟨RX11, "floor", "(I)I"⟩
abbrev cX11_heaviest : ByteArray := prog_1_method_24_code
def yX11_heaviest : MethodName := ⟨RX11, "heaviest", "(I)I"⟩
abbrev cX11_timber : ByteArray := prog_1_method_25_code
def yX11_timber : MethodName := ⟨RX11, "timber", "(II)I"⟩
abbrev cX11_task : ByteArray := prog_1_method_26_code
def yX11_task : MethodName := ⟨RX11, "task", "(II)I"⟩
abbrev cX11_forget : ByteArray := prog_1_method_27_code
def yX11_forget : MethodName := ⟨RX11, "forget", "()I"⟩
abbrev cX11_crew : ByteArray := prog_1_method_28_code
def yX11_crew : MethodName := ⟨RX11, "crew", "(II)I"⟩
abbrev cX11_times : ByteArray := prog_1_method_29_code
def yX11_times : MethodName := ⟨RX11, "times", "(I)I"⟩
abbrev cX11_earliest : ByteArray := prog_1_method_30_code
def yX11_earliest : MethodName := ⟨RX11, "earliest", "()I"⟩
abbrev cX11_most : ByteArray := prog_1_method_31_code
def yX11_most : MethodName := ⟨RX11, "most", "(I)I"⟩
abbrev cX11_goes : ByteArray := prog_1_method_32_code
def yX11_goes : MethodName := ⟨RX11, "goes", "(I)I"⟩
abbrev cX11_cross : ByteArray := prog_1_method_33_code
def yX11_cross : MethodName := ⟨RX11, "cross", "(II)I"⟩
abbrev cX11_start : ByteArray := prog_1_method_34_code
def yX11_start : MethodName := ⟨RX11, "start", "(I)I"⟩
abbrev cX11_steady : ByteArray := prog_1_method_35_code
def yX11_steady : MethodName := ⟨RX11, "steady", "(I)I"⟩
abbrev cX11_trim : ByteArray := prog_1_method_36_code
def yX11_trim : MethodName := ⟨RX11, "trim", "(I)I"⟩
abbrev cX11_balance : ByteArray := prog_1_method_37_code
def yX11_balance : MethodName := ⟨RX11, "balance", "(III)I"⟩
abbrev cX11_even : ByteArray := prog_1_method_38_code
def yX11_even : MethodName := ⟨RX11, "even", "(II)I"⟩
abbrev cX11_makeup : ByteArray := prog_1_method_39_code
def yX11_makeup : MethodName := ⟨RX11, "makeup", "(III)I"⟩
abbrev cX11_split : ByteArray := prog_1_method_40_code
def yX11_split : MethodName := ⟨RX11, "split", "(II)I"⟩
abbrev cX11_pair : ByteArray := prog_1_method_41_code
def yX11_pair : MethodName := ⟨RX11, "pair", "(II)I"⟩
abbrev cX11_weighed : ByteArray := prog_1_method_42_code
def yX11_weighed : MethodName := ⟨RX11, "weighed", "(III)I"⟩
abbrev cX11_unsay : ByteArray := prog_1_method_43_code
def yX11_unsay : MethodName := ⟨RX11, "unsay", "()I"⟩
abbrev cX11_believed : ByteArray := prog_1_method_44_code
def yX11_believed : MethodName := ⟨RX11, "believed", "()I"⟩
abbrev cX11_fits : ByteArray := prog_1_method_45_code
def yX11_fits : MethodName := ⟨RX11, "fits", "(I)I"⟩
abbrev cX11_liars : ByteArray := prog_1_method_46_code
def yX11_liars : MethodName := ⟨RX11, "liars", "()I"⟩
abbrev cX11_print : ByteArray := prog_1_method_47_code
def yX11_print : MethodName := ⟨RX11, "print", "(III)I"⟩
abbrev cX11_hour : ByteArray := prog_1_method_48_code
def yX11_hour : MethodName := ⟨RX11, "hour", "(IIII)I"⟩
abbrev cX11_ballast : ByteArray := prog_1_method_49_code
def yX11_ballast : MethodName := ⟨RX11, "ballast", "(II)I"⟩
abbrev cX11_swap : ByteArray := prog_1_method_50_code
def yX11_swap : MethodName := ⟨RX11, "swap", "(IIII)I"⟩
abbrev cX11_order : ByteArray := prog_1_method_51_code
def yX11_order : MethodName := ⟨RX11, "order", "(I)I"⟩
abbrev cX11_keep : ByteArray := prog_1_method_52_code
def yX11_keep : MethodName := ⟨RX11, "keep", "(I)Z"⟩
abbrev cX11_again : ByteArray := prog_1_method_53_code
def yX11_again : MethodName := ⟨RX11, "again", "(I)Z"⟩
abbrev cX11_count : ByteArray := prog_1_method_54_code
def yX11_count : MethodName := ⟨RX11, "count", "(I)I"⟩
abbrev cX11_row : ByteArray := prog_1_method_55_code
def yX11_row : MethodName := ⟨RX11, "row", "(I)I"⟩
abbrev cX11_within : ByteArray := prog_1_method_56_code
def yX11_within : MethodName := ⟨RX11, "within", "(III)Z"⟩
abbrev cX11_isBell : ByteArray := prog_1_method_57_code
def yX11_isBell : MethodName := ⟨RX11, "isBell", "(I)Z"⟩
abbrev cX11_isDepth : ByteArray := prog_1_method_58_code
def yX11_isDepth : MethodName := ⟨RX11, "isDepth", "(II)Z"⟩
abbrev cX11_takeText : ByteArray := prog_1_method_59_code
def yX11_takeText : MethodName := ⟨RX11, "takeText", "()I"⟩
abbrev cX11_dawn : ByteArray := prog_1_method_60_code
def yX11_dawn : MethodName := ⟨RX11, "dawn", "()I"⟩
abbrev cX11_load : ByteArray := prog_1_method_61_code
def yX11_load : MethodName := ⟨RX11, "load", "()I"⟩
abbrev cX11_tipsBy : ByteArray := prog_1_method_62_code
def yX11_tipsBy : MethodName := ⟨RX11, "tipsBy", "(I)Z"⟩
abbrev cX11_canRow : ByteArray := prog_1_method_63_code
def yX11_canRow : MethodName := ⟨RX11, "canRow", "(I)Z"⟩
abbrev cX11_areApart : ByteArray := prog_1_method_64_code
def yX11_areApart : MethodName := ⟨RX11, "areApart", "(II)Z"⟩
abbrev cX11_overweight : ByteArray := prog_1_method_65_code
def yX11_overweight : MethodName := ⟨RX11, "overweight", "(III)I"⟩
abbrev cX11_bellsWithin : ByteArray := prog_1_method_66_code
def yX11_bellsWithin : MethodName := ⟨RX11, "bellsWithin", "(III)I"⟩
abbrev cX11_comeAboard : ByteArray := prog_1_method_67_code
def yX11_comeAboard : MethodName := ⟨RX11, "comeAboard", "(II)I"⟩
abbrev cX11_goOff : ByteArray := prog_1_method_68_code
def yX11_goOff : MethodName := ⟨RX11, "goOff", "(I)I"⟩
abbrev cX11_tread : ByteArray := prog_1_method_69_code
def yX11_tread : MethodName := ⟨RX11, "tread", "(II)I"⟩
abbrev cX11_act : ByteArray := prog_1_method_70_code
def yX11_act : MethodName := ⟨RX11, "act", "(I)Z"⟩
abbrev cX11_firstClimb : ByteArray := prog_1_method_71_code
def yX11_firstClimb : MethodName := ⟨RX11, "firstClimb", "(II)I"⟩
abbrev cX11_isFuller : ByteArray := prog_1_method_72_code
def yX11_isFuller : MethodName := ⟨RX11, "isFuller", "(II)Z"⟩
abbrev cX11_isSlighter : ByteArray := prog_1_method_73_code
def yX11_isSlighter : MethodName := ⟨RX11, "isSlighter", "(II)Z"⟩
abbrev cX11_canBeFalse : ByteArray := prog_1_method_74_code
def yX11_canBeFalse : MethodName := ⟨RX11, "canBeFalse", "(I)Z"⟩
abbrev cX11_thingsThatFit : ByteArray := prog_1_method_75_code
def yX11_thingsThatFit : MethodName := ⟨RX11, "thingsThatFit", "(III)I"⟩
abbrev cX11_loadIfNext : ByteArray := prog_1_method_76_code
def yX11_loadIfNext : MethodName := ⟨RX11, "loadIfNext", "(III)I"⟩
abbrev cX11_leastLoad : ByteArray := prog_1_method_77_code
def yX11_leastLoad : MethodName := ⟨RX11, "leastLoad", "(II)I"⟩
abbrev cX11_nextCarried : ByteArray := prog_1_method_78_code
def yX11_nextCarried : MethodName := ⟨RX11, "nextCarried", "(II)I"⟩
def RX12 : String := "LighterAtDuskModel"
def TX12 : u_T := fun k => match k with
  | 0 => ("LighterAtDuskModel", "now", "[I", true)
  | 1 => ("LighterAtDuskModel", "folk", "I", false)
  | 2 => ("LighterAtDuskModel", "persons", "I", false)
  | 3 => ("LighterAtDuskModel", "base", "[I", true)
  | 4 => ("LighterAtDuskModel", "bears", "[I", true)
  | 5 => ("LighterAtDuskModel", "text", "[B", true)
  | 6 => ("LighterAtDuskModel", "typed", "I", false)
  | 7 => ("LighterAtDuskModel", "row", "[I", true)
  | 8 => ("LighterAtDuskModel", "rowMany", "I", false)
  | 9 => ("LighterAtDuskModel", "thrown", "I", false)
  | 10 => ("LighterAtDuskModel", "read", "[B", false)
  | 11 => ("LighterAtDuskModel", "length", "I", false)
  | 12 => ("LighterAtDuskModel", "top", "I", false)
  | 13 => ("LighterAtDuskModel", "at", "I", false)
  | 14 => ("LighterAtDuskModel", "wrong", "I", false)
  | 15 => ("LighterAtDuskModel", "comes", "[I", true)
  | 16 => ("LighterAtDuskModel", "rule", "[B", true)
  | 17 => ("LighterAtDuskModel", "ruleSize", "I", false)
  | 18 => ("LighterAtDuskModel", "askedOne", "I", false)
  | 19 => ("LighterAtDuskModel", "askedBase", "I", false)
  | 20 => ("LighterAtDuskModel", "askedAt", "I", false)
  | 21 => ("LighterAtDuskModel", "each", "[I", true)
  | 22 => ("LighterAtDuskModel", "sets", "[I", true)
  | 23 => ("LighterAtDuskModel", "undos", "[I", true)
  | 24 => ("LighterAtDuskModel", "undoMany", "I", false)
  | 25 => ("LighterAtDuskModel", "aside", "[I", true)
  | 26 => ("LighterAtDuskModel", "tried", "[I", true)
  | 27 => ("LighterAtDuskModel", "acts", "[I", true)
  | 28 => ("LighterAtDuskModel", "tasks", "[I", true)
  | 29 => ("LighterAtDuskModel", "taskMany", "I", false)
  | 30 => ("LighterAtDuskModel", "able", "[I", true)
  | 31 => ("LighterAtDuskModel", "plan", "[I", true)
  | 32 => ("LighterAtDuskModel", "used", "[Z", true)
  | 33 => ("LighterAtDuskModel", "near", "[Z", true)
  | 34 => ("LighterAtDuskModel", "good", "[Z", true)
  | 35 => ("LighterAtDuskModel", "ways", "[J", true)
  | 36 => ("LighterAtDuskModel", "wayMany", "[I", true)
  | 37 => ("LighterAtDuskModel", "stood", "[I", true)
  | 38 => ("LighterAtDuskModel", "scales", "[I", true)
  | 39 => ("LighterAtDuskModel", "scaleMany", "I", false)
  | 40 => ("LighterAtDuskModel", "leastBase", "I", false)
  | 41 => ("LighterAtDuskModel", "greatestBase", "I", false)
  | 42 => ("LighterAtDuskModel", "baseMany", "I", false)
  | 43 => ("LighterAtDuskModel", "otherMany", "I", false)
  | 44 => ("LighterAtDuskModel", "wants", "[I", true)
  | 45 => ("LighterAtDuskModel", "byBell", "[I", true)
  | 46 => ("LighterAtDuskModel", "order", "[I", true)
  | 47 => ("LighterAtDuskModel", "bestOrder", "[I", true)
  | 48 => ("LighterAtDuskModel", "leastCarried", "I", false)
  | 49 => ("LighterAtDuskModel", "came", "I", false)
  | 50 => ("LighterAtDuskModel", "kept", "[I", true)
  | 51 => ("LighterAtDuskModel", "isKept", "[Z", true)
  | _ => ("LighterAtDuskModel", "keptCame", "[I", true)
def tyX12 : Nat → FieldType := fun k => match k with
  | 0 => .array .int
  | 1 => .int
  | 2 => .int
  | 3 => .array .int
  | 4 => .array .int
  | 5 => .array .byte
  | 6 => .int
  | 7 => .array .int
  | 8 => .int
  | 9 => .int
  | 10 => .array .byte
  | 11 => .int
  | 12 => .int
  | 13 => .int
  | 14 => .int
  | 15 => .array .int
  | 16 => .array .byte
  | 17 => .int
  | 18 => .int
  | 19 => .int
  | 20 => .int
  | 21 => .array .int
  | 22 => .array .int
  | 23 => .array .int
  | 24 => .int
  | 25 => .array .int
  | 26 => .array .int
  | 27 => .array .int
  | 28 => .array .int
  | 29 => .int
  | 30 => .array .int
  | 31 => .array .int
  | 32 => .array .boolean
  | 33 => .array .boolean
  | 34 => .array .boolean
  | 35 => .array .long
  | 36 => .array .int
  | 37 => .array .int
  | 38 => .array .int
  | 39 => .int
  | 40 => .int
  | 41 => .int
  | 42 => .int
  | 43 => .int
  | 44 => .array .int
  | 45 => .array .int
  | 46 => .array .int
  | 47 => .array .int
  | 48 => .int
  | 49 => .int
  | 50 => .array .int
  | 51 => .array .boolean
  | _ => .array .int
abbrev wsX120 : List Cond := u_ws RX12 TX12 53
theorem nmX12 : ∀ a, a < 53 → ∀ b, b < 53 → a ≠ b → (TX12 a).2.1 ≠ (TX12 b).2.1 := by decide +kernel
theorem tyX12_ok : ∀ k, k < 53 → parseFieldDescriptor (TX12 k).2.2.1 = some (tyX12 k) := by decide +kernel
abbrev cX12_init : ByteArray := prog_14_method_1_code
def yX12_init : MethodName := ⟨RX12, "<init>", "()V"⟩
abbrev cX12_thrown : ByteArray := prog_14_method_2_code
def yX12_thrown : MethodName := ⟨RX12, "thrown", "()I"⟩
abbrev cX12_in : ByteArray := prog_14_method_3_code
def yX12_in : MethodName := ⟨RX12, "in", "(III)Z"⟩
abbrev cX12_has : ByteArray := prog_14_method_4_code
def yX12_has : MethodName := ⟨RX12, "has", "(II)Z"⟩
abbrev cX12_lost : ByteArray := prog_14_method_5_code
def yX12_lost : MethodName := ⟨RX12, "lost", "()I"⟩
abbrev cX12_tell : ByteArray := prog_14_method_6_code
def yX12_tell : MethodName := ⟨RX12, "tell", "(I)V"⟩
abbrev cX12_isOne : ByteArray := prog_14_method_7_code
def yX12_isOne : MethodName := ⟨RX12, "isOne", "(I)Z"⟩
abbrev cX12_everybody : ByteArray := prog_14_method_8_code
def yX12_everybody : MethodName := ⟨RX12, "everybody", "()I"⟩
abbrev cX12_areFolk : ByteArray := prog_14_method_9_code
def yX12_areFolk : MethodName := ⟨RX12, "areFolk", "(I)Z"⟩
abbrev cX12_isBell : ByteArray := prog_14_method_10_code
def yX12_isBell : MethodName := ⟨RX12, "isBell", "(I)Z"⟩
abbrev cX12_isHeavy : ByteArray := prog_14_method_11_code
def yX12_isHeavy : MethodName := ⟨RX12, "isHeavy", "(I)Z"⟩
abbrev cX12_sign : ByteArray := prog_14_method_12_code
def yX12_sign : MethodName := ⟨RX12, "sign", "(I)I"⟩
abbrev cX12_end : ByteArray := prog_14_method_13_code
def yX12_end : MethodName := ⟨RX12, "end", "(I)Z"⟩
abbrev cX12_begin : ByteArray := prog_14_method_14_code
def yX12_begin : MethodName := ⟨RX12, "begin", "([BII)V"⟩
abbrev cX12_here : ByteArray := prog_14_method_15_code
def yX12_here : MethodName := ⟨RX12, "here", "()I"⟩
abbrev cX12_fine : ByteArray := prog_14_method_16_code
def yX12_fine : MethodName := ⟨RX12, "fine", "()Z"⟩
abbrev cX12_fault : ByteArray := prog_14_method_17_code
def yX12_fault : MethodName := ⟨RX12, "fault", "(I)V"⟩
abbrev cX12_passes : ByteArray := prog_14_method_18_code
def yX12_passes : MethodName := ⟨RX12, "passes", "(C)Z"⟩
abbrev cX12_need : ByteArray := prog_14_method_19_code
def yX12_need : MethodName := ⟨RX12, "need", "(C)V"⟩
abbrev cX12_number : ByteArray := prog_14_method_20_code
def yX12_number : MethodName := ⟨RX12, "number", "(I)I"⟩
abbrev cX12_letter : ByteArray := prog_14_method_21_code
def yX12_letter : MethodName := ⟨RX12, "letter", "()I"⟩
abbrev cX12_folk : ByteArray := prog_14_method_22_code
def yX12_folk : MethodName := ⟨RX12, "folk", "()I"⟩
abbrev cX12_readOne : ByteArray := prog_14_method_23_code
def yX12_readOne : MethodName := ⟨RX12, "readOne", "(I)V"⟩
abbrev cX12_held : ByteArray := prog_14_method_24_code
def yX12_held : MethodName := ⟨RX12, "held", "(I)I"⟩
abbrev cX12_sum : ByteArray := prog_14_method_25_code
def yX12_sum : MethodName := ⟨RX12, "sum", "(I)I"⟩
abbrev cX12_product : ByteArray := prog_14_method_26_code
def yX12_product : MethodName := ⟨RX12, "product", "(I)I"⟩
abbrev cX12_thing : ByteArray := prog_14_method_27_code
def yX12_thing : MethodName := ⟨RX12, "thing", "(I)I"⟩
abbrev cX12_rule : ByteArray := prog_14_method_28_code
def yX12_rule : MethodName := ⟨RX12, "rule", "()I"⟩
abbrev cX12_weightOf : ByteArray := prog_14_method_29_code
def yX12_weightOf : MethodName := ⟨RX12, "weightOf", "(II)I"⟩
abbrev cX12_weightBy : ByteArray := prog_14_method_30_code
def yX12_weightBy : MethodName := ⟨RX12, "weightBy", "(III)I"⟩
abbrev cX12_weightOfAll : ByteArray := prog_14_method_31_code
def yX12_weightOfAll : MethodName := ⟨RX12, "weightOfAll", "(II)I"⟩
abbrev cX12_findSets : ByteArray := prog_14_method_32_code
def yX12_findSets : MethodName := ⟨RX12, "findSets", "(I)V"⟩
abbrev cX12_dawn : ByteArray := prog_14_method_33_code
def yX12_dawn : MethodName := ⟨RX12, "dawn", "()I"⟩
abbrev cX12_of : ByteArray := prog_14_method_34_code
def yX12_of : MethodName := ⟨RX12, "of", "(II)I"⟩
abbrev cX12_weight : ByteArray := prog_14_method_35_code
def yX12_weight : MethodName := ⟨RX12, "weight", "(II)I"⟩
abbrev cX12_all : ByteArray := prog_14_method_36_code
def yX12_all : MethodName := ⟨RX12, "all", "(II)I"⟩
abbrev cX12_bear : ByteArray := prog_14_method_37_code
def yX12_bear : MethodName := ⟨RX12, "bear", "(II)I"⟩
abbrev cX12_sheet : ByteArray := prog_14_method_38_code
def yX12_sheet : MethodName := ⟨RX12, "sheet", "(IIII)I"⟩
abbrev cX12_leanOf : ByteArray := prog_14_method_39_code
def yX12_leanOf : MethodName := ⟨RX12, "leanOf", "([II)I"⟩
abbrev cX12_isTipping : ByteArray := prog_14_method_40_code
def yX12_isTipping : MethodName := ⟨RX12, "isTipping", "(I)Z"⟩
abbrev cX12_isTipping_ : ByteArray := prog_14_method_41_code
def yX12_isTipping_ : MethodName := ⟨RX12, "isTipping", "([I)Z"⟩
abbrev cX12_lay : ByteArray := prog_14_method_42_code
def yX12_lay : MethodName := ⟨RX12, "lay", "([I[II)V"⟩
abbrev cX12_remember : ByteArray := prog_14_method_43_code
def yX12_remember : MethodName := ⟨RX12, "remember", "([I)V"⟩
abbrev cX12_ring : ByteArray := prog_14_method_44_code
def yX12_ring : MethodName := ⟨RX12, "ring", "(I)I"⟩
abbrev cX12_tryBoard : ByteArray := prog_14_method_45_code
def yX12_tryBoard : MethodName := ⟨RX12, "tryBoard", "(II)I"⟩
abbrev cX12_tryOff : ByteArray := prog_14_method_46_code
def yX12_tryOff : MethodName := ⟨RX12, "tryOff", "(I)I"⟩
abbrev cX12_tryStep : ByteArray := prog_14_method_47_code
def yX12_tryStep : MethodName := ⟨RX12, "tryStep", "(II)I"⟩
abbrev cX12_doTried : ByteArray := prog_14_method_48_code
def yX12_doTried : MethodName := ⟨RX12, "doTried", "()V"⟩
abbrev cX12_board : ByteArray := prog_14_method_49_code
def yX12_board : MethodName := ⟨RX12, "board", "(II)I"⟩
abbrev cX12_off : ByteArray := prog_14_method_50_code
def yX12_off : MethodName := ⟨RX12, "off", "(I)I"⟩
abbrev cX12_step : ByteArray := prog_14_method_51_code
def yX12_step : MethodName := ⟨RX12, "step", "(II)I"⟩
abbrev cX12_day : ByteArray := prog_14_method_52_code
def yX12_day : MethodName := ⟨RX12, "day", "()I"⟩
abbrev cX12_readAct : ByteArray := prog_14_method_53_code
def yX12_readAct : MethodName := ⟨RX12, "readAct", "(I)V"⟩
abbrev cX12_act : ByteArray := prog_14_method_54_code
def yX12_act : MethodName := ⟨RX12, "act", "(I)Z"⟩
abbrev cX12_undo : ByteArray := prog_14_method_55_code
def yX12_undo : MethodName := ⟨RX12, "undo", "()I"⟩
abbrev cX12_lean : ByteArray := prog_14_method_56_code
def yX12_lean : MethodName := ⟨RX12, "lean", "(I)I"⟩
abbrev cX12_tips : ByteArray := prog_14_method_57_code
def yX12_tips : MethodName := ⟨RX12, "tips", "()I"⟩
abbrev cX12_lighter : ByteArray := prog_14_method_58_code
def yX12_lighter : MethodName := ⟨RX12, "lighter", "(II)I"⟩
abbrev cX12_between : ByteArray := prog_14_method_59_code
def yX12_between : MethodName := ⟨RX12, "between", "(III)I"⟩
abbrev cX12_climbs : ByteArray := prog_14_method_60_code
def yX12_climbs : MethodName := ⟨RX12, "climbs", "(II)I"⟩
abbrev cX12_spread : ByteArray := prog_14_method_61_code
def yX12_spread : MethodName := ⟨RX12, "spread", "(I)I"⟩
abbrev cX12_floor : ByteArray := prog_14_method_62_code
def yX12_floor : MethodName := ⟨RX12, "floor", "(I)I"⟩
abbrev cX12_heaviest : ByteArray := prog_14_method_63_code
def yX12_heaviest : MethodName := ⟨RX12, "heaviest", "(I)I"⟩
abbrev cX12_timber : ByteArray := prog_14_method_64_code
def yX12_timber : MethodName := ⟨RX12, "timber", "(II)I"⟩
abbrev cX12_task : ByteArray := prog_14_method_65_code
def yX12_task : MethodName := ⟨RX12, "task", "(II)I"⟩
abbrev cX12_forget : ByteArray := prog_14_method_66_code
def yX12_forget : MethodName := ⟨RX12, "forget", "()I"⟩
abbrev cX12_does : ByteArray := prog_14_method_67_code
def yX12_does : MethodName := ⟨RX12, "does", "(II)Z"⟩
abbrev cX12_crewOf : ByteArray := prog_14_method_68_code
def yX12_crewOf : MethodName := ⟨RX12, "crewOf", "(I)I"⟩
abbrev cX12_crew : ByteArray := prog_14_method_69_code
def yX12_crew : MethodName := ⟨RX12, "crew", "(II)I"⟩
abbrev cX12_findAble : ByteArray := prog_14_method_70_code
def yX12_findAble : MethodName := ⟨RX12, "findAble", "()V"⟩
abbrev cX12_times : ByteArray := prog_14_method_71_code
def yX12_times : MethodName := ⟨RX12, "times", "(I)I"⟩
abbrev cX12_planFrom : ByteArray := prog_14_method_72_code
def yX12_planFrom : MethodName := ⟨RX12, "planFrom", "(III)Z"⟩
abbrev cX12_earliest : ByteArray := prog_14_method_73_code
def yX12_earliest : MethodName := ⟨RX12, "earliest", "()I"⟩
abbrev cX12_most : ByteArray := prog_14_method_74_code
def yX12_most : MethodName := ⟨RX12, "most", "(I)I"⟩
abbrev cX12_canCross : ByteArray := prog_14_method_75_code
def yX12_canCross : MethodName := ⟨RX12, "canCross", "(II)Z"⟩
abbrev cX12_findCross : ByteArray := prog_14_method_76_code
def yX12_findCross : MethodName := ⟨RX12, "findCross", "(II)I"⟩
abbrev cX12_findGood : ByteArray := prog_14_method_77_code
def yX12_findGood : MethodName := ⟨RX12, "findGood", "(III)V"⟩
abbrev cX12_canSetOut : ByteArray := prog_14_method_78_code
def yX12_canSetOut : MethodName := ⟨RX12, "canSetOut", "(I)Z"⟩
abbrev cX12_goes : ByteArray := prog_14_method_79_code
def yX12_goes : MethodName := ⟨RX12, "goes", "(I)I"⟩
abbrev cX12_cross : ByteArray := prog_14_method_80_code
def yX12_cross : MethodName := ⟨RX12, "cross", "(II)I"⟩
abbrev cX12_start : ByteArray := prog_14_method_81_code
def yX12_start : MethodName := ⟨RX12, "start", "(I)I"⟩
abbrev cX12_codeOf : ByteArray := prog_14_method_82_code
def yX12_codeOf : MethodName := ⟨RX12, "codeOf", "([I)I"⟩
abbrev cX12_layCode : ByteArray := prog_14_method_83_code
def yX12_layCode : MethodName := ⟨RX12, "layCode", "(I[I)V"⟩
abbrev cX12_wayOf : ByteArray := prog_14_method_84_code
def yX12_wayOf : MethodName := ⟨RX12, "wayOf", "(II)I"⟩
abbrev cX12_leftOf : ByteArray := prog_14_method_85_code
def yX12_leftOf : MethodName := ⟨RX12, "leftOf", "(II)I"⟩
abbrev cX12_find : ByteArray := prog_14_method_86_code
def yX12_find : MethodName := ⟨RX12, "find", "(II)I"⟩
abbrev cX12_add : ByteArray := prog_14_method_87_code
def yX12_add : MethodName := ⟨RX12, "add", "(II)Z"⟩
abbrev cX12_stepTo : ByteArray := prog_14_method_88_code
def yX12_stepTo : MethodName := ⟨RX12, "stepTo", "(III)I"⟩
abbrev cX12_leanStood : ByteArray := prog_14_method_89_code
def yX12_leanStood : MethodName := ⟨RX12, "leanStood", "()I"⟩
abbrev cX12_findWays : ByteArray := prog_14_method_90_code
def yX12_findWays : MethodName := ⟨RX12, "findWays", "(I)Z"⟩
abbrev cX12_findEach : ByteArray := prog_14_method_91_code
def yX12_findEach : MethodName := ⟨RX12, "findEach", "(I)V"⟩
abbrev cX12_findSteps : ByteArray := prog_14_method_92_code
def yX12_findSteps : MethodName := ⟨RX12, "findSteps", "(I)V"⟩
abbrev cX12_stepsBy : ByteArray := prog_14_method_93_code
def yX12_stepsBy : MethodName := ⟨RX12, "stepsBy", "(IIII)I"⟩
abbrev cX12_steady : ByteArray := prog_14_method_94_code
def yX12_steady : MethodName := ⟨RX12, "steady", "(I)I"⟩
abbrev cX12_trim : ByteArray := prog_14_method_95_code
def yX12_trim : MethodName := ⟨RX12, "trim", "(I)I"⟩
abbrev cX12_areTwoSets : ByteArray := prog_14_method_96_code
def yX12_areTwoSets : MethodName := ⟨RX12, "areTwoSets", "(II)Z"⟩
abbrev cX12_sinks : ByteArray := prog_14_method_97_code
def yX12_sinks : MethodName := ⟨RX12, "sinks", "(III)I"⟩
abbrev cX12_balance : ByteArray := prog_14_method_98_code
def yX12_balance : MethodName := ⟨RX12, "balance", "(III)I"⟩
abbrev cX12_even : ByteArray := prog_14_method_99_code
def yX12_even : MethodName := ⟨RX12, "even", "(II)I"⟩
abbrev cX12_makeup : ByteArray := prog_14_method_100_code
def yX12_makeup : MethodName := ⟨RX12, "makeup", "(III)I"⟩
abbrev cX12_split : ByteArray := prog_14_method_101_code
def yX12_split : MethodName := ⟨RX12, "split", "(II)I"⟩
abbrev cX12_pair : ByteArray := prog_14_method_102_code
def yX12_pair : MethodName := ⟨RX12, "pair", "(II)I"⟩
abbrev cX12_weighed : ByteArray := prog_14_method_103_code
def yX12_weighed : MethodName := ⟨RX12, "weighed", "(III)I"⟩
abbrev cX12_unsay : ByteArray := prog_14_method_104_code
def yX12_unsay : MethodName := ⟨RX12, "unsay", "()I"⟩
abbrev cX12_falseOnes : ByteArray := prog_14_method_105_code
def yX12_falseOnes : MethodName := ⟨RX12, "falseOnes", "()I"⟩
abbrev cX12_believed : ByteArray := prog_14_method_106_code
def yX12_believed : MethodName := ⟨RX12, "believed", "()I"⟩
abbrev cX12_findBases : ByteArray := prog_14_method_107_code
def yX12_findBases : MethodName := ⟨RX12, "findBases", "(I)V"⟩
abbrev cX12_fits : ByteArray := prog_14_method_108_code
def yX12_fits : MethodName := ⟨RX12, "fits", "(I)I"⟩
abbrev cX12_liars : ByteArray := prog_14_method_109_code
def yX12_liars : MethodName := ⟨RX12, "liars", "()I"⟩
abbrev cX12_print : ByteArray := prog_14_method_110_code
def yX12_print : MethodName := ⟨RX12, "print", "(III)I"⟩
abbrev cX12_hour : ByteArray := prog_14_method_111_code
def yX12_hour : MethodName := ⟨RX12, "hour", "(IIII)I"⟩
abbrev cX12_ballast : ByteArray := prog_14_method_112_code
def yX12_ballast : MethodName := ⟨RX12, "ballast", "(II)I"⟩
abbrev cX12_isPerson : ByteArray := prog_14_method_113_code
def yX12_isPerson : MethodName := ⟨RX12, "isPerson", "(I)Z"⟩
abbrev cX12_swap : ByteArray := prog_14_method_114_code
def yX12_swap : MethodName := ⟨RX12, "swap", "(IIII)I"⟩
abbrev cX12_goOrder : ByteArray := prog_14_method_115_code
def yX12_goOrder : MethodName := ⟨RX12, "goOrder", "(III)V"⟩
abbrev cX12_order : ByteArray := prog_14_method_116_code
def yX12_order : MethodName := ⟨RX12, "order", "(I)I"⟩
abbrev cX12_keep : ByteArray := prog_14_method_117_code
def yX12_keep : MethodName := ⟨RX12, "keep", "(I)Z"⟩
abbrev cX12_again : ByteArray := prog_14_method_118_code
def yX12_again : MethodName := ⟨RX12, "again", "(I)Z"⟩
abbrev cX12_count : ByteArray := prog_14_method_119_code
def yX12_count : MethodName := ⟨RX12, "count", "(I)I"⟩
abbrev cX12_row : ByteArray := prog_14_method_120_code
def yX12_row : MethodName := ⟨RX12, "row", "(I)I"⟩
def RJx145de : String := "java/io/Serializable"
def TJx145de : u_T := fun k => match k with
  | _ => ("", "", "", false)
def tyJx145de : Nat → FieldType := fun k => match k with
  | _ => .int
abbrev wsJx145de0 : List Cond := u_ws RJx145de TJx145de 0
theorem nmJx145de : ∀ a, a < 0 → ∀ b, b < 0 → a ≠ b → (TJx145de a).2.1 ≠ (TJx145de b).2.1 := by decide +kernel
theorem tyJx145de_ok : ∀ k, k < 0 → parseFieldDescriptor (TJx145de k).2.2.1 = some (tyJx145de k) := by decide +kernel
def RJ6 : String := "java/lang/Integer"
def TJ6 : u_T := fun k => match k with
  | _ => ("", "", "", false)
def tyJ6 : Nat → FieldType := fun k => match k with
  | _ => .int
abbrev wsJ60 : List Cond := u_ws RJ6 TJ6 0
theorem nmJ6 : ∀ a, a < 0 → ∀ b, b < 0 → a ≠ b → (TJ6 a).2.1 ≠ (TJ6 b).2.1 := by decide +kernel
theorem tyJ6_ok : ∀ k, k < 0 → parseFieldDescriptor (TJ6 k).2.2.1 = some (tyJ6 k) := by decide +kernel
abbrev cJ6_numberOfTrailingZeros_0f7a4 : ByteArray := prog_17_method_48_code
def yJ6_numberOfTrailingZeros_0f7a4 : MethodName := ⟨RJ6, "numberOfTrailingZeros", "(I)I"⟩
abbrev cJ6_bitCount_0f7a4 : ByteArray := prog_17_method_49_code
def yJ6_bitCount_0f7a4 : MethodName := ⟨RJ6, "bitCount", "(I)I"⟩
abbrev cJ6_signum_0f7a4 : ByteArray := prog_17_method_56_code
def yJ6_signum_0f7a4 : MethodName := ⟨RJ6, "signum", "(I)I"⟩
def RJ9 : String := "java/lang/Math"
def TJ9 : u_T := fun k => match k with
  | _ => ("", "", "", false)
def tyJ9 : Nat → FieldType := fun k => match k with
  | _ => .int
abbrev wsJ90 : List Cond := u_ws RJ9 TJ9 0
theorem nmJ9 : ∀ a, a < 0 → ∀ b, b < 0 → a ≠ b → (TJ9 a).2.1 ≠ (TJ9 b).2.1 := by decide +kernel
theorem tyJ9_ok : ∀ k, k < 0 → parseFieldDescriptor (TJ9 k).2.2.1 = some (tyJ9 k) := by decide +kernel
abbrev cJ9_abs_0f7a4 : ByteArray := prog_18_method_59_code
def yJ9_abs_0f7a4 : MethodName := ⟨RJ9, "abs", "(I)I"⟩
abbrev cJ9_max_7cf53 : ByteArray := prog_18_method_65_code
def yJ9_max_7cf53 : MethodName := ⟨RJ9, "max", "(II)I"⟩
abbrev cJ9_min_7cf53 : ByteArray := prog_18_method_69_code
def yJ9_min_7cf53 : MethodName := ⟨RJ9, "min", "(II)I"⟩
def RJ10 : String := "java/lang/System"
def TJ10 : u_T := fun k => match k with
  | _ => ("", "", "", false)
def tyJ10 : Nat → FieldType := fun k => match k with
  | _ => .int
abbrev wsJ100 : List Cond := u_ws RJ10 TJ10 0
theorem nmJ10 : ∀ a, a < 0 → ∀ b, b < 0 → a ≠ b → (TJ10 a).2.1 ≠ (TJ10 b).2.1 := by decide +kernel
theorem tyJ10_ok : ∀ k, k < 0 → parseFieldDescriptor (TJ10 k).2.2.1 = some (tyJ10 k) := by decide +kernel
def RJ7 : String := "java/util/Arrays"
def TJ7 : u_T := fun k => match k with
  | _ => ("", "", "", false)
def tyJ7 : Nat → FieldType := fun k => match k with
  | _ => .int
abbrev wsJ70 : List Cond := u_ws RJ7 TJ7 0
theorem nmJ7 : ∀ a, a < 0 → ∀ b, b < 0 → a ≠ b → (TJ7 a).2.1 ≠ (TJ7 b).2.1 := by decide +kernel
theorem tyJ7_ok : ∀ k, k < 0 → parseFieldDescriptor (TJ7 k).2.2.1 = some (tyJ7 k) := by decide +kernel
abbrev cJ7_fill_d0a16 : ByteArray := prog_22_method_101_code
def yJ7_fill_d0a16 : MethodName := ⟨RJ7, "fill", "([JJ)V"⟩
abbrev cJ7_fill_53178 : ByteArray := prog_22_method_103_code
def yJ7_fill_53178 : MethodName := ⟨RJ7, "fill", "([II)V"⟩
def RL : String := "LighterAtDuskLaw"
abbrev cL_of : ByteArray := method_3_code
def yL_of : MethodName := ⟨RL, "of", "(LLighterAtDusk;II[J)I"⟩
abbrev cL_weight : ByteArray := method_4_code
def yL_weight : MethodName := ⟨RL, "weight", "(LLighterAtDusk;II[J)I"⟩
abbrev cL_lean : ByteArray := method_5_code
def yL_lean : MethodName := ⟨RL, "lean", "(LLighterAtDusk;I[J)I"⟩
abbrev cL_balance : ByteArray := method_6_code
def yL_balance : MethodName := ⟨RL, "balance", "(LLighterAtDusk;III[J)I"⟩
abbrev cL_pair : ByteArray := method_7_code
def yL_pair : MethodName := ⟨RL, "pair", "(LLighterAtDusk;II[J)I"⟩
abbrev cL_swap : ByteArray := method_8_code
def yL_swap : MethodName := ⟨RL, "swap", "(LLighterAtDusk;IIII[J)I"⟩
abbrev cL_row : ByteArray := method_9_code
def yL_row : MethodName := ⟨RL, "row", "(LLighterAtDusk;I[J)I"⟩
abbrev cL_law : ByteArray := code
def yL_law : MethodName := ⟨RL, "law", "([I)Z"⟩
abbrev vwCl : List vw_C := [(RX0, TX0, 5), (RX1, TX1, 7), (RX2, TX2, 9), (RX3, TX3, 6), (RX4, TX4, 11), (RX6, TX6, 5), (RX7, TX7, 2), (RX8, TX8, 8), (RX9, TX9, 10), (RX10, TX10, 7), (RX11, TX11, 13), (RX12, TX12, 53)]
