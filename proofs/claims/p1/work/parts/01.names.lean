-- ===== PART A: goes FIRST, ahead of the names: the tables' words, and 'selects' of the private methods out of them =====
/-- a private method of a class that the tables say can be made, by its rows of tables_1 -/
def lw_okq (q : MethodName × Nat) : Prop := (q.1.cls ≠ "java/lang/invoke/MethodHandle" ∧ q.1.cls ≠ "java/lang/invoke/VarHandle") ∧ Cond.instantiable q.1.cls q.2 ∈ tables_1 ∧ Cond.privateMethod q.1 ∈ tables_1 ∧ Cond.instanceMethod q.1 ∈ tables_1
theorem lw_p0 : lw_okq (⟨"VoteRoll$Tape", "kindAt", "(I)I"⟩, 5) := ⟨⟨by decide +kernel, by decide +kernel⟩, List.mem_of_getElem? (i := 30) (by decide +kernel), List.mem_of_getElem? (i := 652) (by decide +kernel), List.mem_of_getElem? (i := 653) (by decide +kernel)⟩
theorem lw_p1 : lw_okq (⟨"VoteRoll$Folds", "readPair", "(LVoteRoll$Tape;)Z"⟩, 5) := ⟨⟨by decide +kernel, by decide +kernel⟩, List.mem_of_getElem? (i := 64) (by decide +kernel), List.mem_of_getElem? (i := 656) (by decide +kernel), List.mem_of_getElem? (i := 657) (by decide +kernel)⟩
theorem lw_p2 : lw_okq (⟨"VoteRoll$Folds", "readRow", "(LVoteRoll$Tape;[B)I"⟩, 5) := ⟨⟨by decide +kernel, by decide +kernel⟩, List.mem_of_getElem? (i := 64) (by decide +kernel), List.mem_of_getElem? (i := 664) (by decide +kernel), List.mem_of_getElem? (i := 665) (by decide +kernel)⟩
theorem lw_p3 : lw_okq (⟨"VoteRoll", "refuse", "(I)I"⟩, 15) := ⟨⟨by decide +kernel, by decide +kernel⟩, List.mem_of_getElem? (i := 22) (by decide +kernel), List.mem_of_getElem? (i := 673) (by decide +kernel), List.mem_of_getElem? (i := 674) (by decide +kernel)⟩
theorem lw_p4 : lw_okq (⟨"VoteRoll$Folds", "fitting", "([BII)I"⟩, 5) := ⟨⟨by decide +kernel, by decide +kernel⟩, List.mem_of_getElem? (i := 64) (by decide +kernel), List.mem_of_getElem? (i := 692) (by decide +kernel), List.mem_of_getElem? (i := 693) (by decide +kernel)⟩
theorem lw_p5 : lw_okq (⟨"VoteRoll", "accept", "(I)I"⟩, 15) := ⟨⟨by decide +kernel, by decide +kernel⟩, List.mem_of_getElem? (i := 22) (by decide +kernel), List.mem_of_getElem? (i := 700) (by decide +kernel), List.mem_of_getElem? (i := 701) (by decide +kernel)⟩
theorem lw_p6 : lw_okq (⟨"VoteRoll$Law", "readClause", "(LVoteRoll$Tape;)Z"⟩, 6) := ⟨⟨by decide +kernel, by decide +kernel⟩, List.mem_of_getElem? (i := 88) (by decide +kernel), List.mem_of_getElem? (i := 714) (by decide +kernel), List.mem_of_getElem? (i := 715) (by decide +kernel)⟩
theorem lw_p7 : lw_okq (⟨"VoteRoll$Law", "readCause", "(LVoteRoll$Tape;I)Z"⟩, 6) := ⟨⟨by decide +kernel, by decide +kernel⟩, List.mem_of_getElem? (i := 88) (by decide +kernel), List.mem_of_getElem? (i := 773) (by decide +kernel), List.mem_of_getElem? (i := 774) (by decide +kernel)⟩
theorem lw_p8 : lw_okq (⟨"VoteRoll$Law", "readFact", "(LVoteRoll$Tape;I)Z"⟩, 6) := ⟨⟨by decide +kernel, by decide +kernel⟩, List.mem_of_getElem? (i := 88) (by decide +kernel), List.mem_of_getElem? (i := 777) (by decide +kernel), List.mem_of_getElem? (i := 778) (by decide +kernel)⟩
theorem lw_p9 : lw_okq (⟨"VoteRoll$Law", "readWithin", "(LVoteRoll$Tape;I)Z"⟩, 6) := ⟨⟨by decide +kernel, by decide +kernel⟩, List.mem_of_getElem? (i := 88) (by decide +kernel), List.mem_of_getElem? (i := 783) (by decide +kernel), List.mem_of_getElem? (i := 784) (by decide +kernel)⟩
theorem lw_p10 : lw_okq (⟨"VoteRoll$Law", "readPlain", "(LVoteRoll$Tape;)Z"⟩, 6) := ⟨⟨by decide +kernel, by decide +kernel⟩, List.mem_of_getElem? (i := 88) (by decide +kernel), List.mem_of_getElem? (i := 787) (by decide +kernel), List.mem_of_getElem? (i := 788) (by decide +kernel)⟩
theorem lw_p11 : lw_okq (⟨"VoteRoll$Law", "emit", "(II)V"⟩, 6) := ⟨⟨by decide +kernel, by decide +kernel⟩, List.mem_of_getElem? (i := 88) (by decide +kernel), List.mem_of_getElem? (i := 814) (by decide +kernel), List.mem_of_getElem? (i := 815) (by decide +kernel)⟩
theorem lw_p12 : lw_okq (⟨"VoteRoll$Law", "readValue", "(LVoteRoll$Tape;I)Z"⟩, 6) := ⟨⟨by decide +kernel, by decide +kernel⟩, List.mem_of_getElem? (i := 88) (by decide +kernel), List.mem_of_getElem? (i := 833) (by decide +kernel), List.mem_of_getElem? (i := 834) (by decide +kernel)⟩
theorem lw_p13 : lw_okq (⟨"VoteRoll$Book", "makeRoomForNames", "()V"⟩, 14) := ⟨⟨by decide +kernel, by decide +kernel⟩, List.mem_of_getElem? (i := 128) (by decide +kernel), List.mem_of_getElem? (i := 866) (by decide +kernel), List.mem_of_getElem? (i := 867) (by decide +kernel)⟩
theorem lw_p14 : lw_okq (⟨"VoteRoll$Book", "readName", "(LVoteRoll$Tape;I)Z"⟩, 14) := ⟨⟨by decide +kernel, by decide +kernel⟩, List.mem_of_getElem? (i := 128) (by decide +kernel), List.mem_of_getElem? (i := 872) (by decide +kernel), List.mem_of_getElem? (i := 873) (by decide +kernel)⟩
theorem lw_p15 : lw_okq (⟨"VoteRoll$Odds", "nameLikeness", "(III)I"⟩, 14) := ⟨⟨by decide +kernel, by decide +kernel⟩, List.mem_of_getElem? (i := 255) (by decide +kernel), List.mem_of_getElem? (i := 913) (by decide +kernel), List.mem_of_getElem? (i := 914) (by decide +kernel)⟩
def lw_privs_1 : List (MethodName × Nat) := [(⟨"VoteRoll$Tape", "kindAt", "(I)I"⟩, 5), (⟨"VoteRoll$Folds", "readPair", "(LVoteRoll$Tape;)Z"⟩, 5), (⟨"VoteRoll$Folds", "readRow", "(LVoteRoll$Tape;[B)I"⟩, 5), (⟨"VoteRoll", "refuse", "(I)I"⟩, 15), (⟨"VoteRoll$Folds", "fitting", "([BII)I"⟩, 5), (⟨"VoteRoll", "accept", "(I)I"⟩, 15), (⟨"VoteRoll$Law", "readClause", "(LVoteRoll$Tape;)Z"⟩, 6), (⟨"VoteRoll$Law", "readCause", "(LVoteRoll$Tape;I)Z"⟩, 6), (⟨"VoteRoll$Law", "readFact", "(LVoteRoll$Tape;I)Z"⟩, 6), (⟨"VoteRoll$Law", "readWithin", "(LVoteRoll$Tape;I)Z"⟩, 6), (⟨"VoteRoll$Law", "readPlain", "(LVoteRoll$Tape;)Z"⟩, 6), (⟨"VoteRoll$Law", "emit", "(II)V"⟩, 6), (⟨"VoteRoll$Law", "readValue", "(LVoteRoll$Tape;I)Z"⟩, 6), (⟨"VoteRoll$Book", "makeRoomForNames", "()V"⟩, 14), (⟨"VoteRoll$Book", "readName", "(LVoteRoll$Tape;I)Z"⟩, 14), (⟨"VoteRoll$Odds", "nameLikeness", "(III)I"⟩, 14)]
theorem lw_r1 : ∀ q ∈ lw_privs_1, lw_okq q := List.forall_mem_cons.mpr ⟨lw_p0, List.forall_mem_cons.mpr ⟨lw_p1, List.forall_mem_cons.mpr ⟨lw_p2, List.forall_mem_cons.mpr ⟨lw_p3, List.forall_mem_cons.mpr ⟨lw_p4, List.forall_mem_cons.mpr ⟨lw_p5, List.forall_mem_cons.mpr ⟨lw_p6, List.forall_mem_cons.mpr ⟨lw_p7, List.forall_mem_cons.mpr ⟨lw_p8, List.forall_mem_cons.mpr ⟨lw_p9, List.forall_mem_cons.mpr ⟨lw_p10, List.forall_mem_cons.mpr ⟨lw_p11, List.forall_mem_cons.mpr ⟨lw_p12, List.forall_mem_cons.mpr ⟨lw_p13, List.forall_mem_cons.mpr ⟨lw_p14, List.forall_mem_cons.mpr ⟨lw_p15, fun _ h => absurd h List.not_mem_nil⟩⟩⟩⟩⟩⟩⟩⟩⟩⟩⟩⟩⟩⟩⟩⟩
theorem lw_p16 : lw_okq (⟨"VoteRoll$Odds", "distance", "(IIII)I"⟩, 14) := ⟨⟨by decide +kernel, by decide +kernel⟩, List.mem_of_getElem? (i := 255) (by decide +kernel), List.mem_of_getElem? (i := 921) (by decide +kernel), List.mem_of_getElem? (i := 922) (by decide +kernel)⟩
theorem lw_p17 : lw_okq (⟨"VoteRoll$Odds", "nameState", "(I)I"⟩, 14) := ⟨⟨by decide +kernel, by decide +kernel⟩, List.mem_of_getElem? (i := 255) (by decide +kernel), List.mem_of_getElem? (i := 937) (by decide +kernel), List.mem_of_getElem? (i := 938) (by decide +kernel)⟩
theorem lw_p18 : lw_okq (⟨"VoteRoll$Persons", "sortPairs", "()V"⟩, 17) := ⟨⟨by decide +kernel, by decide +kernel⟩, List.mem_of_getElem? (i := 317) (by decide +kernel), List.mem_of_getElem? (i := 962) (by decide +kernel), List.mem_of_getElem? (i := 963) (by decide +kernel)⟩
theorem lw_p19 : lw_okq (⟨"VoteRoll$Persons", "rankKinds", "()V"⟩, 17) := ⟨⟨by decide +kernel, by decide +kernel⟩, List.mem_of_getElem? (i := 317) (by decide +kernel), List.mem_of_getElem? (i := 967) (by decide +kernel), List.mem_of_getElem? (i := 968) (by decide +kernel)⟩
theorem lw_p20 : lw_okq (⟨"VoteRoll$Persons", "insertKind", "(IJJ)V"⟩, 17) := ⟨⟨by decide +kernel, by decide +kernel⟩, List.mem_of_getElem? (i := 317) (by decide +kernel), List.mem_of_getElem? (i := 977) (by decide +kernel), List.mem_of_getElem? (i := 978) (by decide +kernel)⟩
theorem lw_p21 : lw_okq (⟨"VoteRoll$Persons", "tryPair", "(II)V"⟩, 17) := ⟨⟨by decide +kernel, by decide +kernel⟩, List.mem_of_getElem? (i := 317) (by decide +kernel), List.mem_of_getElem? (i := 985) (by decide +kernel), List.mem_of_getElem? (i := 986) (by decide +kernel)⟩
theorem lw_p22 : lw_okq (⟨"VoteRoll", "lookAt", "(III)Z"⟩, 15) := ⟨⟨by decide +kernel, by decide +kernel⟩, List.mem_of_getElem? (i := 22) (by decide +kernel), List.mem_of_getElem? (i := 998) (by decide +kernel), List.mem_of_getElem? (i := 999) (by decide +kernel)⟩
theorem lw_p23 : lw_okq (⟨"VoteRoll$Facts", "mostlyBorn", "()I"⟩, 18) := ⟨⟨by decide +kernel, by decide +kernel⟩, List.mem_of_getElem? (i := 381) (by decide +kernel), List.mem_of_getElem? (i := 1006) (by decide +kernel), List.mem_of_getElem? (i := 1007) (by decide +kernel)⟩
theorem lw_p24 : lw_okq (⟨"VoteRoll$Facts", "homeOf", "(I)I"⟩, 18) := ⟨⟨by decide +kernel, by decide +kernel⟩, List.mem_of_getElem? (i := 381) (by decide +kernel), List.mem_of_getElem? (i := 1028) (by decide +kernel), List.mem_of_getElem? (i := 1029) (by decide +kernel)⟩
theorem lw_p25 : lw_okq (⟨"VoteRoll$Facts", "hearAnswers", "()V"⟩, 18) := ⟨⟨by decide +kernel, by decide +kernel⟩, List.mem_of_getElem? (i := 381) (by decide +kernel), List.mem_of_getElem? (i := 1032) (by decide +kernel), List.mem_of_getElem? (i := 1033) (by decide +kernel)⟩
theorem lw_p26 : lw_okq (⟨"VoteRoll$Facts", "holds", "(II)Z"⟩, 18) := ⟨⟨by decide +kernel, by decide +kernel⟩, List.mem_of_getElem? (i := 381) (by decide +kernel), List.mem_of_getElem? (i := 1079) (by decide +kernel), List.mem_of_getElem? (i := 1080) (by decide +kernel)⟩
theorem lw_p27 : lw_okq (⟨"VoteRoll$Line", "nextAsking", "(I)I"⟩, 7) := ⟨⟨by decide +kernel, by decide +kernel⟩, List.mem_of_getElem? (i := 457) (by decide +kernel), List.mem_of_getElem? (i := 1099) (by decide +kernel), List.mem_of_getElem? (i := 1100) (by decide +kernel)⟩
theorem lw_p28 : lw_okq (⟨"VoteRoll$Line", "nextDoing", "(I)I"⟩, 7) := ⟨⟨by decide +kernel, by decide +kernel⟩, List.mem_of_getElem? (i := 457) (by decide +kernel), List.mem_of_getElem? (i := 1103) (by decide +kernel), List.mem_of_getElem? (i := 1104) (by decide +kernel)⟩
theorem lw_p29 : lw_okq (⟨"VoteRoll$Line", "ripen", "(I)V"⟩, 7) := ⟨⟨by decide +kernel, by decide +kernel⟩, List.mem_of_getElem? (i := 457) (by decide +kernel), List.mem_of_getElem? (i := 1109) (by decide +kernel), List.mem_of_getElem? (i := 1110) (by decide +kernel)⟩
theorem lw_p30 : lw_okq (⟨"VoteRoll$Line", "become", "(II)V"⟩, 7) := ⟨⟨by decide +kernel, by decide +kernel⟩, List.mem_of_getElem? (i := 457) (by decide +kernel), List.mem_of_getElem? (i := 1114) (by decide +kernel), List.mem_of_getElem? (i := 1115) (by decide +kernel)⟩
theorem lw_p31 : lw_okq (⟨"VoteRoll$Line", "ask", "(I)V"⟩, 7) := ⟨⟨by decide +kernel, by decide +kernel⟩, List.mem_of_getElem? (i := 457) (by decide +kernel), List.mem_of_getElem? (i := 1118) (by decide +kernel), List.mem_of_getElem? (i := 1119) (by decide +kernel)⟩
def lw_privs_2 : List (MethodName × Nat) := [(⟨"VoteRoll$Odds", "distance", "(IIII)I"⟩, 14), (⟨"VoteRoll$Odds", "nameState", "(I)I"⟩, 14), (⟨"VoteRoll$Persons", "sortPairs", "()V"⟩, 17), (⟨"VoteRoll$Persons", "rankKinds", "()V"⟩, 17), (⟨"VoteRoll$Persons", "insertKind", "(IJJ)V"⟩, 17), (⟨"VoteRoll$Persons", "tryPair", "(II)V"⟩, 17), (⟨"VoteRoll", "lookAt", "(III)Z"⟩, 15), (⟨"VoteRoll$Facts", "mostlyBorn", "()I"⟩, 18), (⟨"VoteRoll$Facts", "homeOf", "(I)I"⟩, 18), (⟨"VoteRoll$Facts", "hearAnswers", "()V"⟩, 18), (⟨"VoteRoll$Facts", "holds", "(II)Z"⟩, 18), (⟨"VoteRoll$Line", "nextAsking", "(I)I"⟩, 7), (⟨"VoteRoll$Line", "nextDoing", "(I)I"⟩, 7), (⟨"VoteRoll$Line", "ripen", "(I)V"⟩, 7), (⟨"VoteRoll$Line", "become", "(II)V"⟩, 7), (⟨"VoteRoll$Line", "ask", "(I)V"⟩, 7)]
theorem lw_r2 : ∀ q ∈ lw_privs_2, lw_okq q := List.forall_mem_cons.mpr ⟨lw_p16, List.forall_mem_cons.mpr ⟨lw_p17, List.forall_mem_cons.mpr ⟨lw_p18, List.forall_mem_cons.mpr ⟨lw_p19, List.forall_mem_cons.mpr ⟨lw_p20, List.forall_mem_cons.mpr ⟨lw_p21, List.forall_mem_cons.mpr ⟨lw_p22, List.forall_mem_cons.mpr ⟨lw_p23, List.forall_mem_cons.mpr ⟨lw_p24, List.forall_mem_cons.mpr ⟨lw_p25, List.forall_mem_cons.mpr ⟨lw_p26, List.forall_mem_cons.mpr ⟨lw_p27, List.forall_mem_cons.mpr ⟨lw_p28, List.forall_mem_cons.mpr ⟨lw_p29, List.forall_mem_cons.mpr ⟨lw_p30, List.forall_mem_cons.mpr ⟨lw_p31, fun _ h => absurd h List.not_mem_nil⟩⟩⟩⟩⟩⟩⟩⟩⟩⟩⟩⟩⟩⟩⟩⟩
theorem lw_p32 : lw_okq (⟨"VoteRoll$Line", "lackOn", "(I)I"⟩, 7) := ⟨⟨by decide +kernel, by decide +kernel⟩, List.mem_of_getElem? (i := 457) (by decide +kernel), List.mem_of_getElem? (i := 1123) (by decide +kernel), List.mem_of_getElem? (i := 1124) (by decide +kernel)⟩
theorem lw_p33 : lw_okq (⟨"VoteRoll$Line", "firstNotice", "(II)I"⟩, 7) := ⟨⟨by decide +kernel, by decide +kernel⟩, List.mem_of_getElem? (i := 457) (by decide +kernel), List.mem_of_getElem? (i := 1128) (by decide +kernel), List.mem_of_getElem? (i := 1129) (by decide +kernel)⟩
theorem lw_p34 : lw_okq (⟨"VoteRoll$Line", "answered", "(II)Z"⟩, 7) := ⟨⟨by decide +kernel, by decide +kernel⟩, List.mem_of_getElem? (i := 457) (by decide +kernel), List.mem_of_getElem? (i := 1132) (by decide +kernel), List.mem_of_getElem? (i := 1133) (by decide +kernel)⟩
theorem lw_p35 : lw_okq (⟨"VoteRoll$Line", "meet", "(II)V"⟩, 7) := ⟨⟨by decide +kernel, by decide +kernel⟩, List.mem_of_getElem? (i := 457) (by decide +kernel), List.mem_of_getElem? (i := 1138) (by decide +kernel), List.mem_of_getElem? (i := 1139) (by decide +kernel)⟩
theorem lw_p36 : lw_okq (⟨"VoteRoll", "walkAndLook", "(I)V"⟩, 15) := ⟨⟨by decide +kernel, by decide +kernel⟩, List.mem_of_getElem? (i := 22) (by decide +kernel), List.mem_of_getElem? (i := 1154) (by decide +kernel), List.mem_of_getElem? (i := 1155) (by decide +kernel)⟩
theorem lw_p37 : lw_okq (⟨"VoteRoll", "mayVote", "()Z"⟩, 15) := ⟨⟨by decide +kernel, by decide +kernel⟩, List.mem_of_getElem? (i := 22) (by decide +kernel), List.mem_of_getElem? (i := 1158) (by decide +kernel), List.mem_of_getElem? (i := 1159) (by decide +kernel)⟩
theorem lw_p38 : lw_okq (⟨"VoteRoll", "lineCounts", "(I)Z"⟩, 15) := ⟨⟨by decide +kernel, by decide +kernel⟩, List.mem_of_getElem? (i := 22) (by decide +kernel), List.mem_of_getElem? (i := 1167) (by decide +kernel), List.mem_of_getElem? (i := 1168) (by decide +kernel)⟩
theorem lw_p39 : lw_okq (⟨"VoteRoll", "lastTruth", "(II)I"⟩, 15) := ⟨⟨by decide +kernel, by decide +kernel⟩, List.mem_of_getElem? (i := 22) (by decide +kernel), List.mem_of_getElem? (i := 1175) (by decide +kernel), List.mem_of_getElem? (i := 1176) (by decide +kernel)⟩
theorem lw_p40 : lw_okq (⟨"VoteRoll$Draws", "isLikely", "(IIII)Z"⟩, 7) := ⟨⟨by decide +kernel, by decide +kernel⟩, List.mem_of_getElem? (i := 488) (by decide +kernel), List.mem_of_getElem? (i := 1199) (by decide +kernel), List.mem_of_getElem? (i := 1200) (by decide +kernel)⟩
theorem lw_p41 : lw_okq (⟨"VoteRoll$Draws", "waysOf", "(IIIII)J"⟩, 7) := ⟨⟨by decide +kernel, by decide +kernel⟩, List.mem_of_getElem? (i := 488) (by decide +kernel), List.mem_of_getElem? (i := 1203) (by decide +kernel), List.mem_of_getElem? (i := 1204) (by decide +kernel)⟩
theorem lw_p42 : lw_okq (⟨"VoteRoll", "presentCase", "(I)I"⟩, 15) := ⟨⟨by decide +kernel, by decide +kernel⟩, List.mem_of_getElem? (i := 22) (by decide +kernel), List.mem_of_getElem? (i := 1252) (by decide +kernel), List.mem_of_getElem? (i := 1253) (by decide +kernel)⟩
theorem lw_p43 : lw_okq (⟨"VoteRoll$Plan", "addWish", "(I)V"⟩, 13) := ⟨⟨by decide +kernel, by decide +kernel⟩, List.mem_of_getElem? (i := 521) (by decide +kernel), List.mem_of_getElem? (i := 1264) (by decide +kernel), List.mem_of_getElem? (i := 1265) (by decide +kernel)⟩
theorem lw_p44 : lw_okq (⟨"VoteRoll$Plan", "offer", "(IIII)V"⟩, 13) := ⟨⟨by decide +kernel, by decide +kernel⟩, List.mem_of_getElem? (i := 521) (by decide +kernel), List.mem_of_getElem? (i := 1268) (by decide +kernel), List.mem_of_getElem? (i := 1269) (by decide +kernel)⟩
theorem lw_p45 : lw_okq (⟨"VoteRoll$Plan", "choose", "(I)V"⟩, 13) := ⟨⟨by decide +kernel, by decide +kernel⟩, List.mem_of_getElem? (i := 521) (by decide +kernel), List.mem_of_getElem? (i := 1272) (by decide +kernel), List.mem_of_getElem? (i := 1273) (by decide +kernel)⟩
theorem lw_p46 : lw_okq (⟨"VoteRoll$Plan", "isBetter", "(III)Z"⟩, 13) := ⟨⟨by decide +kernel, by decide +kernel⟩, List.mem_of_getElem? (i := 521) (by decide +kernel), List.mem_of_getElem? (i := 1276) (by decide +kernel), List.mem_of_getElem? (i := 1277) (by decide +kernel)⟩
theorem lw_p47 : lw_okq (⟨"VoteRollModel", "four", "(I)V"⟩, 104) := ⟨⟨by decide +kernel, by decide +kernel⟩, List.mem_of_getElem? (i := 1292) (by decide +kernel), List.mem_of_getElem? (i := 1616) (by decide +kernel), List.mem_of_getElem? (i := 1617) (by decide +kernel)⟩
def lw_privs_3 : List (MethodName × Nat) := [(⟨"VoteRoll$Line", "lackOn", "(I)I"⟩, 7), (⟨"VoteRoll$Line", "firstNotice", "(II)I"⟩, 7), (⟨"VoteRoll$Line", "answered", "(II)Z"⟩, 7), (⟨"VoteRoll$Line", "meet", "(II)V"⟩, 7), (⟨"VoteRoll", "walkAndLook", "(I)V"⟩, 15), (⟨"VoteRoll", "mayVote", "()Z"⟩, 15), (⟨"VoteRoll", "lineCounts", "(I)Z"⟩, 15), (⟨"VoteRoll", "lastTruth", "(II)I"⟩, 15), (⟨"VoteRoll$Draws", "isLikely", "(IIII)Z"⟩, 7), (⟨"VoteRoll$Draws", "waysOf", "(IIIII)J"⟩, 7), (⟨"VoteRoll", "presentCase", "(I)I"⟩, 15), (⟨"VoteRoll$Plan", "addWish", "(I)V"⟩, 13), (⟨"VoteRoll$Plan", "offer", "(IIII)V"⟩, 13), (⟨"VoteRoll$Plan", "choose", "(I)V"⟩, 13), (⟨"VoteRoll$Plan", "isBetter", "(III)Z"⟩, 13), (⟨"VoteRollModel", "four", "(I)V"⟩, 104)]
theorem lw_r3 : ∀ q ∈ lw_privs_3, lw_okq q := List.forall_mem_cons.mpr ⟨lw_p32, List.forall_mem_cons.mpr ⟨lw_p33, List.forall_mem_cons.mpr ⟨lw_p34, List.forall_mem_cons.mpr ⟨lw_p35, List.forall_mem_cons.mpr ⟨lw_p36, List.forall_mem_cons.mpr ⟨lw_p37, List.forall_mem_cons.mpr ⟨lw_p38, List.forall_mem_cons.mpr ⟨lw_p39, List.forall_mem_cons.mpr ⟨lw_p40, List.forall_mem_cons.mpr ⟨lw_p41, List.forall_mem_cons.mpr ⟨lw_p42, List.forall_mem_cons.mpr ⟨lw_p43, List.forall_mem_cons.mpr ⟨lw_p44, List.forall_mem_cons.mpr ⟨lw_p45, List.forall_mem_cons.mpr ⟨lw_p46, List.forall_mem_cons.mpr ⟨lw_p47, fun _ h => absurd h List.not_mem_nil⟩⟩⟩⟩⟩⟩⟩⟩⟩⟩⟩⟩⟩⟩⟩⟩
theorem lw_p48 : lw_okq (⟨"VoteRollModel", "begin", "()V"⟩, 104) := ⟨⟨by decide +kernel, by decide +kernel⟩, List.mem_of_getElem? (i := 1292) (by decide +kernel), List.mem_of_getElem? (i := 1632) (by decide +kernel), List.mem_of_getElem? (i := 1633) (by decide +kernel)⟩
theorem lw_p49 : lw_okq (⟨"VoteRollModel", "next", "()V"⟩, 104) := ⟨⟨by decide +kernel, by decide +kernel⟩, List.mem_of_getElem? (i := 1292) (by decide +kernel), List.mem_of_getElem? (i := 1636) (by decide +kernel), List.mem_of_getElem? (i := 1637) (by decide +kernel)⟩
theorem lw_p50 : lw_okq (⟨"VoteRollModel", "readPair", "()V"⟩, 104) := ⟨⟨by decide +kernel, by decide +kernel⟩, List.mem_of_getElem? (i := 1292) (by decide +kernel), List.mem_of_getElem? (i := 1652) (by decide +kernel), List.mem_of_getElem? (i := 1653) (by decide +kernel)⟩
theorem lw_p51 : lw_okq (⟨"VoteRollModel", "must", "(Z)V"⟩, 104) := ⟨⟨by decide +kernel, by decide +kernel⟩, List.mem_of_getElem? (i := 1292) (by decide +kernel), List.mem_of_getElem? (i := 1656) (by decide +kernel), List.mem_of_getElem? (i := 1657) (by decide +kernel)⟩
theorem lw_p52 : lw_okq (⟨"VoteRollModel", "readSide", "(I)V"⟩, 104) := ⟨⟨by decide +kernel, by decide +kernel⟩, List.mem_of_getElem? (i := 1292) (by decide +kernel), List.mem_of_getElem? (i := 1660) (by decide +kernel), List.mem_of_getElem? (i := 1661) (by decide +kernel)⟩
theorem lw_p53 : lw_okq (⟨"VoteRollModel", "isSign", "(I)Z"⟩, 104) := ⟨⟨by decide +kernel, by decide +kernel⟩, List.mem_of_getElem? (i := 1292) (by decide +kernel), List.mem_of_getElem? (i := 1668) (by decide +kernel), List.mem_of_getElem? (i := 1669) (by decide +kernel)⟩
theorem lw_p54 : lw_okq (⟨"VoteRollModel", "told", "(I)I"⟩, 104) := ⟨⟨by decide +kernel, by decide +kernel⟩, List.mem_of_getElem? (i := 1292) (by decide +kernel), List.mem_of_getElem? (i := 1672) (by decide +kernel), List.mem_of_getElem? (i := 1673) (by decide +kernel)⟩
theorem lw_p55 : lw_okq (⟨"VoteRollModel", "readName", "(I)V"⟩, 104) := ⟨⟨by decide +kernel, by decide +kernel⟩, List.mem_of_getElem? (i := 1292) (by decide +kernel), List.mem_of_getElem? (i := 1687) (by decide +kernel), List.mem_of_getElem? (i := 1688) (by decide +kernel)⟩
theorem lw_p56 : lw_okq (⟨"VoteRollModel", "isRecord", "(I)Z"⟩, 104) := ⟨⟨by decide +kernel, by decide +kernel⟩, List.mem_of_getElem? (i := 1292) (by decide +kernel), List.mem_of_getElem? (i := 1695) (by decide +kernel), List.mem_of_getElem? (i := 1696) (by decide +kernel)⟩
theorem lw_p57 : lw_okq (⟨"VoteRollModel", "fold", "(II)V"⟩, 104) := ⟨⟨by decide +kernel, by decide +kernel⟩, List.mem_of_getElem? (i := 1292) (by decide +kernel), List.mem_of_getElem? (i := 1703) (by decide +kernel), List.mem_of_getElem? (i := 1704) (by decide +kernel)⟩
theorem lw_p58 : lw_okq (⟨"VoteRollModel", "stands", "(III)Z"⟩, 104) := ⟨⟨by decide +kernel, by decide +kernel⟩, List.mem_of_getElem? (i := 1292) (by decide +kernel), List.mem_of_getElem? (i := 1707) (by decide +kernel), List.mem_of_getElem? (i := 1708) (by decide +kernel)⟩
theorem lw_p59 : lw_okq (⟨"VoteRollModel", "findOdds", "(II)V"⟩, 104) := ⟨⟨by decide +kernel, by decide +kernel⟩, List.mem_of_getElem? (i := 1292) (by decide +kernel), List.mem_of_getElem? (i := 1727) (by decide +kernel), List.mem_of_getElem? (i := 1728) (by decide +kernel)⟩
theorem lw_p60 : lw_okq (⟨"VoteRollModel", "state", "(III)I"⟩, 104) := ⟨⟨by decide +kernel, by decide +kernel⟩, List.mem_of_getElem? (i := 1292) (by decide +kernel), List.mem_of_getElem? (i := 1731) (by decide +kernel), List.mem_of_getElem? (i := 1732) (by decide +kernel)⟩
theorem lw_p61 : lw_okq (⟨"VoteRollModel", "distance", "()I"⟩, 104) := ⟨⟨by decide +kernel, by decide +kernel⟩, List.mem_of_getElem? (i := 1292) (by decide +kernel), List.mem_of_getElem? (i := 1738) (by decide +kernel), List.mem_of_getElem? (i := 1739) (by decide +kernel)⟩
theorem lw_p62 : lw_okq (⟨"VoteRollModel", "find", "(I)V"⟩, 104) := ⟨⟨by decide +kernel, by decide +kernel⟩, List.mem_of_getElem? (i := 1292) (by decide +kernel), List.mem_of_getElem? (i := 1749) (by decide +kernel), List.mem_of_getElem? (i := 1750) (by decide +kernel)⟩
theorem lw_p63 : lw_okq (⟨"VoteRollModel", "putInOrder", "(I)V"⟩, 104) := ⟨⟨by decide +kernel, by decide +kernel⟩, List.mem_of_getElem? (i := 1292) (by decide +kernel), List.mem_of_getElem? (i := 1753) (by decide +kernel), List.mem_of_getElem? (i := 1754) (by decide +kernel)⟩
def lw_privs_4 : List (MethodName × Nat) := [(⟨"VoteRollModel", "begin", "()V"⟩, 104), (⟨"VoteRollModel", "next", "()V"⟩, 104), (⟨"VoteRollModel", "readPair", "()V"⟩, 104), (⟨"VoteRollModel", "must", "(Z)V"⟩, 104), (⟨"VoteRollModel", "readSide", "(I)V"⟩, 104), (⟨"VoteRollModel", "isSign", "(I)Z"⟩, 104), (⟨"VoteRollModel", "told", "(I)I"⟩, 104), (⟨"VoteRollModel", "readName", "(I)V"⟩, 104), (⟨"VoteRollModel", "isRecord", "(I)Z"⟩, 104), (⟨"VoteRollModel", "fold", "(II)V"⟩, 104), (⟨"VoteRollModel", "stands", "(III)Z"⟩, 104), (⟨"VoteRollModel", "findOdds", "(II)V"⟩, 104), (⟨"VoteRollModel", "state", "(III)I"⟩, 104), (⟨"VoteRollModel", "distance", "()I"⟩, 104), (⟨"VoteRollModel", "find", "(I)V"⟩, 104), (⟨"VoteRollModel", "putInOrder", "(I)V"⟩, 104)]
theorem lw_r4 : ∀ q ∈ lw_privs_4, lw_okq q := List.forall_mem_cons.mpr ⟨lw_p48, List.forall_mem_cons.mpr ⟨lw_p49, List.forall_mem_cons.mpr ⟨lw_p50, List.forall_mem_cons.mpr ⟨lw_p51, List.forall_mem_cons.mpr ⟨lw_p52, List.forall_mem_cons.mpr ⟨lw_p53, List.forall_mem_cons.mpr ⟨lw_p54, List.forall_mem_cons.mpr ⟨lw_p55, List.forall_mem_cons.mpr ⟨lw_p56, List.forall_mem_cons.mpr ⟨lw_p57, List.forall_mem_cons.mpr ⟨lw_p58, List.forall_mem_cons.mpr ⟨lw_p59, List.forall_mem_cons.mpr ⟨lw_p60, List.forall_mem_cons.mpr ⟨lw_p61, List.forall_mem_cons.mpr ⟨lw_p62, List.forall_mem_cons.mpr ⟨lw_p63, fun _ h => absurd h List.not_mem_nil⟩⟩⟩⟩⟩⟩⟩⟩⟩⟩⟩⟩⟩⟩⟩⟩
theorem lw_p64 : lw_okq (⟨"VoteRollModel", "addPair", "(II)V"⟩, 104) := ⟨⟨by decide +kernel, by decide +kernel⟩, List.mem_of_getElem? (i := 1292) (by decide +kernel), List.mem_of_getElem? (i := 1757) (by decide +kernel), List.mem_of_getElem? (i := 1758) (by decide +kernel)⟩
theorem lw_p65 : lw_okq (⟨"VoteRollModel", "isAhead", "(III)Z"⟩, 104) := ⟨⟨by decide +kernel, by decide +kernel⟩, List.mem_of_getElem? (i := 1292) (by decide +kernel), List.mem_of_getElem? (i := 1761) (by decide +kernel), List.mem_of_getElem? (i := 1762) (by decide +kernel)⟩
theorem lw_p66 : lw_okq (⟨"VoteRollModel", "join", "(II)V"⟩, 104) := ⟨⟨by decide +kernel, by decide +kernel⟩, List.mem_of_getElem? (i := 1292) (by decide +kernel), List.mem_of_getElem? (i := 1768) (by decide +kernel), List.mem_of_getElem? (i := 1769) (by decide +kernel)⟩
theorem lw_p67 : lw_okq (⟨"VoteRollModel", "born", "(I)I"⟩, 104) := ⟨⟨by decide +kernel, by decide +kernel⟩, List.mem_of_getElem? (i := 1292) (by decide +kernel), List.mem_of_getElem? (i := 1780) (by decide +kernel), List.mem_of_getElem? (i := 1781) (by decide +kernel)⟩
theorem lw_p68 : lw_okq (⟨"VoteRollModel", "homeRecord", "(II)I"⟩, 104) := ⟨⟨by decide +kernel, by decide +kernel⟩, List.mem_of_getElem? (i := 1292) (by decide +kernel), List.mem_of_getElem? (i := 1784) (by decide +kernel), List.mem_of_getElem? (i := 1785) (by decide +kernel)⟩
theorem lw_p69 : lw_okq (⟨"VoteRollModel", "home", "(II)I"⟩, 104) := ⟨⟨by decide +kernel, by decide +kernel⟩, List.mem_of_getElem? (i := 1292) (by decide +kernel), List.mem_of_getElem? (i := 1791) (by decide +kernel), List.mem_of_getElem? (i := 1792) (by decide +kernel)⟩
theorem lw_p70 : lw_okq (⟨"VoteRollModel", "abroadRecord", "(II)I"⟩, 104) := ⟨⟨by decide +kernel, by decide +kernel⟩, List.mem_of_getElem? (i := 1292) (by decide +kernel), List.mem_of_getElem? (i := 1795) (by decide +kernel), List.mem_of_getElem? (i := 1796) (by decide +kernel)⟩
theorem lw_p71 : lw_okq (⟨"VoteRollModel", "isDead", "(II)Z"⟩, 104) := ⟨⟨by decide +kernel, by decide +kernel⟩, List.mem_of_getElem? (i := 1292) (by decide +kernel), List.mem_of_getElem? (i := 1799) (by decide +kernel), List.mem_of_getElem? (i := 1800) (by decide +kernel)⟩
theorem lw_p72 : lw_okq (⟨"VoteRollModel", "heard", "(II)I"⟩, 104) := ⟨⟨by decide +kernel, by decide +kernel⟩, List.mem_of_getElem? (i := 1292) (by decide +kernel), List.mem_of_getElem? (i := 1803) (by decide +kernel), List.mem_of_getElem? (i := 1804) (by decide +kernel)⟩
theorem lw_p73 : lw_okq (⟨"VoteRollModel", "isAct", "(III)Z"⟩, 104) := ⟨⟨by decide +kernel, by decide +kernel⟩, List.mem_of_getElem? (i := 1292) (by decide +kernel), List.mem_of_getElem? (i := 1807) (by decide +kernel), List.mem_of_getElem? (i := 1808) (by decide +kernel)⟩
theorem lw_p74 : lw_okq (⟨"VoteRollModel", "wardOf", "(II)I"⟩, 104) := ⟨⟨by decide +kernel, by decide +kernel⟩, List.mem_of_getElem? (i := 1292) (by decide +kernel), List.mem_of_getElem? (i := 1811) (by decide +kernel), List.mem_of_getElem? (i := 1812) (by decide +kernel)⟩
theorem lw_p75 : lw_okq (⟨"VoteRollModel", "lastOf", "(III)I"⟩, 104) := ⟨⟨by decide +kernel, by decide +kernel⟩, List.mem_of_getElem? (i := 1292) (by decide +kernel), List.mem_of_getElem? (i := 1815) (by decide +kernel), List.mem_of_getElem? (i := 1816) (by decide +kernel)⟩
theorem lw_p76 : lw_okq (⟨"VoteRollModel", "readClause", "()V"⟩, 104) := ⟨⟨by decide +kernel, by decide +kernel⟩, List.mem_of_getElem? (i := 1292) (by decide +kernel), List.mem_of_getElem? (i := 1827) (by decide +kernel), List.mem_of_getElem? (i := 1828) (by decide +kernel)⟩
theorem lw_p77 : lw_okq (⟨"VoteRollModel", "clauseAt", "()I"⟩, 104) := ⟨⟨by decide +kernel, by decide +kernel⟩, List.mem_of_getElem? (i := 1292) (by decide +kernel), List.mem_of_getElem? (i := 1831) (by decide +kernel), List.mem_of_getElem? (i := 1832) (by decide +kernel)⟩
theorem lw_p78 : lw_okq (⟨"VoteRollModel", "isWord", "(IIIIII)Z"⟩, 104) := ⟨⟨by decide +kernel, by decide +kernel⟩, List.mem_of_getElem? (i := 1292) (by decide +kernel), List.mem_of_getElem? (i := 1835) (by decide +kernel), List.mem_of_getElem? (i := 1836) (by decide +kernel)⟩
theorem lw_p79 : lw_okq (⟨"VoteRollModel", "readCause", "()V"⟩, 104) := ⟨⟨by decide +kernel, by decide +kernel⟩, List.mem_of_getElem? (i := 1292) (by decide +kernel), List.mem_of_getElem? (i := 1839) (by decide +kernel), List.mem_of_getElem? (i := 1840) (by decide +kernel)⟩
def lw_privs_5 : List (MethodName × Nat) := [(⟨"VoteRollModel", "addPair", "(II)V"⟩, 104), (⟨"VoteRollModel", "isAhead", "(III)Z"⟩, 104), (⟨"VoteRollModel", "join", "(II)V"⟩, 104), (⟨"VoteRollModel", "born", "(I)I"⟩, 104), (⟨"VoteRollModel", "homeRecord", "(II)I"⟩, 104), (⟨"VoteRollModel", "home", "(II)I"⟩, 104), (⟨"VoteRollModel", "abroadRecord", "(II)I"⟩, 104), (⟨"VoteRollModel", "isDead", "(II)Z"⟩, 104), (⟨"VoteRollModel", "heard", "(II)I"⟩, 104), (⟨"VoteRollModel", "isAct", "(III)Z"⟩, 104), (⟨"VoteRollModel", "wardOf", "(II)I"⟩, 104), (⟨"VoteRollModel", "lastOf", "(III)I"⟩, 104), (⟨"VoteRollModel", "readClause", "()V"⟩, 104), (⟨"VoteRollModel", "clauseAt", "()I"⟩, 104), (⟨"VoteRollModel", "isWord", "(IIIIII)Z"⟩, 104), (⟨"VoteRollModel", "readCause", "()V"⟩, 104)]
theorem lw_r5 : ∀ q ∈ lw_privs_5, lw_okq q := List.forall_mem_cons.mpr ⟨lw_p64, List.forall_mem_cons.mpr ⟨lw_p65, List.forall_mem_cons.mpr ⟨lw_p66, List.forall_mem_cons.mpr ⟨lw_p67, List.forall_mem_cons.mpr ⟨lw_p68, List.forall_mem_cons.mpr ⟨lw_p69, List.forall_mem_cons.mpr ⟨lw_p70, List.forall_mem_cons.mpr ⟨lw_p71, List.forall_mem_cons.mpr ⟨lw_p72, List.forall_mem_cons.mpr ⟨lw_p73, List.forall_mem_cons.mpr ⟨lw_p74, List.forall_mem_cons.mpr ⟨lw_p75, List.forall_mem_cons.mpr ⟨lw_p76, List.forall_mem_cons.mpr ⟨lw_p77, List.forall_mem_cons.mpr ⟨lw_p78, List.forall_mem_cons.mpr ⟨lw_p79, fun _ h => absurd h List.not_mem_nil⟩⟩⟩⟩⟩⟩⟩⟩⟩⟩⟩⟩⟩⟩⟩⟩
theorem lw_p80 : lw_okq (⟨"VoteRollModel", "readFact", "()Z"⟩, 104) := ⟨⟨by decide +kernel, by decide +kernel⟩, List.mem_of_getElem? (i := 1292) (by decide +kernel), List.mem_of_getElem? (i := 1843) (by decide +kernel), List.mem_of_getElem? (i := 1844) (by decide +kernel)⟩
theorem lw_p81 : lw_okq (⟨"VoteRollModel", "leafAt", "()I"⟩, 104) := ⟨⟨by decide +kernel, by decide +kernel⟩, List.mem_of_getElem? (i := 1292) (by decide +kernel), List.mem_of_getElem? (i := 1847) (by decide +kernel), List.mem_of_getElem? (i := 1848) (by decide +kernel)⟩
theorem lw_p82 : lw_okq (⟨"VoteRollModel", "number", "(JJ)I"⟩, 104) := ⟨⟨by decide +kernel, by decide +kernel⟩, List.mem_of_getElem? (i := 1292) (by decide +kernel), List.mem_of_getElem? (i := 1851) (by decide +kernel), List.mem_of_getElem? (i := 1852) (by decide +kernel)⟩
theorem lw_p83 : lw_okq (⟨"VoteRollModel", "emit", "(II)V"⟩, 104) := ⟨⟨by decide +kernel, by decide +kernel⟩, List.mem_of_getElem? (i := 1292) (by decide +kernel), List.mem_of_getElem? (i := 1856) (by decide +kernel), List.mem_of_getElem? (i := 1857) (by decide +kernel)⟩
theorem lw_p84 : lw_okq (⟨"VoteRollModel", "settle", "(I)V"⟩, 104) := ⟨⟨by decide +kernel, by decide +kernel⟩, List.mem_of_getElem? (i := 1292) (by decide +kernel), List.mem_of_getElem? (i := 1863) (by decide +kernel), List.mem_of_getElem? (i := 1864) (by decide +kernel)⟩
theorem lw_p85 : lw_okq (⟨"VoteRollModel", "holds", "(II)Z"⟩, 104) := ⟨⟨by decide +kernel, by decide +kernel⟩, List.mem_of_getElem? (i := 1292) (by decide +kernel), List.mem_of_getElem? (i := 1872) (by decide +kernel), List.mem_of_getElem? (i := 1873) (by decide +kernel)⟩
theorem lw_p86 : lw_okq (⟨"VoteRollModel", "fact", "(IIII)Z"⟩, 104) := ⟨⟨by decide +kernel, by decide +kernel⟩, List.mem_of_getElem? (i := 1292) (by decide +kernel), List.mem_of_getElem? (i := 1876) (by decide +kernel), List.mem_of_getElem? (i := 1877) (by decide +kernel)⟩
theorem lw_p87 : lw_okq (⟨"VoteRollModel", "isDouble", "(II)Z"⟩, 104) := ⟨⟨by decide +kernel, by decide +kernel⟩, List.mem_of_getElem? (i := 1292) (by decide +kernel), List.mem_of_getElem? (i := 1880) (by decide +kernel), List.mem_of_getElem? (i := 1881) (by decide +kernel)⟩
theorem lw_p88 : lw_okq (⟨"VoteRollModel", "isYoung", "(II)Z"⟩, 104) := ⟨⟨by decide +kernel, by decide +kernel⟩, List.mem_of_getElem? (i := 1292) (by decide +kernel), List.mem_of_getElem? (i := 1884) (by decide +kernel), List.mem_of_getElem? (i := 1885) (by decide +kernel)⟩
theorem lw_p89 : lw_okq (⟨"VoteRollModel", "isAway", "(II)Z"⟩, 104) := ⟨⟨by decide +kernel, by decide +kernel⟩, List.mem_of_getElem? (i := 1292) (by decide +kernel), List.mem_of_getElem? (i := 1888) (by decide +kernel), List.mem_of_getElem? (i := 1889) (by decide +kernel)⟩
theorem lw_p90 : lw_okq (⟨"VoteRollModel", "canAsk", "(III)Z"⟩, 104) := ⟨⟨by decide +kernel, by decide +kernel⟩, List.mem_of_getElem? (i := 1292) (by decide +kernel), List.mem_of_getElem? (i := 1905) (by decide +kernel), List.mem_of_getElem? (i := 1906) (by decide +kernel)⟩
theorem lw_p91 : lw_okq (⟨"VoteRollModel", "goLine", "(III)V"⟩, 104) := ⟨⟨by decide +kernel, by decide +kernel⟩, List.mem_of_getElem? (i := 1292) (by decide +kernel), List.mem_of_getElem? (i := 1909) (by decide +kernel), List.mem_of_getElem? (i := 1910) (by decide +kernel)⟩
theorem lw_p92 : lw_okq (⟨"VoteRollModel", "free", "(II)V"⟩, 104) := ⟨⟨by decide +kernel, by decide +kernel⟩, List.mem_of_getElem? (i := 1292) (by decide +kernel), List.mem_of_getElem? (i := 1916) (by decide +kernel), List.mem_of_getElem? (i := 1917) (by decide +kernel)⟩
theorem lw_p93 : lw_okq (⟨"VoteRollModel", "lacksOn", "(II)I"⟩, 104) := ⟨⟨by decide +kernel, by decide +kernel⟩, List.mem_of_getElem? (i := 1292) (by decide +kernel), List.mem_of_getElem? (i := 1920) (by decide +kernel), List.mem_of_getElem? (i := 1921) (by decide +kernel)⟩
theorem lw_p94 : lw_okq (⟨"VoteRollModel", "isNotice", "(III)Z"⟩, 104) := ⟨⟨by decide +kernel, by decide +kernel⟩, List.mem_of_getElem? (i := 1292) (by decide +kernel), List.mem_of_getElem? (i := 1924) (by decide +kernel), List.mem_of_getElem? (i := 1925) (by decide +kernel)⟩
theorem lw_p95 : lw_okq (⟨"VoteRollModel", "isAnswered", "(II)Z"⟩, 104) := ⟨⟨by decide +kernel, by decide +kernel⟩, List.mem_of_getElem? (i := 1292) (by decide +kernel), List.mem_of_getElem? (i := 1928) (by decide +kernel), List.mem_of_getElem? (i := 1929) (by decide +kernel)⟩
def lw_privs_6 : List (MethodName × Nat) := [(⟨"VoteRollModel", "readFact", "()Z"⟩, 104), (⟨"VoteRollModel", "leafAt", "()I"⟩, 104), (⟨"VoteRollModel", "number", "(JJ)I"⟩, 104), (⟨"VoteRollModel", "emit", "(II)V"⟩, 104), (⟨"VoteRollModel", "settle", "(I)V"⟩, 104), (⟨"VoteRollModel", "holds", "(II)Z"⟩, 104), (⟨"VoteRollModel", "fact", "(IIII)Z"⟩, 104), (⟨"VoteRollModel", "isDouble", "(II)Z"⟩, 104), (⟨"VoteRollModel", "isYoung", "(II)Z"⟩, 104), (⟨"VoteRollModel", "isAway", "(II)Z"⟩, 104), (⟨"VoteRollModel", "canAsk", "(III)Z"⟩, 104), (⟨"VoteRollModel", "goLine", "(III)V"⟩, 104), (⟨"VoteRollModel", "free", "(II)V"⟩, 104), (⟨"VoteRollModel", "lacksOn", "(II)I"⟩, 104), (⟨"VoteRollModel", "isNotice", "(III)Z"⟩, 104), (⟨"VoteRollModel", "isAnswered", "(II)Z"⟩, 104)]
theorem lw_r6 : ∀ q ∈ lw_privs_6, lw_okq q := List.forall_mem_cons.mpr ⟨lw_p80, List.forall_mem_cons.mpr ⟨lw_p81, List.forall_mem_cons.mpr ⟨lw_p82, List.forall_mem_cons.mpr ⟨lw_p83, List.forall_mem_cons.mpr ⟨lw_p84, List.forall_mem_cons.mpr ⟨lw_p85, List.forall_mem_cons.mpr ⟨lw_p86, List.forall_mem_cons.mpr ⟨lw_p87, List.forall_mem_cons.mpr ⟨lw_p88, List.forall_mem_cons.mpr ⟨lw_p89, List.forall_mem_cons.mpr ⟨lw_p90, List.forall_mem_cons.mpr ⟨lw_p91, List.forall_mem_cons.mpr ⟨lw_p92, List.forall_mem_cons.mpr ⟨lw_p93, List.forall_mem_cons.mpr ⟨lw_p94, List.forall_mem_cons.mpr ⟨lw_p95, fun _ h => absurd h List.not_mem_nil⟩⟩⟩⟩⟩⟩⟩⟩⟩⟩⟩⟩⟩⟩⟩⟩
theorem lw_p96 : lw_okq (⟨"VoteRollModel", "event", "(III)V"⟩, 104) := ⟨⟨by decide +kernel, by decide +kernel⟩, List.mem_of_getElem? (i := 1292) (by decide +kernel), List.mem_of_getElem? (i := 1932) (by decide +kernel), List.mem_of_getElem? (i := 1933) (by decide +kernel)⟩
theorem lw_p97 : lw_okq (⟨"VoteRollModel", "ask", "(II)V"⟩, 104) := ⟨⟨by decide +kernel, by decide +kernel⟩, List.mem_of_getElem? (i := 1292) (by decide +kernel), List.mem_of_getElem? (i := 1936) (by decide +kernel), List.mem_of_getElem? (i := 1937) (by decide +kernel)⟩
theorem lw_p98 : lw_okq (⟨"VoteRollModel", "mayVote", "(II)Z"⟩, 104) := ⟨⟨by decide +kernel, by decide +kernel⟩, List.mem_of_getElem? (i := 1292) (by decide +kernel), List.mem_of_getElem? (i := 1952) (by decide +kernel), List.mem_of_getElem? (i := 1953) (by decide +kernel)⟩
theorem lw_p99 : lw_okq (⟨"VoteRollModel", "guessed", "(I)I"⟩, 104) := ⟨⟨by decide +kernel, by decide +kernel⟩, List.mem_of_getElem? (i := 1292) (by decide +kernel), List.mem_of_getElem? (i := 1974) (by decide +kernel), List.mem_of_getElem? (i := 1975) (by decide +kernel)⟩
theorem lw_p100 : lw_okq (⟨"VoteRollModel", "can", "(IIZ)Z"⟩, 104) := ⟨⟨by decide +kernel, by decide +kernel⟩, List.mem_of_getElem? (i := 1292) (by decide +kernel), List.mem_of_getElem? (i := 1978) (by decide +kernel), List.mem_of_getElem? (i := 1979) (by decide +kernel)⟩
theorem lw_p101 : lw_okq (⟨"VoteRollModel", "choose", "(II)J"⟩, 104) := ⟨⟨by decide +kernel, by decide +kernel⟩, List.mem_of_getElem? (i := 1292) (by decide +kernel), List.mem_of_getElem? (i := 1982) (by decide +kernel), List.mem_of_getElem? (i := 1983) (by decide +kernel)⟩
theorem lw_p102 : lw_okq (⟨"VoteRollModel", "caseAt", "(II)I"⟩, 104) := ⟨⟨by decide +kernel, by decide +kernel⟩, List.mem_of_getElem? (i := 1292) (by decide +kernel), List.mem_of_getElem? (i := 2012) (by decide +kernel), List.mem_of_getElem? (i := 2013) (by decide +kernel)⟩
theorem lw_p103 : lw_okq (⟨"VoteRollModel", "costOf", "(I)I"⟩, 104) := ⟨⟨by decide +kernel, by decide +kernel⟩, List.mem_of_getElem? (i := 1292) (by decide +kernel), List.mem_of_getElem? (i := 2024) (by decide +kernel), List.mem_of_getElem? (i := 2025) (by decide +kernel)⟩
theorem lw_p104 : lw_okq (⟨"VoteRollModel", "chanceOf", "(II)I"⟩, 104) := ⟨⟨by decide +kernel, by decide +kernel⟩, List.mem_of_getElem? (i := 1292) (by decide +kernel), List.mem_of_getElem? (i := 2028) (by decide +kernel), List.mem_of_getElem? (i := 2029) (by decide +kernel)⟩
theorem lw_p105 : lw_okq (⟨"VoteRollModel", "isBest", "(III)Z"⟩, 104) := ⟨⟨by decide +kernel, by decide +kernel⟩, List.mem_of_getElem? (i := 1292) (by decide +kernel), List.mem_of_getElem? (i := 2032) (by decide +kernel), List.mem_of_getElem? (i := 2033) (by decide +kernel)⟩
def lw_privs_7 : List (MethodName × Nat) := [(⟨"VoteRollModel", "event", "(III)V"⟩, 104), (⟨"VoteRollModel", "ask", "(II)V"⟩, 104), (⟨"VoteRollModel", "mayVote", "(II)Z"⟩, 104), (⟨"VoteRollModel", "guessed", "(I)I"⟩, 104), (⟨"VoteRollModel", "can", "(IIZ)Z"⟩, 104), (⟨"VoteRollModel", "choose", "(II)J"⟩, 104), (⟨"VoteRollModel", "caseAt", "(II)I"⟩, 104), (⟨"VoteRollModel", "costOf", "(I)I"⟩, 104), (⟨"VoteRollModel", "chanceOf", "(II)I"⟩, 104), (⟨"VoteRollModel", "isBest", "(III)Z"⟩, 104)]
theorem lw_r7 : ∀ q ∈ lw_privs_7, lw_okq q := List.forall_mem_cons.mpr ⟨lw_p96, List.forall_mem_cons.mpr ⟨lw_p97, List.forall_mem_cons.mpr ⟨lw_p98, List.forall_mem_cons.mpr ⟨lw_p99, List.forall_mem_cons.mpr ⟨lw_p100, List.forall_mem_cons.mpr ⟨lw_p101, List.forall_mem_cons.mpr ⟨lw_p102, List.forall_mem_cons.mpr ⟨lw_p103, List.forall_mem_cons.mpr ⟨lw_p104, List.forall_mem_cons.mpr ⟨lw_p105, fun _ h => absurd h List.not_mem_nil⟩⟩⟩⟩⟩⟩⟩⟩⟩⟩
def lw_privs : List (MethodName × Nat) := lw_privs_1 ++ (lw_privs_2 ++ (lw_privs_3 ++ (lw_privs_4 ++ (lw_privs_5 ++ (lw_privs_6 ++ (lw_privs_7))))))
def lw_tbl : List Cond := k2_sels lw_privs ++ tables_1
theorem lw_privs_ok : ∀ q ∈ lw_privs, lw_okq q := by
  show ∀ q ∈ lw_privs_1 ++ (lw_privs_2 ++ (lw_privs_3 ++ (lw_privs_4 ++ (lw_privs_5 ++ (lw_privs_6 ++ (lw_privs_7)))))), lw_okq q
  exact List.forall_mem_append.mpr ⟨lw_r1, List.forall_mem_append.mpr ⟨lw_r2, List.forall_mem_append.mpr ⟨lw_r3, List.forall_mem_append.mpr ⟨lw_r4, List.forall_mem_append.mpr ⟨lw_r5, List.forall_mem_append.mpr ⟨lw_r6, lw_r7⟩⟩⟩⟩⟩⟩

def RX0 : String := "VoteRoll$Acts"
def TX0 : u_T := fun k => match k with
  | 0 => ("VoteRoll$Acts", "record", "[I", true)
  | 1 => ("VoteRoll$Acts", "sort", "[I", true)
  | 2 => ("VoteRoll$Acts", "day", "[I", true)
  | 3 => ("VoteRoll$Acts", "known", "[I", true)
  | 4 => ("VoteRoll$Acts", "byDay", "[I", true)
  | 5 => ("VoteRoll$Acts", "votes", "[I", true)
  | 6 => ("VoteRoll$Acts", "size", "I", false)
  | _ => ("VoteRoll$Acts", "voteCount", "I", false)
def tyX0 : Nat → FieldType := fun k => match k with
  | 0 => .array .int
  | 1 => .array .int
  | 2 => .array .int
  | 3 => .array .int
  | 4 => .array .int
  | 5 => .array .int
  | 6 => .int
  | _ => .int
abbrev wsX00 : List Cond := u_ws RX0 TX0 8
theorem nmX0 : ∀ a, a < 8 → ∀ b, b < 8 → a ≠ b → (TX0 a).2.1 ≠ (TX0 b).2.1 := by decide +kernel
theorem tyX0_ok : ∀ k, k < 8 → parseFieldDescriptor (TX0 k).2.2.1 = some (tyX0 k) := by decide +kernel
abbrev cX0_init : ByteArray := prog_2_method_1_code
def yX0_init : MethodName := ⟨RX0, "<init>", "()V"⟩
abbrev cX0_add : ByteArray := prog_2_method_2_code
def yX0_add : MethodName := ⟨RX0, "add", "(IIII)V"⟩
abbrev cX0_hasVoteWithin : ByteArray := prog_2_method_3_code
def yX0_hasVoteWithin : MethodName := ⟨RX0, "hasVoteWithin", "(II)Z"⟩
def RX1 : String := "VoteRoll$Book"
def TX1 : u_T := fun k => match k with
  | 0 => ("VoteRoll$Book", "list", "[I", true)
  | 1 => ("VoteRoll$Book", "sort", "[I", true)
  | 2 => ("VoteRoll$Book", "birth", "[I", true)
  | 3 => ("VoteRoll$Book", "place", "[I", true)
  | 4 => ("VoteRoll$Book", "number", "[I", true)
  | 5 => ("VoteRoll$Book", "day", "[I", true)
  | 6 => ("VoteRoll$Book", "known", "[I", true)
  | 7 => ("VoteRoll$Book", "hidden", "[Z", true)
  | 8 => ("VoteRoll$Book", "byDay", "[I", true)
  | 9 => ("VoteRoll$Book", "toldNames", "[B", false)
  | 10 => ("VoteRoll$Book", "toldSize", "[I", true)
  | 11 => ("VoteRoll$Book", "foldedNames", "[B", false)
  | 12 => ("VoteRoll$Book", "foldedSize", "[I", true)
  | _ => ("VoteRoll$Book", "size", "I", false)
def tyX1 : Nat → FieldType := fun k => match k with
  | 0 => .array .int
  | 1 => .array .int
  | 2 => .array .int
  | 3 => .array .int
  | 4 => .array .int
  | 5 => .array .int
  | 6 => .array .int
  | 7 => .array .boolean
  | 8 => .array .int
  | 9 => .array .byte
  | 10 => .array .int
  | 11 => .array .byte
  | 12 => .array .int
  | _ => .int
abbrev wsX10 : List Cond := u_ws RX1 TX1 14
theorem nmX1 : ∀ a, a < 14 → ∀ b, b < 14 → a ≠ b → (TX1 a).2.1 ≠ (TX1 b).2.1 := by decide +kernel
theorem tyX1_ok : ∀ k, k < 14 → parseFieldDescriptor (TX1 k).2.2.1 = some (tyX1 k) := by decide +kernel
abbrev cX1_init : ByteArray := prog_3_method_1_code
def yX1_init : MethodName := ⟨RX1, "<init>", "()V"⟩
abbrev cX1_needsPlace : ByteArray := prog_3_method_2_code
def yX1_needsPlace : MethodName := ⟨RX1, "needsPlace", "(I)Z"⟩
abbrev cX1_tellsHome : ByteArray := prog_3_method_3_code
def yX1_tellsHome : MethodName := ⟨RX1, "tellsHome", "(I)Z"⟩
abbrev cX1_foldedPlace : ByteArray := prog_3_method_4_code
def yX1_foldedPlace : MethodName := ⟨RX1, "foldedPlace", "(II)I"⟩
abbrev cX1_holds : ByteArray := prog_3_method_5_code
def yX1_holds : MethodName := ⟨RX1, "holds", "(I)Z"⟩
abbrev cX1_makeRoomForNames : ByteArray := prog_3_method_6_code
def yX1_makeRoomForNames : MethodName := ⟨RX1, "makeRoomForNames", "()V"⟩
abbrev cX1_readNames : ByteArray := prog_3_method_7_code
def yX1_readNames : MethodName := ⟨RX1, "readNames", "(LVoteRoll$Tape;)I"⟩
abbrev cX1_readName : ByteArray := prog_3_method_8_code
def yX1_readName : MethodName := ⟨RX1, "readName", "(LVoteRoll$Tape;I)Z"⟩
abbrev cX1_foldNames : ByteArray := prog_3_method_9_code
def yX1_foldNames : MethodName := ⟨RX1, "foldNames", "(ILVoteRoll$Folds;)V"⟩
abbrev cX1_putInOrder : ByteArray := prog_3_method_10_code
def yX1_putInOrder : MethodName := ⟨RX1, "putInOrder", "()V"⟩
def RX2 : String := "VoteRoll$Draws"
def TX2 : u_T := fun k => match k with
  | 0 => ("VoteRoll$Draws", "doors", "[I", true)
  | 1 => ("VoteRoll$Draws", "drawn", "[I", true)
  | 2 => ("VoteRoll$Draws", "lacking", "[I", true)
  | 3 => ("VoteRoll$Draws", "firstWays", "[J", true)
  | 4 => ("VoteRoll$Draws", "otherWays", "[J", true)
  | 5 => ("VoteRoll$Draws", "luckUpper", "J", false)
  | _ => ("VoteRoll$Draws", "luckLower", "J", false)
def tyX2 : Nat → FieldType := fun k => match k with
  | 0 => .array .int
  | 1 => .array .int
  | 2 => .array .int
  | 3 => .array .long
  | 4 => .array .long
  | 5 => .long
  | _ => .long
abbrev wsX20 : List Cond := u_ws RX2 TX2 7
theorem nmX2 : ∀ a, a < 7 → ∀ b, b < 7 → a ≠ b → (TX2 a).2.1 ≠ (TX2 b).2.1 := by decide +kernel
theorem tyX2_ok : ∀ k, k < 7 → parseFieldDescriptor (TX2 k).2.2.1 = some (tyX2 k) := by decide +kernel
abbrev cX2_init : ByteArray := prog_4_method_1_code
def yX2_init : MethodName := ⟨RX2, "<init>", "()V"⟩
abbrev cX2_atLeast : ByteArray := prog_4_method_2_code
def yX2_atLeast : MethodName := ⟨RX2, "atLeast", "(I)I"⟩
abbrev cX2_atMost : ByteArray := prog_4_method_3_code
def yX2_atMost : MethodName := ⟨RX2, "atMost", "(I)I"⟩
abbrev cX2_isLikely : ByteArray := prog_4_method_4_code
def yX2_isLikely : MethodName := ⟨RX2, "isLikely", "(IIII)Z"⟩
abbrev cX2_waysOf : ByteArray := prog_4_method_5_code
def yX2_waysOf : MethodName := ⟨RX2, "waysOf", "(IIIII)J"⟩
abbrev cX2_fillRow : ByteArray := prog_4_method_6_code
def yX2_fillRow : MethodName := ⟨RX2, "fillRow", "([JI)V"⟩
abbrev cX2_guessed : ByteArray := prog_4_method_7_code
def yX2_guessed : MethodName := ⟨RX2, "guessed", "(I)I"⟩
abbrev cX2_guessedOfAll : ByteArray := prog_4_method_8_code
def yX2_guessedOfAll : MethodName := ⟨RX2, "guessedOfAll", "()I"⟩
abbrev cX2_tryHalf : ByteArray := prog_4_method_9_code
def yX2_tryHalf : MethodName := ⟨RX2, "tryHalf", "(IIII)V"⟩
def RX3 : String := "VoteRoll$Facts"
def TX3 : u_T := fun k => match k with
  | 0 => ("VoteRoll$Facts", "book", "LVoteRoll$Book;", true)
  | 1 => ("VoteRoll$Facts", "acts", "LVoteRoll$Acts;", true)
  | 2 => ("VoteRoll$Facts", "persons", "LVoteRoll$Persons;", true)
  | 3 => ("VoteRoll$Facts", "law", "LVoteRoll$Law;", true)
  | 4 => ("VoteRoll$Facts", "records", "[I", true)
  | 5 => ("VoteRoll$Facts", "size", "I", false)
  | 6 => ("VoteRoll$Facts", "deeds", "[I", true)
  | 7 => ("VoteRoll$Facts", "deedCount", "I", false)
  | 8 => ("VoteRoll$Facts", "born", "I", false)
  | 9 => ("VoteRoll$Facts", "day", "I", false)
  | 10 => ("VoteRoll$Facts", "home", "I", false)
  | 11 => ("VoteRoll$Facts", "homeRecord", "I", false)
  | 12 => ("VoteRoll$Facts", "abroadRecord", "I", false)
  | 13 => ("VoteRoll$Facts", "dead", "Z", false)
  | 14 => ("VoteRoll$Facts", "deathRecord", "I", false)
  | 15 => ("VoteRoll$Facts", "heard", "I", false)
  | 16 => ("VoteRoll$Facts", "askedRecord", "I", false)
  | _ => ("VoteRoll$Facts", "doubled", "Z", false)
def tyX3 : Nat → FieldType := fun k => match k with
  | 0 => .object "VoteRoll$Book"
  | 1 => .object "VoteRoll$Acts"
  | 2 => .object "VoteRoll$Persons"
  | 3 => .object "VoteRoll$Law"
  | 4 => .array .int
  | 5 => .int
  | 6 => .array .int
  | 7 => .int
  | 8 => .int
  | 9 => .int
  | 10 => .int
  | 11 => .int
  | 12 => .int
  | 13 => .boolean
  | 14 => .int
  | 15 => .int
  | 16 => .int
  | _ => .boolean
abbrev wsX30 : List Cond := u_ws RX3 TX3 18
theorem nmX3 : ∀ a, a < 18 → ∀ b, b < 18 → a ≠ b → (TX3 a).2.1 ≠ (TX3 b).2.1 := by decide +kernel
theorem tyX3_ok : ∀ k, k < 18 → parseFieldDescriptor (TX3 k).2.2.1 = some (tyX3 k) := by decide +kernel
abbrev cX3_init : ByteArray := prog_5_method_1_code
def yX3_init : MethodName := ⟨RX3, "<init>", "(LVoteRoll$Book;LVoteRoll$Acts;LVoteRoll$Persons;LVoteRoll$Law;)V"⟩
abbrev cX3_focus : ByteArray := prog_5_method_2_code
def yX3_focus : MethodName := ⟨RX3, "focus", "(II)V"⟩
abbrev cX3_mostlyBorn : ByteArray := prog_5_method_3_code
def yX3_mostlyBorn : MethodName := ⟨RX3, "mostlyBorn", "()I"⟩
abbrev cX3_lookOn : ByteArray := prog_5_method_4_code
def yX3_lookOn : MethodName := ⟨RX3, "lookOn", "(I)V"⟩
abbrev cX3_hearAnswers : ByteArray := prog_5_method_5_code
def yX3_hearAnswers : MethodName := ⟨RX3, "hearAnswers", "()V"⟩
abbrev cX3_homeOf : ByteArray := prog_5_method_6_code
def yX3_homeOf : MethodName := ⟨RX3, "homeOf", "(I)I"⟩
abbrev cX3_homeHidden : ByteArray := prog_5_method_7_code
def yX3_homeHidden : MethodName := ⟨RX3, "homeHidden", "()Z"⟩
abbrev cX3_abroadSince : ByteArray := prog_5_method_8_code
def yX3_abroadSince : MethodName := ⟨RX3, "abroadSince", "()I"⟩
abbrev cX3_askedWard : ByteArray := prog_5_method_9_code
def yX3_askedWard : MethodName := ⟨RX3, "askedWard", "()I"⟩
abbrev cX3_young : ByteArray := prog_5_method_10_code
def yX3_young : MethodName := ⟨RX3, "young", "()Z"⟩
abbrev cX3_away : ByteArray := prog_5_method_11_code
def yX3_away : MethodName := ⟨RX3, "away", "()Z"⟩
abbrev cX3_causeHolds : ByteArray := prog_5_method_12_code
def yX3_causeHolds : MethodName := ⟨RX3, "causeHolds", "()Z"⟩
abbrev cX3_holds : ByteArray := prog_5_method_13_code
def yX3_holds : MethodName := ⟨RX3, "holds", "(II)Z"⟩
def RX4 : String := "VoteRoll$Folds"
def TX4 : u_T := fun k => match k with
  | 0 => ("VoteRoll$Folds", "left", "[B", true)
  | 1 => ("VoteRoll$Folds", "right", "[B", true)
  | 2 => ("VoteRoll$Folds", "leftSize", "[I", true)
  | 3 => ("VoteRoll$Folds", "rightSize", "[I", true)
  | _ => ("VoteRoll$Folds", "pairs", "I", false)
def tyX4 : Nat → FieldType := fun k => match k with
  | 0 => .array .byte
  | 1 => .array .byte
  | 2 => .array .int
  | 3 => .array .int
  | _ => .int
abbrev wsX40 : List Cond := u_ws RX4 TX4 5
theorem nmX4 : ∀ a, a < 5 → ∀ b, b < 5 → a ≠ b → (TX4 a).2.1 ≠ (TX4 b).2.1 := by decide +kernel
theorem tyX4_ok : ∀ k, k < 5 → parseFieldDescriptor (TX4 k).2.2.1 = some (tyX4 k) := by decide +kernel
abbrev cX4_init : ByteArray := prog_6_method_1_code
def yX4_init : MethodName := ⟨RX4, "<init>", "()V"⟩
abbrev cX4_readFrom : ByteArray := prog_6_method_2_code
def yX4_readFrom : MethodName := ⟨RX4, "readFrom", "(LVoteRoll$Tape;)I"⟩
abbrev cX4_readPair : ByteArray := prog_6_method_3_code
def yX4_readPair : MethodName := ⟨RX4, "readPair", "(LVoteRoll$Tape;)Z"⟩
abbrev cX4_readRow : ByteArray := prog_6_method_4_code
def yX4_readRow : MethodName := ⟨RX4, "readRow", "(LVoteRoll$Tape;[B)I"⟩
abbrev cX4_copyOf : ByteArray := prog_6_method_5_code
def yX4_copyOf : MethodName := ⟨RX4, "copyOf", "(LVoteRoll$Folds;)V"⟩
abbrev cX4_foldInto : ByteArray := prog_6_method_6_code
def yX4_foldInto : MethodName := ⟨RX4, "foldInto", "([BII[BI)I"⟩
abbrev cX4_fitting : ByteArray := prog_6_method_7_code
def yX4_fitting : MethodName := ⟨RX4, "fitting", "([BII)I"⟩
def RX5 : String := "VoteRoll$Law"
def TX5 : u_T := fun k => match k with
  | 0 => ("VoteRoll$Law", "values", "[I", true)
  | 1 => ("VoteRoll$Law", "code", "[I", true)
  | 2 => ("VoteRoll$Law", "codeSize", "I", false)
  | 3 => ("VoteRoll$Law", "clauses", "I", false)
  | 4 => ("VoteRoll$Law", "causeFacts", "I", false)
  | _ => ("VoteRoll$Law", "allFacts", "I", false)
def tyX5 : Nat → FieldType := fun k => match k with
  | 0 => .array .int
  | 1 => .array .int
  | 2 => .int
  | 3 => .int
  | 4 => .int
  | _ => .int
abbrev wsX50 : List Cond := u_ws RX5 TX5 6
theorem nmX5 : ∀ a, a < 6 → ∀ b, b < 6 → a ≠ b → (TX5 a).2.1 ≠ (TX5 b).2.1 := by decide +kernel
theorem tyX5_ok : ∀ k, k < 6 → parseFieldDescriptor (TX5 k).2.2.1 = some (tyX5 k) := by decide +kernel
abbrev cX5_init : ByteArray := prog_7_method_1_code
def yX5_init : MethodName := ⟨RX5, "<init>", "()V"⟩
abbrev cX5_copyOf : ByteArray := prog_7_method_2_code
def yX5_copyOf : MethodName := ⟨RX5, "copyOf", "(LVoteRoll$Law;)V"⟩
abbrev cX5_readFrom : ByteArray := prog_7_method_3_code
def yX5_readFrom : MethodName := ⟨RX5, "readFrom", "(LVoteRoll$Tape;)I"⟩
abbrev cX5_readClause : ByteArray := prog_7_method_4_code
def yX5_readClause : MethodName := ⟨RX5, "readClause", "(LVoteRoll$Tape;)Z"⟩
abbrev cX5_clauseKind : ByteArray := prog_7_method_5_code
def yX5_clauseKind : MethodName := ⟨RX5, "clauseKind", "(LVoteRoll$Tape;)I"⟩
abbrev cX5_clauseWord : ByteArray := prog_7_method_6_code
def yX5_clauseWord : MethodName := ⟨RX5, "clauseWord", "(I)Ljava/lang/String;"⟩
abbrev cX5_readValue : ByteArray := prog_7_method_7_code
def yX5_readValue : MethodName := ⟨RX5, "readValue", "(LVoteRoll$Tape;I)Z"⟩
abbrev cX5_readCause : ByteArray := prog_7_method_8_code
def yX5_readCause : MethodName := ⟨RX5, "readCause", "(LVoteRoll$Tape;I)Z"⟩
abbrev cX5_readFact : ByteArray := prog_7_method_9_code
def yX5_readFact : MethodName := ⟨RX5, "readFact", "(LVoteRoll$Tape;I)Z"⟩
abbrev cX5_readWithin : ByteArray := prog_7_method_10_code
def yX5_readWithin : MethodName := ⟨RX5, "readWithin", "(LVoteRoll$Tape;I)Z"⟩
abbrev cX5_readPlain : ByteArray := prog_7_method_11_code
def yX5_readPlain : MethodName := ⟨RX5, "readPlain", "(LVoteRoll$Tape;)Z"⟩
abbrev cX5_factWord : ByteArray := prog_7_method_12_code
def yX5_factWord : MethodName := ⟨RX5, "factWord", "(I)Ljava/lang/String;"⟩
abbrev cX5_emit : ByteArray := prog_7_method_13_code
def yX5_emit : MethodName := ⟨RX5, "emit", "(II)V"⟩
def RX6 : String := "VoteRoll$Line"
def TX6 : u_T := fun k => match k with
  | 0 => ("VoteRoll$Line", "book", "LVoteRoll$Book;", true)
  | 1 => ("VoteRoll$Line", "acts", "LVoteRoll$Acts;", true)
  | 2 => ("VoteRoll$Line", "facts", "LVoteRoll$Facts;", true)
  | 3 => ("VoteRoll$Line", "law", "LVoteRoll$Law;", true)
  | 4 => ("VoteRoll$Line", "state", "I", false)
  | 5 => ("VoteRoll$Line", "sinceDay", "I", false)
  | _ => ("VoteRoll$Line", "lack", "I", false)
def tyX6 : Nat → FieldType := fun k => match k with
  | 0 => .object "VoteRoll$Book"
  | 1 => .object "VoteRoll$Acts"
  | 2 => .object "VoteRoll$Facts"
  | 3 => .object "VoteRoll$Law"
  | 4 => .int
  | 5 => .int
  | _ => .int
abbrev wsX60 : List Cond := u_ws RX6 TX6 7
theorem nmX6 : ∀ a, a < 7 → ∀ b, b < 7 → a ≠ b → (TX6 a).2.1 ≠ (TX6 b).2.1 := by decide +kernel
theorem tyX6_ok : ∀ k, k < 7 → parseFieldDescriptor (TX6 k).2.2.1 = some (tyX6 k) := by decide +kernel
abbrev cX6_init : ByteArray := prog_8_method_1_code
def yX6_init : MethodName := ⟨RX6, "<init>", "(LVoteRoll$Book;LVoteRoll$Acts;LVoteRoll$Facts;LVoteRoll$Law;)V"⟩
abbrev cX6_walk : ByteArray := prog_8_method_2_code
def yX6_walk : MethodName := ⟨RX6, "walk", "(II)V"⟩
abbrev cX6_nextAsking : ByteArray := prog_8_method_3_code
def yX6_nextAsking : MethodName := ⟨RX6, "nextAsking", "(I)I"⟩
abbrev cX6_nextDoing : ByteArray := prog_8_method_4_code
def yX6_nextDoing : MethodName := ⟨RX6, "nextDoing", "(I)I"⟩
abbrev cX6_become : ByteArray := prog_8_method_5_code
def yX6_become : MethodName := ⟨RX6, "become", "(II)V"⟩
abbrev cX6_ripen : ByteArray := prog_8_method_6_code
def yX6_ripen : MethodName := ⟨RX6, "ripen", "(I)V"⟩
abbrev cX6_ask : ByteArray := prog_8_method_7_code
def yX6_ask : MethodName := ⟨RX6, "ask", "(I)V"⟩
abbrev cX6_meet : ByteArray := prog_8_method_8_code
def yX6_meet : MethodName := ⟨RX6, "meet", "(II)V"⟩
abbrev cX6_lackOn : ByteArray := prog_8_method_9_code
def yX6_lackOn : MethodName := ⟨RX6, "lackOn", "(I)I"⟩
abbrev cX6_firstNotice : ByteArray := prog_8_method_10_code
def yX6_firstNotice : MethodName := ⟨RX6, "firstNotice", "(II)I"⟩
abbrev cX6_answered : ByteArray := prog_8_method_11_code
def yX6_answered : MethodName := ⟨RX6, "answered", "(II)Z"⟩
def RX7 : String := "VoteRoll$Odds"
def TX7 : u_T := fun k => match k with
  | 0 => ("VoteRoll$Odds", "book", "LVoteRoll$Book;", true)
  | 1 => ("VoteRoll$Odds", "sameAgree", "[I", true)
  | 2 => ("VoteRoll$Odds", "otherAgree", "[I", true)
  | 3 => ("VoteRoll$Odds", "slack", "I", false)
  | 4 => ("VoteRoll$Odds", "priorUpper", "I", false)
  | 5 => ("VoteRoll$Odds", "priorLower", "I", false)
  | 6 => ("VoteRoll$Odds", "boundUpper", "I", false)
  | 7 => ("VoteRoll$Odds", "boundLower", "I", false)
  | 8 => ("VoteRoll$Odds", "upper", "J", false)
  | 9 => ("VoteRoll$Odds", "lower", "J", false)
  | 10 => ("VoteRoll$Odds", "likened", "I", false)
  | 11 => ("VoteRoll$Odds", "likeness", "[S", false)
  | 12 => ("VoteRoll$Odds", "above", "[I", true)
  | _ => ("VoteRoll$Odds", "below", "[I", true)
def tyX7 : Nat → FieldType := fun k => match k with
  | 0 => .object "VoteRoll$Book"
  | 1 => .array .int
  | 2 => .array .int
  | 3 => .int
  | 4 => .int
  | 5 => .int
  | 6 => .int
  | 7 => .int
  | 8 => .long
  | 9 => .long
  | 10 => .int
  | 11 => .array .short
  | 12 => .array .int
  | _ => .array .int
abbrev wsX70 : List Cond := u_ws RX7 TX7 14
theorem nmX7 : ∀ a, a < 14 → ∀ b, b < 14 → a ≠ b → (TX7 a).2.1 ≠ (TX7 b).2.1 := by decide +kernel
theorem tyX7_ok : ∀ k, k < 14 → parseFieldDescriptor (TX7 k).2.2.1 = some (tyX7 k) := by decide +kernel
abbrev cX7_init : ByteArray := prog_9_method_1_code
def yX7_init : MethodName := ⟨RX7, "<init>", "(LVoteRoll$Book;)V"⟩
abbrev cX7_likenAll : ByteArray := prog_9_method_2_code
def yX7_likenAll : MethodName := ⟨RX7, "likenAll", "()V"⟩
abbrev cX7_sameness : ByteArray := prog_9_method_3_code
def yX7_sameness : MethodName := ⟨RX7, "sameness", "(II)I"⟩
abbrev cX7_nameLikeness : ByteArray := prog_9_method_4_code
def yX7_nameLikeness : MethodName := ⟨RX7, "nameLikeness", "(III)I"⟩
abbrev cX7_distance : ByteArray := prog_9_method_5_code
def yX7_distance : MethodName := ⟨RX7, "distance", "(IIII)I"⟩
abbrev cX7_kindOf : ByteArray := prog_9_method_6_code
def yX7_kindOf : MethodName := ⟨RX7, "kindOf", "(II)I"⟩
abbrev cX7_nameState : ByteArray := prog_9_method_7_code
def yX7_nameState : MethodName := ⟨RX7, "nameState", "(I)I"⟩
abbrev cX7_agreeing : ByteArray := prog_9_method_8_code
def yX7_agreeing : MethodName := ⟨RX7, "agreeing", "(I)I"⟩
abbrev cX7_weigh : ByteArray := prog_9_method_9_code
def yX7_weigh : MethodName := ⟨RX7, "weigh", "(I)V"⟩
abbrev cX7_reachBound : ByteArray := prog_9_method_10_code
def yX7_reachBound : MethodName := ⟨RX7, "reachBound", "()Z"⟩
def RX8 : String := "VoteRoll$Persons"
def TX8 : u_T := fun k => match k with
  | 0 => ("VoteRoll$Persons", "book", "LVoteRoll$Book;", true)
  | 1 => ("VoteRoll$Persons", "odds", "LVoteRoll$Odds;", true)
  | 2 => ("VoteRoll$Persons", "pairs", "[I", false)
  | 3 => ("VoteRoll$Persons", "kindRank", "[I", true)
  | 4 => ("VoteRoll$Persons", "ranked", "[I", true)
  | 5 => ("VoteRoll$Persons", "rankUpper", "[J", true)
  | 6 => ("VoteRoll$Persons", "rankLower", "[J", true)
  | 7 => ("VoteRoll$Persons", "rankStart", "[I", true)
  | 8 => ("VoteRoll$Persons", "rankedSize", "I", false)
  | 9 => ("VoteRoll$Persons", "pairCount", "I", false)
  | 10 => ("VoteRoll$Persons", "pairsStand", "Z", false)
  | 11 => ("VoteRoll$Persons", "dividedOn", "I", false)
  | 12 => ("VoteRoll$Persons", "masks", "[I", true)
  | 13 => ("VoteRoll$Persons", "once", "I", false)
  | 14 => ("VoteRoll$Persons", "named", "[I", true)
  | 15 => ("VoteRoll$Persons", "size", "I", false)
  | _ => ("VoteRoll$Persons", "quarrels", "I", false)
def tyX8 : Nat → FieldType := fun k => match k with
  | 0 => .object "VoteRoll$Book"
  | 1 => .object "VoteRoll$Odds"
  | 2 => .array .int
  | 3 => .array .int
  | 4 => .array .int
  | 5 => .array .long
  | 6 => .array .long
  | 7 => .array .int
  | 8 => .int
  | 9 => .int
  | 10 => .boolean
  | 11 => .int
  | 12 => .array .int
  | 13 => .int
  | 14 => .array .int
  | 15 => .int
  | _ => .int
abbrev wsX80 : List Cond := u_ws RX8 TX8 17
theorem nmX8 : ∀ a, a < 17 → ∀ b, b < 17 → a ≠ b → (TX8 a).2.1 ≠ (TX8 b).2.1 := by decide +kernel
theorem tyX8_ok : ∀ k, k < 17 → parseFieldDescriptor (TX8 k).2.2.1 = some (tyX8 k) := by decide +kernel
abbrev cX8_init : ByteArray := prog_10_method_1_code
def yX8_init : MethodName := ⟨RX8, "<init>", "(LVoteRoll$Book;LVoteRoll$Odds;)V"⟩
abbrev cX8_forget : ByteArray := prog_10_method_2_code
def yX8_forget : MethodName := ⟨RX8, "forget", "()V"⟩
abbrev cX8_divide : ByteArray := prog_10_method_3_code
def yX8_divide : MethodName := ⟨RX8, "divide", "(I)V"⟩
abbrev cX8_tryPair : ByteArray := prog_10_method_4_code
def yX8_tryPair : MethodName := ⟨RX8, "tryPair", "(II)V"⟩
abbrev cX8_sortPairs : ByteArray := prog_10_method_5_code
def yX8_sortPairs : MethodName := ⟨RX8, "sortPairs", "()V"⟩
abbrev cX8_rankKinds : ByteArray := prog_10_method_6_code
def yX8_rankKinds : MethodName := ⟨RX8, "rankKinds", "()V"⟩
abbrev cX8_insertKind : ByteArray := prog_10_method_7_code
def yX8_insertKind : MethodName := ⟨RX8, "insertKind", "(IJJ)V"⟩
abbrev cX8_isGreater : ByteArray := prog_10_method_8_code
def yX8_isGreater : MethodName := ⟨RX8, "isGreater", "(JJJJ)Z"⟩
def RX9 : String := "VoteRoll$Plan"
def TX9 : u_T := fun k => match k with
  | 0 => ("VoteRoll$Plan", "wished", "[I", true)
  | 1 => ("VoteRoll$Plan", "wishCase", "[I", true)
  | 2 => ("VoteRoll$Plan", "size", "I", false)
  | 3 => ("VoteRoll$Plan", "letterChance", "[I", true)
  | 4 => ("VoteRoll$Plan", "knockChance", "[I", true)
  | 5 => ("VoteRoll$Plan", "letterCost", "I", false)
  | 6 => ("VoteRoll$Plan", "knockCost", "I", false)
  | 7 => ("VoteRoll$Plan", "chosen", "[I", true)
  | 8 => ("VoteRoll$Plan", "plannedSize", "I", false)
  | 9 => ("VoteRoll$Plan", "bestChance", "I", false)
  | 10 => ("VoteRoll$Plan", "bestCost", "I", false)
  | 11 => ("VoteRoll$Plan", "chance", "[I", true)
  | _ => ("VoteRoll$Plan", "row", "[I", true)
def tyX9 : Nat → FieldType := fun k => match k with
  | 0 => .array .int
  | 1 => .array .int
  | 2 => .int
  | 3 => .array .int
  | 4 => .array .int
  | 5 => .int
  | 6 => .int
  | 7 => .array .int
  | 8 => .int
  | 9 => .int
  | 10 => .int
  | 11 => .array .int
  | _ => .array .int
abbrev wsX90 : List Cond := u_ws RX9 TX9 13
theorem nmX9 : ∀ a, a < 13 → ∀ b, b < 13 → a ≠ b → (TX9 a).2.1 ≠ (TX9 b).2.1 := by decide +kernel
theorem tyX9_ok : ∀ k, k < 13 → parseFieldDescriptor (TX9 k).2.2.1 = some (tyX9 k) := by decide +kernel
abbrev cX9_init : ByteArray := prog_11_method_1_code
def yX9_init : MethodName := ⟨RX9, "<init>", "()V"⟩
abbrev cX9_wishes : ByteArray := prog_11_method_2_code
def yX9_wishes : MethodName := ⟨RX9, "wishes", "(I)Z"⟩
abbrev cX9_spend : ByteArray := prog_11_method_3_code
def yX9_spend : MethodName := ⟨RX9, "spend", "(I)V"⟩
abbrev cX9_addWish : ByteArray := prog_11_method_4_code
def yX9_addWish : MethodName := ⟨RX9, "addWish", "(I)V"⟩
abbrev cX9_offer : ByteArray := prog_11_method_5_code
def yX9_offer : MethodName := ⟨RX9, "offer", "(IIII)V"⟩
abbrev cX9_choose : ByteArray := prog_11_method_6_code
def yX9_choose : MethodName := ⟨RX9, "choose", "(I)V"⟩
abbrev cX9_isBetter : ByteArray := prog_11_method_7_code
def yX9_isBetter : MethodName := ⟨RX9, "isBetter", "(III)Z"⟩
def RX10 : String := "VoteRoll$Tape"
def TX10 : u_T := fun k => match k with
  | 0 => ("VoteRoll$Tape", "bytes", "[I", true)
  | 1 => ("VoteRoll$Tape", "size", "I", false)
  | 2 => ("VoteRoll$Tape", "kind", "I", false)
  | 3 => ("VoteRoll$Tape", "from", "I", false)
  | _ => ("VoteRoll$Tape", "to", "I", false)
def tyX10 : Nat → FieldType := fun k => match k with
  | 0 => .array .int
  | 1 => .int
  | 2 => .int
  | 3 => .int
  | _ => .int
abbrev wsX100 : List Cond := u_ws RX10 TX10 5
theorem nmX10 : ∀ a, a < 5 → ∀ b, b < 5 → a ≠ b → (TX10 a).2.1 ≠ (TX10 b).2.1 := by decide +kernel
theorem tyX10_ok : ∀ k, k < 5 → parseFieldDescriptor (TX10 k).2.2.1 = some (tyX10 k) := by decide +kernel
abbrev cX10_init : ByteArray := prog_12_method_1_code
def yX10_init : MethodName := ⟨RX10, "<init>", "()V"⟩
abbrev cX10_put : ByteArray := prog_12_method_2_code
def yX10_put : MethodName := ⟨RX10, "put", "(I)V"⟩
abbrev cX10_rewind : ByteArray := prog_12_method_3_code
def yX10_rewind : MethodName := ⟨RX10, "rewind", "()V"⟩
abbrev cX10_step : ByteArray := prog_12_method_4_code
def yX10_step : MethodName := ⟨RX10, "step", "()V"⟩
abbrev cX10_kindAt : ByteArray := prog_12_method_5_code
def yX10_kindAt : MethodName := ⟨RX10, "kindAt", "(I)I"⟩
abbrev cX10_isWord : ByteArray := prog_12_method_6_code
def yX10_isWord : MethodName := ⟨RX10, "isWord", "(Ljava/lang/String;)Z"⟩
abbrev cX10_isSign : ByteArray := prog_12_method_7_code
def yX10_isSign : MethodName := ⟨RX10, "isSign", "(C)Z"⟩
abbrev cX10_isRow : ByteArray := prog_12_method_8_code
def yX10_isRow : MethodName := ⟨RX10, "isRow", "(I)Z"⟩
abbrev cX10_numberWithin : ByteArray := prog_12_method_9_code
def yX10_numberWithin : MethodName := ⟨RX10, "numberWithin", "(II)I"⟩
def RX11 : String := "VoteRoll"
def TX11 : u_T := fun k => match k with
  | 0 => ("VoteRoll", "tape", "LVoteRoll$Tape;", true)
  | 1 => ("VoteRoll", "liveFolds", "LVoteRoll$Folds;", true)
  | 2 => ("VoteRoll", "draftFolds", "LVoteRoll$Folds;", true)
  | 3 => ("VoteRoll", "liveLaw", "LVoteRoll$Law;", true)
  | 4 => ("VoteRoll", "draftLaw", "LVoteRoll$Law;", true)
  | 5 => ("VoteRoll", "book", "LVoteRoll$Book;", true)
  | 6 => ("VoteRoll", "acts", "LVoteRoll$Acts;", true)
  | 7 => ("VoteRoll", "chancesOfPairs", "LVoteRoll$Odds;", true)
  | 8 => ("VoteRoll", "persons", "LVoteRoll$Persons;", true)
  | 9 => ("VoteRoll", "facts", "LVoteRoll$Facts;", true)
  | 10 => ("VoteRoll", "lineOfPerson", "LVoteRoll$Line;", true)
  | 11 => ("VoteRoll", "draws", "LVoteRoll$Draws;", true)
  | 12 => ("VoteRoll", "planner", "LVoteRoll$Plan;", true)
  | 13 => ("VoteRoll", "faultPlace", "I", false)
  | _ => ("VoteRoll", "refusal", "I", false)
def tyX11 : Nat → FieldType := fun k => match k with
  | 0 => .object "VoteRoll$Tape"
  | 1 => .object "VoteRoll$Folds"
  | 2 => .object "VoteRoll$Folds"
  | 3 => .object "VoteRoll$Law"
  | 4 => .object "VoteRoll$Law"
  | 5 => .object "VoteRoll$Book"
  | 6 => .object "VoteRoll$Acts"
  | 7 => .object "VoteRoll$Odds"
  | 8 => .object "VoteRoll$Persons"
  | 9 => .object "VoteRoll$Facts"
  | 10 => .object "VoteRoll$Line"
  | 11 => .object "VoteRoll$Draws"
  | 12 => .object "VoteRoll$Plan"
  | 13 => .int
  | _ => .int
abbrev wsX110 : List Cond := u_ws RX11 TX11 15
theorem nmX11 : ∀ a, a < 15 → ∀ b, b < 15 → a ≠ b → (TX11 a).2.1 ≠ (TX11 b).2.1 := by decide +kernel
theorem tyX11_ok : ∀ k, k < 15 → parseFieldDescriptor (TX11 k).2.2.1 = some (tyX11 k) := by decide +kernel
abbrev cX11_init : ByteArray := prog_1_method_1_code
def yX11_init : MethodName := ⟨RX11, "<init>", "()V"⟩
abbrev cX11_feed : ByteArray := prog_1_method_2_code
def yX11_feed : MethodName := ⟨RX11, "feed", "(IIIII)I"⟩
abbrev cX11_end : ByteArray := prog_1_method_3_code
def yX11_end : MethodName := ⟨RX11, "end", "(I)I"⟩
abbrev cX11_folds : ByteArray := prog_1_method_4_code
def yX11_folds : MethodName := ⟨RX11, "folds", "()I"⟩
abbrev cX11_law : ByteArray := prog_1_method_5_code
def yX11_law : MethodName := ⟨RX11, "law", "()I"⟩
abbrev cX11_fault : ByteArray := prog_1_method_6_code
def yX11_fault : MethodName := ⟨RX11, "fault", "()I"⟩
abbrev cX11_record : ByteArray := prog_1_method_7_code
def yX11_record : MethodName := ⟨RX11, "record", "(IIIIIII)I"⟩
abbrev cX11_folded : ByteArray := prog_1_method_8_code
def yX11_folded : MethodName := ⟨RX11, "folded", "(III)I"⟩
abbrev cX11_field : ByteArray := prog_1_method_9_code
def yX11_field : MethodName := ⟨RX11, "field", "(III)I"⟩
abbrev cX11_terms : ByteArray := prog_1_method_10_code
def yX11_terms : MethodName := ⟨RX11, "terms", "(IIIIII)I"⟩
abbrev cX11_odds : ByteArray := prog_1_method_11_code
def yX11_odds : MethodName := ⟨RX11, "odds", "(III)J"⟩
abbrev cX11_person : ByteArray := prog_1_method_12_code
def yX11_person : MethodName := ⟨RX11, "person", "(II)I"⟩
abbrev cX11_joined : ByteArray := prog_1_method_13_code
def yX11_joined : MethodName := ⟨RX11, "joined", "(II)I"⟩
abbrev cX11_of : ByteArray := prog_1_method_14_code
def yX11_of : MethodName := ⟨RX11, "of", "(IIII)I"⟩
abbrev cX11_led : ByteArray := prog_1_method_15_code
def yX11_led : MethodName := ⟨RX11, "led", "(IIII)I"⟩
abbrev cX11_hide : ByteArray := prog_1_method_16_code
def yX11_hide : MethodName := ⟨RX11, "hide", "(I)I"⟩
abbrev cX11_act : ByteArray := prog_1_method_17_code
def yX11_act : MethodName := ⟨RX11, "act", "(IIII)I"⟩
abbrev cX11_vote : ByteArray := prog_1_method_18_code
def yX11_vote : MethodName := ⟨RX11, "vote", "(I)I"⟩
abbrev cX11_cause : ByteArray := prog_1_method_19_code
def yX11_cause : MethodName := ⟨RX11, "cause", "(III)I"⟩
abbrev cX11_line : ByteArray := prog_1_method_20_code
def yX11_line : MethodName := ⟨RX11, "line", "(III)I"⟩
abbrev cX11_since : ByteArray := prog_1_method_21_code
def yX11_since : MethodName := ⟨RX11, "since", "(III)I"⟩
abbrev cX11_lacks : ByteArray := prog_1_method_22_code
def yX11_lacks : MethodName := ⟨RX11, "lacks", "(II)I"⟩
abbrev cX11_may : ByteArray := prog_1_method_23_code
def yX11_may : MethodName := ⟨RX11, "may", "(III)I"⟩
abbrev cX11_ward : ByteArray := prog_1_method_24_code
def yX11_ward : MethodName := ⟨RX11, "ward", "(IIII)I"⟩
abbrev cX11_tried : ByteArray := prog_1_method_25_code
def yX11_tried : MethodName := ⟨RX11, "tried", "(III)I"⟩
abbrev cX11_doors : ByteArray := prog_1_method_26_code
def yX11_doors : MethodName := ⟨RX11, "doors", "(IIII)I"⟩
abbrev cX11_missing : ByteArray := prog_1_method_27_code
def yX11_missing : MethodName := ⟨RX11, "missing", "(II)I"⟩
abbrev cX11_luck : ByteArray := prog_1_method_28_code
def yX11_luck : MethodName := ⟨RX11, "luck", "(IIIII)J"⟩
abbrev cX11_chances : ByteArray := prog_1_method_29_code
def yX11_chances : MethodName := ⟨RX11, "chances", "(III)I"⟩
abbrev cX11_costs : ByteArray := prog_1_method_30_code
def yX11_costs : MethodName := ⟨RX11, "costs", "(II)I"⟩
abbrev cX11_wish : ByteArray := prog_1_method_31_code
def yX11_wish : MethodName := ⟨RX11, "wish", "(I)I"⟩
abbrev cX11_clear : ByteArray := prog_1_method_32_code
def yX11_clear : MethodName := ⟨RX11, "clear", "()I"⟩
abbrev cX11_caseOf : ByteArray := prog_1_method_33_code
def yX11_caseOf : MethodName := ⟨RX11, "caseOf", "(III)I"⟩
abbrev cX11_plan : ByteArray := prog_1_method_34_code
def yX11_plan : MethodName := ⟨RX11, "plan", "(III)I"⟩
abbrev cX11_planned : ByteArray := prog_1_method_35_code
def yX11_planned : MethodName := ⟨RX11, "planned", "(I)I"⟩
abbrev cX11_count : ByteArray := prog_1_method_36_code
def yX11_count : MethodName := ⟨RX11, "count", "(I)I"⟩
abbrev cX11_status : ByteArray := prog_1_method_37_code
def yX11_status : MethodName := ⟨RX11, "status", "()I"⟩
abbrev cX11_within : ByteArray := prog_1_method_38_code
def yX11_within : MethodName := ⟨RX11, "within", "(III)Z"⟩
abbrev cX11_isDay : ByteArray := prog_1_method_39_code
def yX11_isDay : MethodName := ⟨RX11, "isDay", "(I)Z"⟩
abbrev cX11_commonDivisor : ByteArray := prog_1_method_40_code
def yX11_commonDivisor : MethodName := ⟨RX11, "commonDivisor", "(JJ)J"⟩
abbrev cX11_refuse : ByteArray := prog_1_method_41_code
def yX11_refuse : MethodName := ⟨RX11, "refuse", "(I)I"⟩
abbrev cX11_accept : ByteArray := prog_1_method_42_code
def yX11_accept : MethodName := ⟨RX11, "accept", "(I)I"⟩
abbrev cX11_lookAt : ByteArray := prog_1_method_43_code
def yX11_lookAt : MethodName := ⟨RX11, "lookAt", "(III)Z"⟩
abbrev cX11_walkAndLook : ByteArray := prog_1_method_44_code
def yX11_walkAndLook : MethodName := ⟨RX11, "walkAndLook", "(I)V"⟩
abbrev cX11_mayVote : ByteArray := prog_1_method_45_code
def yX11_mayVote : MethodName := ⟨RX11, "mayVote", "()Z"⟩
abbrev cX11_lineCounts : ByteArray := prog_1_method_46_code
def yX11_lineCounts : MethodName := ⟨RX11, "lineCounts", "(I)Z"⟩
abbrev cX11_lastTruth : ByteArray := prog_1_method_47_code
def yX11_lastTruth : MethodName := ⟨RX11, "lastTruth", "(II)I"⟩
abbrev cX11_presentCase : ByteArray := prog_1_method_48_code
def yX11_presentCase : MethodName := ⟨RX11, "presentCase", "(I)I"⟩
def RX12 : String := "VoteRollModel"
def TX12 : u_T := fun k => match k with
  | 0 => ("VoteRollModel", "thrown", "I", false)
  | 1 => ("VoteRollModel", "status", "I", false)
  | 2 => ("VoteRollModel", "tape", "[I", true)
  | 3 => ("VoteRollModel", "taped", "I", false)
  | 4 => ("VoteRollModel", "from", "I", false)
  | 5 => ("VoteRollModel", "to", "I", false)
  | 6 => ("VoteRollModel", "sort", "I", false)
  | 7 => ("VoteRollModel", "worth", "J", false)
  | 8 => ("VoteRollModel", "fault", "I", false)
  | 9 => ("VoteRollModel", "bad", "Z", false)
  | 10 => ("VoteRollModel", "folds", "I", false)
  | 11 => ("VoteRollModel", "foldMany", "[I", true)
  | 12 => ("VoteRollModel", "foldLetters", "[I", true)
  | 13 => ("VoteRollModel", "nFolds", "I", false)
  | 14 => ("VoteRollModel", "nMany", "[I", true)
  | 15 => ("VoteRollModel", "nLetters", "[I", true)
  | 16 => ("VoteRollModel", "records", "I", false)
  | 17 => ("VoteRollModel", "rList", "[I", true)
  | 18 => ("VoteRollModel", "rSort", "[I", true)
  | 19 => ("VoteRollModel", "rBirth", "[I", true)
  | 20 => ("VoteRollModel", "rPlace", "[I", true)
  | 21 => ("VoteRollModel", "rNumber", "[I", true)
  | 22 => ("VoteRollModel", "rDay", "[I", true)
  | 23 => ("VoteRollModel", "rKnown", "[I", true)
  | 24 => ("VoteRollModel", "rHidden", "[Z", true)
  | 25 => ("VoteRollModel", "nameMany", "[I", true)
  | 26 => ("VoteRollModel", "nameLetters", "[I", true)
  | 27 => ("VoteRollModel", "folded", "[I", true)
  | 28 => ("VoteRollModel", "foldedMany", "[I", true)
  | 29 => ("VoteRollModel", "far", "[I", true)
  | 30 => ("VoteRollModel", "ms", "[I", true)
  | 31 => ("VoteRollModel", "us", "[I", true)
  | 32 => ("VoteRollModel", "slack", "I", false)
  | 33 => ("VoteRollModel", "priorA", "I", false)
  | 34 => ("VoteRollModel", "priorB", "I", false)
  | 35 => ("VoteRollModel", "boundX", "I", false)
  | 36 => ("VoteRollModel", "boundY", "I", false)
  | 37 => ("VoteRollModel", "once", "I", false)
  | 38 => ("VoteRollModel", "upper", "J", false)
  | 39 => ("VoteRollModel", "lower", "J", false)
  | 40 => ("VoteRollModel", "agreeing", "I", false)
  | 41 => ("VoteRollModel", "known", "I", false)
  | 42 => ("VoteRollModel", "group", "[I", true)
  | 43 => ("VoteRollModel", "lists", "[I", true)
  | 44 => ("VoteRollModel", "quarrels", "I", false)
  | 45 => ("VoteRollModel", "pairMany", "I", false)
  | 46 => ("VoteRollModel", "pairA", "[I", true)
  | 47 => ("VoteRollModel", "pairB", "[I", true)
  | 48 => ("VoteRollModel", "pairUpper", "[J", true)
  | 49 => ("VoteRollModel", "pairLower", "[J", true)
  | 50 => ("VoteRollModel", "order", "[I", true)
  | 51 => ("VoteRollModel", "orderMany", "I", false)
  | 52 => ("VoteRollModel", "clauses", "I", false)
  | 53 => ("VoteRollModel", "ageLaw", "I", false)
  | 54 => ("VoteRollModel", "proof", "I", false)
  | 55 => ("VoteRollModel", "noticeMany", "I", false)
  | 56 => ("VoteRollModel", "noticeDays", "I", false)
  | 57 => ("VoteRollModel", "quiet", "I", false)
  | 58 => ("VoteRollModel", "appeal", "I", false)
  | 59 => ("VoteRollModel", "noDoor", "I", false)
  | 60 => ("VoteRollModel", "abroadLaw", "I", false)
  | 61 => ("VoteRollModel", "causeMany", "I", false)
  | 62 => ("VoteRollModel", "causeLeaves", "I", false)
  | 63 => ("VoteRollModel", "causeOp", "[I", true)
  | 64 => ("VoteRollModel", "causeArg", "[I", true)
  | 65 => ("VoteRollModel", "nClauses", "I", false)
  | 66 => ("VoteRollModel", "nLaw", "[I", true)
  | 67 => ("VoteRollModel", "nCause", "I", false)
  | 68 => ("VoteRollModel", "nLeaves", "I", false)
  | 69 => ("VoteRollModel", "allLeaves", "I", false)
  | 70 => ("VoteRollModel", "nOp", "[I", true)
  | 71 => ("VoteRollModel", "nArg", "[I", true)
  | 72 => ("VoteRollModel", "pile", "[I", true)
  | 73 => ("VoteRollModel", "piled", "I", false)
  | 74 => ("VoteRollModel", "opened", "I", false)
  | 75 => ("VoteRollModel", "rest", "[Z", true)
  | 76 => ("VoteRollModel", "acts", "I", false)
  | 77 => ("VoteRollModel", "aRecord", "[I", true)
  | 78 => ("VoteRollModel", "aSort", "[I", true)
  | 79 => ("VoteRollModel", "aDay", "[I", true)
  | 80 => ("VoteRollModel", "aKnown", "[I", true)
  | 81 => ("VoteRollModel", "votes", "I", false)
  | 82 => ("VoteRollModel", "vDay", "[I", true)
  | 83 => ("VoteRollModel", "line", "I", false)
  | 84 => ("VoteRollModel", "lineSince", "I", false)
  | 85 => ("VoteRollModel", "release", "I", false)
  | 86 => ("VoteRollModel", "struckOn", "I", false)
  | 87 => ("VoteRollModel", "lack", "I", false)
  | 88 => ("VoteRollModel", "dDoors", "[I", true)
  | 89 => ("VoteRollModel", "dDrawn", "[I", true)
  | 90 => ("VoteRollModel", "dMissing", "[I", true)
  | 91 => ("VoteRollModel", "ways", "[J", true)
  | 92 => ("VoteRollModel", "hasWays", "Z", false)
  | 93 => ("VoteRollModel", "chances", "[I", true)
  | 94 => ("VoteRollModel", "letterCost", "I", false)
  | 95 => ("VoteRollModel", "knockCost", "I", false)
  | 96 => ("VoteRollModel", "wishes", "I", false)
  | 97 => ("VoteRollModel", "wRecord", "[I", true)
  | 98 => ("VoteRollModel", "most", "[I", true)
  | 99 => ("VoteRollModel", "least", "[I", true)
  | 100 => ("VoteRollModel", "caseNow", "[I", true)
  | 101 => ("VoteRollModel", "doing", "[I", true)
  | 102 => ("VoteRollModel", "plannedMany", "I", false)
  | _ => ("VoteRollModel", "plannedCost", "I", false)
def tyX12 : Nat → FieldType := fun k => match k with
  | 0 => .int
  | 1 => .int
  | 2 => .array .int
  | 3 => .int
  | 4 => .int
  | 5 => .int
  | 6 => .int
  | 7 => .long
  | 8 => .int
  | 9 => .boolean
  | 10 => .int
  | 11 => .array .int
  | 12 => .array .int
  | 13 => .int
  | 14 => .array .int
  | 15 => .array .int
  | 16 => .int
  | 17 => .array .int
  | 18 => .array .int
  | 19 => .array .int
  | 20 => .array .int
  | 21 => .array .int
  | 22 => .array .int
  | 23 => .array .int
  | 24 => .array .boolean
  | 25 => .array .int
  | 26 => .array .int
  | 27 => .array .int
  | 28 => .array .int
  | 29 => .array .int
  | 30 => .array .int
  | 31 => .array .int
  | 32 => .int
  | 33 => .int
  | 34 => .int
  | 35 => .int
  | 36 => .int
  | 37 => .int
  | 38 => .long
  | 39 => .long
  | 40 => .int
  | 41 => .int
  | 42 => .array .int
  | 43 => .array .int
  | 44 => .int
  | 45 => .int
  | 46 => .array .int
  | 47 => .array .int
  | 48 => .array .long
  | 49 => .array .long
  | 50 => .array .int
  | 51 => .int
  | 52 => .int
  | 53 => .int
  | 54 => .int
  | 55 => .int
  | 56 => .int
  | 57 => .int
  | 58 => .int
  | 59 => .int
  | 60 => .int
  | 61 => .int
  | 62 => .int
  | 63 => .array .int
  | 64 => .array .int
  | 65 => .int
  | 66 => .array .int
  | 67 => .int
  | 68 => .int
  | 69 => .int
  | 70 => .array .int
  | 71 => .array .int
  | 72 => .array .int
  | 73 => .int
  | 74 => .int
  | 75 => .array .boolean
  | 76 => .int
  | 77 => .array .int
  | 78 => .array .int
  | 79 => .array .int
  | 80 => .array .int
  | 81 => .int
  | 82 => .array .int
  | 83 => .int
  | 84 => .int
  | 85 => .int
  | 86 => .int
  | 87 => .int
  | 88 => .array .int
  | 89 => .array .int
  | 90 => .array .int
  | 91 => .array .long
  | 92 => .boolean
  | 93 => .array .int
  | 94 => .int
  | 95 => .int
  | 96 => .int
  | 97 => .array .int
  | 98 => .array .int
  | 99 => .array .int
  | 100 => .array .int
  | 101 => .array .int
  | 102 => .int
  | _ => .int
abbrev wsX120 : List Cond := u_ws RX12 TX12 104
theorem nmX12 : ∀ a, a < 104 → ∀ b, b < 104 → a ≠ b → (TX12 a).2.1 ≠ (TX12 b).2.1 := by decide +kernel
theorem tyX12_ok : ∀ k, k < 104 → parseFieldDescriptor (TX12 k).2.2.1 = some (tyX12 k) := by decide +kernel
abbrev cX12_init : ByteArray := prog_14_method_1_code
def yX12_init : MethodName := ⟨RX12, "<init>", "()V"⟩
abbrev cX12_in : ByteArray := prog_14_method_3_code
def yX12_in : MethodName := ⟨RX12, "in", "(JJJ)Z"⟩
abbrev cX12_told : ByteArray := prog_14_method_4_code
def yX12_told : MethodName := ⟨RX12, "told", "(I)I"⟩
abbrev cX12_isDay : ByteArray := prog_14_method_5_code
def yX12_isDay : MethodName := ⟨RX12, "isDay", "(I)Z"⟩
abbrev cX12_four : ByteArray := prog_14_method_6_code
def yX12_four : MethodName := ⟨RX12, "four", "(I)V"⟩
abbrev cX12_feed : ByteArray := prog_14_method_7_code
def yX12_feed : MethodName := ⟨RX12, "feed", "(IIIII)I"⟩
abbrev cX12_end : ByteArray := prog_14_method_8_code
def yX12_end : MethodName := ⟨RX12, "end", "(I)I"⟩
abbrev cX12_isSmall : ByteArray := prog_14_method_9_code
def yX12_isSmall : MethodName := ⟨RX12, "isSmall", "(I)Z"⟩
abbrev cX12_isDigit : ByteArray := prog_14_method_10_code
def yX12_isDigit : MethodName := ⟨RX12, "isDigit", "(I)Z"⟩
abbrev cX12_begin : ByteArray := prog_14_method_11_code
def yX12_begin : MethodName := ⟨RX12, "begin", "()V"⟩
abbrev cX12_next : ByteArray := prog_14_method_12_code
def yX12_next : MethodName := ⟨RX12, "next", "()V"⟩
abbrev cX12_isWord : ByteArray := prog_14_method_13_code
def yX12_isWord : MethodName := ⟨RX12, "isWord", "(IIIIII)Z"⟩
abbrev cX12_isSign : ByteArray := prog_14_method_14_code
def yX12_isSign : MethodName := ⟨RX12, "isSign", "(I)Z"⟩
abbrev cX12_must : ByteArray := prog_14_method_15_code
def yX12_must : MethodName := ⟨RX12, "must", "(Z)V"⟩
abbrev cX12_number : ByteArray := prog_14_method_16_code
def yX12_number : MethodName := ⟨RX12, "number", "(JJ)I"⟩
abbrev cX12_fault : ByteArray := prog_14_method_17_code
def yX12_fault : MethodName := ⟨RX12, "fault", "()I"⟩
abbrev cX12_readSide : ByteArray := prog_14_method_18_code
def yX12_readSide : MethodName := ⟨RX12, "readSide", "(I)V"⟩
abbrev cX12_readPair : ByteArray := prog_14_method_19_code
def yX12_readPair : MethodName := ⟨RX12, "readPair", "()V"⟩
abbrev cX12_folds : ByteArray := prog_14_method_20_code
def yX12_folds : MethodName := ⟨RX12, "folds", "()I"⟩
abbrev cX12_isRecord : ByteArray := prog_14_method_21_code
def yX12_isRecord : MethodName := ⟨RX12, "isRecord", "(I)Z"⟩
abbrev cX12_readName : ByteArray := prog_14_method_22_code
def yX12_readName : MethodName := ⟨RX12, "readName", "(I)V"⟩
abbrev cX12_record : ByteArray := prog_14_method_23_code
def yX12_record : MethodName := ⟨RX12, "record", "(IIIIIII)I"⟩
abbrev cX12_hide : ByteArray := prog_14_method_24_code
def yX12_hide : MethodName := ⟨RX12, "hide", "(I)I"⟩
abbrev cX12_stands : ByteArray := prog_14_method_25_code
def yX12_stands : MethodName := ⟨RX12, "stands", "(III)Z"⟩
abbrev cX12_fold : ByteArray := prog_14_method_26_code
def yX12_fold : MethodName := ⟨RX12, "fold", "(II)V"⟩
abbrev cX12_folded : ByteArray := prog_14_method_27_code
def yX12_folded : MethodName := ⟨RX12, "folded", "(III)I"⟩
abbrev cX12_distance : ByteArray := prog_14_method_28_code
def yX12_distance : MethodName := ⟨RX12, "distance", "()I"⟩
abbrev cX12_field : ByteArray := prog_14_method_29_code
def yX12_field : MethodName := ⟨RX12, "field", "(III)I"⟩
abbrev cX12_terms : ByteArray := prog_14_method_30_code
def yX12_terms : MethodName := ⟨RX12, "terms", "(IIIIII)I"⟩
abbrev cX12_sameOf : ByteArray := prog_14_method_31_code
def yX12_sameOf : MethodName := ⟨RX12, "sameOf", "(II)I"⟩
abbrev cX12_state : ByteArray := prog_14_method_32_code
def yX12_state : MethodName := ⟨RX12, "state", "(III)I"⟩
abbrev cX12_common : ByteArray := prog_14_method_33_code
def yX12_common : MethodName := ⟨RX12, "common", "(JJ)J"⟩
abbrev cX12_findOdds : ByteArray := prog_14_method_34_code
def yX12_findOdds : MethodName := ⟨RX12, "findOdds", "(II)V"⟩
abbrev cX12_odds : ByteArray := prog_14_method_35_code
def yX12_odds : MethodName := ⟨RX12, "odds", "(III)J"⟩
abbrev cX12_compare : ByteArray := prog_14_method_36_code
def yX12_compare : MethodName := ⟨RX12, "compare", "(JJJJ)I"⟩
abbrev cX12_find : ByteArray := prog_14_method_37_code
def yX12_find : MethodName := ⟨RX12, "find", "(I)V"⟩
abbrev cX12_putInOrder : ByteArray := prog_14_method_38_code
def yX12_putInOrder : MethodName := ⟨RX12, "putInOrder", "(I)V"⟩
abbrev cX12_addPair : ByteArray := prog_14_method_39_code
def yX12_addPair : MethodName := ⟨RX12, "addPair", "(II)V"⟩
abbrev cX12_isAhead : ByteArray := prog_14_method_40_code
def yX12_isAhead : MethodName := ⟨RX12, "isAhead", "(III)Z"⟩
abbrev cX12_join : ByteArray := prog_14_method_41_code
def yX12_join : MethodName := ⟨RX12, "join", "(II)V"⟩
abbrev cX12_person : ByteArray := prog_14_method_42_code
def yX12_person : MethodName := ⟨RX12, "person", "(II)I"⟩
abbrev cX12_joined : ByteArray := prog_14_method_43_code
def yX12_joined : MethodName := ⟨RX12, "joined", "(II)I"⟩
abbrev cX12_isLife : ByteArray := prog_14_method_44_code
def yX12_isLife : MethodName := ⟨RX12, "isLife", "(I)Z"⟩
abbrev cX12_born : ByteArray := prog_14_method_45_code
def yX12_born : MethodName := ⟨RX12, "born", "(I)I"⟩
abbrev cX12_homeRecord : ByteArray := prog_14_method_46_code
def yX12_homeRecord : MethodName := ⟨RX12, "homeRecord", "(II)I"⟩
abbrev cX12_home : ByteArray := prog_14_method_47_code
def yX12_home : MethodName := ⟨RX12, "home", "(II)I"⟩
abbrev cX12_abroadRecord : ByteArray := prog_14_method_48_code
def yX12_abroadRecord : MethodName := ⟨RX12, "abroadRecord", "(II)I"⟩
abbrev cX12_lastOf : ByteArray := prog_14_method_49_code
def yX12_lastOf : MethodName := ⟨RX12, "lastOf", "(III)I"⟩
abbrev cX12_isDead : ByteArray := prog_14_method_50_code
def yX12_isDead : MethodName := ⟨RX12, "isDead", "(II)Z"⟩
abbrev cX12_heard : ByteArray := prog_14_method_51_code
def yX12_heard : MethodName := ⟨RX12, "heard", "(II)I"⟩
abbrev cX12_wardOf : ByteArray := prog_14_method_52_code
def yX12_wardOf : MethodName := ⟨RX12, "wardOf", "(II)I"⟩
abbrev cX12_of : ByteArray := prog_14_method_53_code
def yX12_of : MethodName := ⟨RX12, "of", "(IIII)I"⟩
abbrev cX12_led : ByteArray := prog_14_method_54_code
def yX12_led : MethodName := ⟨RX12, "led", "(IIII)I"⟩
abbrev cX12_emit : ByteArray := prog_14_method_55_code
def yX12_emit : MethodName := ⟨RX12, "emit", "(II)V"⟩
abbrev cX12_settle : ByteArray := prog_14_method_56_code
def yX12_settle : MethodName := ⟨RX12, "settle", "(I)V"⟩
abbrev cX12_binds : ByteArray := prog_14_method_57_code
def yX12_binds : MethodName := ⟨RX12, "binds", "(I)I"⟩
abbrev cX12_leafAt : ByteArray := prog_14_method_58_code
def yX12_leafAt : MethodName := ⟨RX12, "leafAt", "()I"⟩
abbrev cX12_readFact : ByteArray := prog_14_method_59_code
def yX12_readFact : MethodName := ⟨RX12, "readFact", "()Z"⟩
abbrev cX12_readCause : ByteArray := prog_14_method_60_code
def yX12_readCause : MethodName := ⟨RX12, "readCause", "()V"⟩
abbrev cX12_clauseAt : ByteArray := prog_14_method_61_code
def yX12_clauseAt : MethodName := ⟨RX12, "clauseAt", "()I"⟩
abbrev cX12_readClause : ByteArray := prog_14_method_62_code
def yX12_readClause : MethodName := ⟨RX12, "readClause", "()V"⟩
abbrev cX12_law : ByteArray := prog_14_method_63_code
def yX12_law : MethodName := ⟨RX12, "law", "()I"⟩
abbrev cX12_isYoung : ByteArray := prog_14_method_64_code
def yX12_isYoung : MethodName := ⟨RX12, "isYoung", "(II)Z"⟩
abbrev cX12_isAway : ByteArray := prog_14_method_65_code
def yX12_isAway : MethodName := ⟨RX12, "isAway", "(II)Z"⟩
abbrev cX12_isDouble : ByteArray := prog_14_method_66_code
def yX12_isDouble : MethodName := ⟨RX12, "isDouble", "(II)Z"⟩
abbrev cX12_fact : ByteArray := prog_14_method_67_code
def yX12_fact : MethodName := ⟨RX12, "fact", "(IIII)Z"⟩
abbrev cX12_holds : ByteArray := prog_14_method_68_code
def yX12_holds : MethodName := ⟨RX12, "holds", "(II)Z"⟩
abbrev cX12_cause : ByteArray := prog_14_method_69_code
def yX12_cause : MethodName := ⟨RX12, "cause", "(III)I"⟩
abbrev cX12_act : ByteArray := prog_14_method_70_code
def yX12_act : MethodName := ⟨RX12, "act", "(IIII)I"⟩
abbrev cX12_vote : ByteArray := prog_14_method_71_code
def yX12_vote : MethodName := ⟨RX12, "vote", "(I)I"⟩
abbrev cX12_isAct : ByteArray := prog_14_method_72_code
def yX12_isAct : MethodName := ⟨RX12, "isAct", "(III)Z"⟩
abbrev cX12_goLine : ByteArray := prog_14_method_73_code
def yX12_goLine : MethodName := ⟨RX12, "goLine", "(III)V"⟩
abbrev cX12_isBehind : ByteArray := prog_14_method_74_code
def yX12_isBehind : MethodName := ⟨RX12, "isBehind", "(IIII)Z"⟩
abbrev cX12_free : ByteArray := prog_14_method_75_code
def yX12_free : MethodName := ⟨RX12, "free", "(II)V"⟩
abbrev cX12_event : ByteArray := prog_14_method_76_code
def yX12_event : MethodName := ⟨RX12, "event", "(III)V"⟩
abbrev cX12_ask : ByteArray := prog_14_method_77_code
def yX12_ask : MethodName := ⟨RX12, "ask", "(II)V"⟩
abbrev cX12_lacksOn : ByteArray := prog_14_method_78_code
def yX12_lacksOn : MethodName := ⟨RX12, "lacksOn", "(II)I"⟩
abbrev cX12_isNotice : ByteArray := prog_14_method_79_code
def yX12_isNotice : MethodName := ⟨RX12, "isNotice", "(III)Z"⟩
abbrev cX12_isAnswered : ByteArray := prog_14_method_80_code
def yX12_isAnswered : MethodName := ⟨RX12, "isAnswered", "(II)Z"⟩
abbrev cX12_canAsk : ByteArray := prog_14_method_81_code
def yX12_canAsk : MethodName := ⟨RX12, "canAsk", "(III)Z"⟩
abbrev cX12_line : ByteArray := prog_14_method_82_code
def yX12_line : MethodName := ⟨RX12, "line", "(III)I"⟩
abbrev cX12_since : ByteArray := prog_14_method_83_code
def yX12_since : MethodName := ⟨RX12, "since", "(III)I"⟩
abbrev cX12_lacks : ByteArray := prog_14_method_84_code
def yX12_lacks : MethodName := ⟨RX12, "lacks", "(II)I"⟩
abbrev cX12_mayVote : ByteArray := prog_14_method_85_code
def yX12_mayVote : MethodName := ⟨RX12, "mayVote", "(II)Z"⟩
abbrev cX12_may : ByteArray := prog_14_method_86_code
def yX12_may : MethodName := ⟨RX12, "may", "(III)I"⟩
abbrev cX12_ward : ByteArray := prog_14_method_87_code
def yX12_ward : MethodName := ⟨RX12, "ward", "(IIII)I"⟩
abbrev cX12_tried : ByteArray := prog_14_method_88_code
def yX12_tried : MethodName := ⟨RX12, "tried", "(III)I"⟩
abbrev cX12_doors : ByteArray := prog_14_method_89_code
def yX12_doors : MethodName := ⟨RX12, "doors", "(IIII)I"⟩
abbrev cX12_choose : ByteArray := prog_14_method_90_code
def yX12_choose : MethodName := ⟨RX12, "choose", "(II)J"⟩
abbrev cX12_can : ByteArray := prog_14_method_91_code
def yX12_can : MethodName := ⟨RX12, "can", "(IIZ)Z"⟩
abbrev cX12_guessed : ByteArray := prog_14_method_92_code
def yX12_guessed : MethodName := ⟨RX12, "guessed", "(I)I"⟩
abbrev cX12_missing : ByteArray := prog_14_method_93_code
def yX12_missing : MethodName := ⟨RX12, "missing", "(II)I"⟩
abbrev cX12_luck : ByteArray := prog_14_method_94_code
def yX12_luck : MethodName := ⟨RX12, "luck", "(IIIII)J"⟩
abbrev cX12_chances : ByteArray := prog_14_method_95_code
def yX12_chances : MethodName := ⟨RX12, "chances", "(III)I"⟩
abbrev cX12_costs : ByteArray := prog_14_method_96_code
def yX12_costs : MethodName := ⟨RX12, "costs", "(II)I"⟩
abbrev cX12_wish : ByteArray := prog_14_method_97_code
def yX12_wish : MethodName := ⟨RX12, "wish", "(I)I"⟩
abbrev cX12_clear : ByteArray := prog_14_method_98_code
def yX12_clear : MethodName := ⟨RX12, "clear", "()I"⟩
abbrev cX12_caseAt : ByteArray := prog_14_method_99_code
def yX12_caseAt : MethodName := ⟨RX12, "caseAt", "(II)I"⟩
abbrev cX12_caseOf : ByteArray := prog_14_method_100_code
def yX12_caseOf : MethodName := ⟨RX12, "caseOf", "(III)I"⟩
abbrev cX12_costOf : ByteArray := prog_14_method_101_code
def yX12_costOf : MethodName := ⟨RX12, "costOf", "(I)I"⟩
abbrev cX12_chanceOf : ByteArray := prog_14_method_102_code
def yX12_chanceOf : MethodName := ⟨RX12, "chanceOf", "(II)I"⟩
abbrev cX12_at : ByteArray := prog_14_method_103_code
def yX12_at : MethodName := ⟨RX12, "at", "(II)I"⟩
abbrev cX12_plan : ByteArray := prog_14_method_104_code
def yX12_plan : MethodName := ⟨RX12, "plan", "(III)I"⟩
abbrev cX12_isBest : ByteArray := prog_14_method_105_code
def yX12_isBest : MethodName := ⟨RX12, "isBest", "(III)Z"⟩
abbrev cX12_planned : ByteArray := prog_14_method_106_code
def yX12_planned : MethodName := ⟨RX12, "planned", "(I)I"⟩
abbrev cX12_count : ByteArray := prog_14_method_107_code
def yX12_count : MethodName := ⟨RX12, "count", "(I)I"⟩
abbrev cX12_status : ByteArray := prog_14_method_108_code
def yX12_status : MethodName := ⟨RX12, "status", "()I"⟩
def RL : String := "VoteRollLaw"
abbrev cL_law : ByteArray := code
def yL_law : MethodName := ⟨RL, "law", "([I)Z"⟩
abbrev vwCl : List vw_C := [(RX0, TX0, 8), (RX1, TX1, 14), (RX2, TX2, 7), (RX3, TX3, 18), (RX4, TX4, 5), (RX5, TX5, 6), (RX6, TX6, 7), (RX7, TX7, 14), (RX8, TX8, 17), (RX9, TX9, 13), (RX10, TX10, 5), (RX11, TX11, 15), (RX12, TX12, 104)]
/-- words picked out of a list by their places -/
theorem pk_in_of {big ws : List Cond} (ps : List Nat) (hp : ws = ps.filterMap (fun i => big[i]?)) : ∀ w ∈ ws, w ∈ big := by
  intro w hw
  rw [hp] at hw
  obtain ⟨i, -, hi⟩ := List.mem_filterMap.mp hw
  exact List.mem_of_getElem? hi
/-- the words that a call hands on -/
def gl : List Cond := lw_tbl.filter goodWord
theorem gl_in {w : Cond} (h : w ∈ lw_tbl) (g : goodWord w = true) : w ∈ gl := List.mem_filter.mpr ⟨h, g⟩
theorem gl_at (i : Nat) {w : Cond} (h : lw_tbl[i]? = some w) (g : goodWord w = true) : w ∈ gl := gl_in (List.mem_of_getElem? h) g
theorem gl_sub {w : Cond} (h : w ∈ gl) : w ∈ lw_tbl := (List.mem_filter.mp h).1
theorem gl_ws {ws : List Cond} (ps : List Nat) (hp : ws = ps.filterMap (fun i => lw_tbl[i]?)) (g : ws.all goodWord = true) : ∀ w ∈ ws, w ∈ gl := fun w h => gl_in (pk_in_of ps hp w h) (List.all_eq_true.mp g w h)
set_option maxRecDepth 20000 in
theorem inX0 : ∀ w ∈ wsX00, w ∈ gl := gl_ws [343, 345, 347, 349, 351, 353, 355, 357] (by decide +kernel) (by decide +kernel)
set_option maxRecDepth 20000 in
theorem inX1 : ∀ w ∈ wsX10, w ∈ gl := gl_ws [284, 286, 288, 290, 292, 294, 296, 298, 300, 302, 304, 306, 308, 310] (by decide +kernel) (by decide +kernel)
set_option maxRecDepth 20000 in
theorem inX2 : ∀ w ∈ wsX20, w ∈ gl := gl_ws [611, 613, 615, 617, 619, 621, 623] (by decide +kernel) (by decide +kernel)
set_option maxRecDepth 20000 in
theorem inX3 : ∀ w ∈ wsX30, w ∈ gl := gl_ws [525, 527, 529, 531, 533, 535, 537, 539, 541, 543, 545, 547, 549, 551, 553, 555, 557, 559] (by decide +kernel) (by decide +kernel)
set_option maxRecDepth 20000 in
theorem inX4 : ∀ w ∈ wsX40, w ∈ gl := gl_ws [181, 183, 185, 187, 189] (by decide +kernel) (by decide +kernel)
set_option maxRecDepth 20000 in
theorem inX5 : ∀ w ∈ wsX50, w ∈ gl := gl_ws [220, 222, 224, 226, 228, 230] (by decide +kernel) (by decide +kernel)
set_option maxRecDepth 20000 in
theorem inX6 : ∀ w ∈ wsX60, w ∈ gl := gl_ws [578, 580, 582, 584, 586, 588, 590] (by decide +kernel) (by decide +kernel)
set_option maxRecDepth 20000 in
theorem inX7 : ∀ w ∈ wsX70, w ∈ gl := gl_ws [392, 394, 396, 398, 400, 402, 404, 406, 408, 410, 412, 414, 416, 418] (by decide +kernel) (by decide +kernel)
set_option maxRecDepth 20000 in
theorem inX8 : ∀ w ∈ wsX80, w ∈ gl := gl_ws [450, 452, 454, 456, 458, 460, 462, 464, 466, 468, 470, 472, 474, 476, 478, 480, 482] (by decide +kernel) (by decide +kernel)
set_option maxRecDepth 20000 in
theorem inX9 : ∀ w ∈ wsX90, w ∈ gl := gl_ws [656, 658, 660, 662, 664, 666, 668, 670, 672, 674, 676, 678, 680] (by decide +kernel) (by decide +kernel)
set_option maxRecDepth 20000 in
theorem inX10 : ∀ w ∈ wsX100, w ∈ gl := gl_ws [157, 159, 161, 163, 165] (by decide +kernel) (by decide +kernel)
set_option maxRecDepth 20000 in
theorem inX11 : ∀ w ∈ wsX110, w ∈ gl := gl_ws [698, 700, 702, 704, 706, 708, 710, 712, 714, 716, 718, 720, 722, 724, 726] (by decide +kernel) (by decide +kernel)
set_option maxRecDepth 20000 in
theorem inX12 : ∀ w ∈ wsX120, w ∈ gl := gl_ws [1508, 1510, 1512, 1514, 1516, 1518, 1520, 1522, 1524, 1526, 1528, 1530, 1532, 1534, 1536, 1538, 1540, 1542, 1544, 1546, 1548, 1550, 1552, 1554, 1556, 1558, 1560, 1562, 1564, 1566, 1568, 1570, 1572, 1574, 1576, 1578, 1580, 1582, 1584, 1586, 1588, 1590, 1592, 1594, 1596, 1598, 1600, 1602, 1604, 1606, 1608, 1610, 1612, 1614, 1616, 1618, 1620, 1622, 1624, 1626, 1628, 1630, 1632, 1634, 1636, 1638, 1640, 1642, 1644, 1646, 1648, 1650, 1652, 1654, 1656, 1658, 1660, 1662, 1664, 1666, 1668, 1670, 1672, 1674, 1676, 1678, 1680, 1682, 1684, 1686, 1688, 1690, 1692, 1694, 1696, 1698, 1700, 1702, 1704, 1706, 1708, 1710, 1712, 1714] (by decide +kernel) (by decide +kernel)
