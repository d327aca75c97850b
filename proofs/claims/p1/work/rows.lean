section
-- ===== PART A: goes FIRST, ahead of the names: the tables' words, and 'selects' of the private methods out of them =====
/-- a private method of a class that the tables say can be made, by its rows of tables_1 -/
def lw_okq (q : MethodName × Nat) : Prop := (q.1.cls ≠ "java/lang/invoke/MethodHandle" ∧ q.1.cls ≠ "java/lang/invoke/VarHandle") ∧ Cond.instantiable q.1.cls q.2 ∈ tables_1 ∧ Cond.privateMethod q.1 ∈ tables_1 ∧ Cond.instanceMethod q.1 ∈ tables_1
theorem lw_p0 : lw_okq (⟨"VoteRoll$Tape", "kindAt", "(I)I"⟩, 5) := ⟨⟨by decide +kernel, by decide +kernel⟩, List.mem_of_getElem? (i := 30) (by decide +kernel), List.mem_of_getElem? (i := 652) (by decide +kernel), List.mem_of_getElem? (i := 653) (by decide +kernel)⟩
theorem lw_p1 : lw_okq (⟨"VoteRoll$Folds", "readPair", "(LVoteRoll$Tape;)Z"⟩, 5) := ⟨⟨by decide +kernel, by decide +kernel⟩, List.mem_of_getElem? (i := 64) (by decide +kernel), List.mem_of_getElem? (i := 656) (by decide +kernel), List.mem_of_getElem? (i := 657) (by decide +kernel)⟩
theorem lw_p2 : lw_okq (⟨"VoteRoll$Folds", "readRow", "(LVoteRoll$Tape;[B)I"⟩, 5) := ⟨⟨by decide +kernel, by decide +kernel⟩, List.mem_of_getElem? (i := 64) (by decide +kernel), List.mem_of_getElem? (i := 664) (by decide +kernel), List.mem_of_getElem? (i := 665) (by decide +kernel)⟩
theorem lw_p3 : lw_okq (⟨"VoteRoll", "refuse", "(I)I"⟩, 15) := ⟨⟨by decide +kernel, by decide +kernel⟩, List.mem_of_getElem? (i := 22) (by decide +kernel), List.mem_of_getElem? (i := 673) (by decide +kernel), List.mem_of_getElem? (i := 674) (by decide +kernel)⟩
theorem lw_p4 : lw_okq (⟨"VoteRoll$Folds", "fitting", "([BII)I"⟩, 5) := ⟨⟨by decide +kernel, by decide +kernel⟩, List.mem_of_getElem? (i := 64) (by decide +kernel), List.mem_of_getElem? (i := 692) (by decide +kernel), List.mem_of_getElem? (i := 693) (by decide +kernel)⟩
theorem lw_p5 : lw_okq (⟨"VoteRoll", "accept", "(I)I"⟩, 15) := ⟨⟨by decide +kernel, by decide +kernel⟩, List.mem_of_getElem? (i := 22) (by decide +kernel), List.mem_of_getElem? (i := 700) (by decide +kernel), List.mem_of_getElem? (i := 701) (by decide +kernel)⟩
theorem lw_p6 : lw_okq (⟨"VoteRoll$Law", "readClause", "(LVoteRoll$Tape;)Z"⟩, 6) := ⟨⟨by decide +kernel, by decide +kernel⟩, List.mem_of_getElem? (i := 88) (by decide +kernel), List.mem_of_getElem? (i := 714) (by decide +kernel), List.mem_of_getElem? (i := 715) (by decide +kernel)⟩
theorem lw_p7 : lw_okq (⟨"VoteRoll$Law", "readCause", "(LVoteRoll$Tape;I)Z"⟩, 6) := ⟨⟨by decide +kernel, by decide +kernel⟩, List.mem_of_getElem? (i := 88) (by decide +kernel), List.mem_of_getElem? (i := 773) (by decide +kernel), List.mem_of_getElem? (i := 774) (by decide +kernel)⟩
theorem lw_p8 : lw_okq (⟨"VoteRoll$Law", "readFact", "(LVoteRoll$Tape;I)Z"⟩, 6) := ⟨⟨by decide +kernel, by decide +kernel⟩, List.mem_of_getElem? (i := 88) (by decide +kernel), List.mem_of_getElem? (i := 777) (by decide +kernel), List.mem_of_getElem? (i := 778) (by decide +kernel)⟩
theorem lw_p9 : lw_okq (⟨"VoteRoll$Law", "readWithin", "(LVoteRoll$Tape;I)Z"⟩, 6) := ⟨⟨by decide +kernel, by decide +kernel⟩, List.mem_of_getElem? (i := 88) (by decide +kernel), List.mem_of_getElem? (i := 783) (by decide +kernel), List.mem_of_getElem? (i := 784) (by decide +kernel)⟩
theorem lw_p10 : lw_okq (⟨"VoteRoll$Law", "readPlain", "(LVoteRoll$Tape;)Z"⟩, 6) := ⟨⟨by decide +kernel, by decide +kernel⟩, List.mem_of_getElem? (i := 88) (by decide +kernel), List.mem_of_getElem? (i := 787) (by decide +kernel), List.mem_of_getElem? (i := 788) (by decide +kernel)⟩
theorem lw_p11 : lw_okq (⟨"VoteRoll$Law", "emit", "(II)V"⟩, 6) := ⟨⟨by decide +kernel, by decide +kernel⟩, List.mem_of_getElem? (i := 88) (by decide +kernel), List.mem_of_getElem? (i := 814) (by decide +kernel), List.mem_of_getElem? (i := 815) (by decide +kernel)⟩
theorem lw_p12 : lw_okq (⟨"VoteRoll$Law", "readValue", "(LVoteRoll$Tape;I)Z"⟩, 6) := ⟨⟨by decide +kernel, by decide +kernel⟩, List.mem_of_getElem? (i := 88) (by decide +kernel), List.mem_of_getElem? (i := 833) (by decide +kernel), List.mem_of_getElem? (i := 834) (by decide +kernel)⟩
theorem lw_p13 : lw_okq (⟨"VoteRoll$Book", "makeRoomForNames", "()V"⟩, 14) := ⟨⟨by decide +kernel, by decide +kernel⟩, List.mem_of_getElem? (i := 128) (by decide +kernel), List.mem_of_getElem? (i := 866) (by decide +kernel), List.mem_of_getElem? (i := 867) (by decide +kernel)⟩
theorem lw_p14 : lw_okq (⟨"VoteRoll$Book", "readName", "(LVoteRoll$Tape;I)Z"⟩, 14) := ⟨⟨by decide +kernel, by decide +kernel⟩, List.mem_of_getElem? (i := 128) (by decide +kernel), List.mem_of_getElem? (i := 872) (by decide +kernel), List.mem_of_getElem? (i := 873) (by decide +kernel)⟩
theorem lw_p15 : lw_okq (⟨"VoteRoll$Odds", "nameLikeness", "(III)I"⟩, 14) := ⟨⟨by decide +kernel, by decide +kernel⟩, List.mem_of_getElem? (i := 255) (by decide +kernel), List.mem_of_getElem? (i := 913) (by decide +kernel), List.mem_of_getElem? (i := 914) (by decide +kernel)⟩
def lw_privs_1 : List (MethodName × Nat) := [(⟨"VoteRoll$Tape", "kindAt", "(I)I"⟩, 5), (⟨"VoteRoll$Folds", "readPair", "(LVoteRoll$Tape;)Z"⟩, 5), (⟨"VoteRoll$Folds", "readRow", "(LVoteRoll$Tape;[B)I"⟩, 5), (⟨"VoteRoll", "refuse", "(I)I"⟩, 15), (⟨"VoteRoll$Folds", "fitting", "([BII)I"⟩, 5), (⟨"VoteRoll", "accept", "(I)I"⟩, 15), (⟨"VoteRoll$Law", "readClause", "(LVoteRoll$Tape;)Z"⟩, 6), (⟨"VoteRoll$Law", "readCause", "(LVoteRoll$Tape;I)Z"⟩, 6), (⟨"VoteRoll$Law", "readFact", "(LVoteRoll$Tape;I)Z"⟩, 6), (⟨"VoteRoll$Law", "readWithin", "(LVoteRoll$Tape;I)Z"⟩, 6), (⟨"VoteRoll$Law", "readPlain", "(LVoteRoll$Tape;)Z"⟩, 6), (⟨"VoteRoll$Law", "emit", "(II)V"⟩, 6), (⟨"VoteRoll$Law", "readValue", "(LVoteRoll$Tape;I)Z"⟩, 6), (⟨"VoteRoll$Book", "makeRoomForNames", "()V"⟩, 14), (⟨"VoteRoll$Book", "readName", "(LVoteRoll$Tape;I)Z"⟩, 14), (⟨"VoteRoll$Odds", "nameLikeness", "(III)I"⟩, 14)]
theorem lw_r1 : ∀ q ∈ lw_privs_1, lw_okq q := List.forall_mem_cons.mpr ⟨lw_p0, List.forall_mem_cons.mpr ⟨lw_p1, List.forall_mem_cons.mpr ⟨lw_p2, List.forall_mem_cons.mpr ⟨lw_p3, List.forall_mem_cons.mpr ⟨lw_p4, List.forall_mem_cons.mpr ⟨lw_p5, List.forall_mem_cons.mpr ⟨lw_p6, List.forall_mem_cons.mpr ⟨lw_p7, List.forall_mem_cons.mpr ⟨lw_p8, List.forall_mem_cons.mpr ⟨lw_p9, List.forall_mem_cons.mpr ⟨lw_p10, List.forall_mem_cons.mpr ⟨lw_p11, List.forall_mem_cons.mpr ⟨lw_p12, List.forall_mem_cons.mpr ⟨lw_p13, List.forall_mem_cons.mpr ⟨lw_p14, List.forall_mem_cons.mpr ⟨lw_p15, fun _ h => absurd h List.not_mem_nil⟩⟩⟩⟩⟩⟩⟩⟩⟩⟩⟩⟩⟩⟩⟩⟩
theorem lw_p16 : lw_okq (⟨"VoteRoll$Odds", "distance", "(IIII)I"⟩, 14) := ⟨⟨by decide +kernel, by decide +kernel⟩, List.mem_of_getElem? (i := 255) (by decide +kernel), List.mem_of_getElem? (i := 921) (by decide +kernel), List.mem_of_getElem? (i := 922) (by decide +kernel)⟩
theorem lw_p17 : lw_okq (⟨"VoteRoll$Odds", "nameState", "(I)I"⟩, 14) := ⟨⟨by decide +kernel, by decide +kernel⟩, List.mem_of_getElem? (i := 255) (by decide +kernel), List.mem_of_getElem? (i := 937) (by decide +kernel), List.mem_of_getElem? (i := 938) (by decide +kernel)⟩
theorem lw_p18 : lw_okq (⟨"VoteRoll$Persons", "sortPairs", "()V"⟩, 17) := ⟨⟨by decide +kernel, by decide +kernel⟩, List.mem_of_getElem? (i := 317) (by decide +kernel), List.mem_of_getElem? (i := 962) (by decide +kernel), List.mem_of_getElem? (i := 963) (by decide +kernel)⟩
theorem lw_p19 : lw_okq (⟨"VoteRoll$Persons", "rankKinds", "()V"⟩, 17) := ⟨⟨by decide +kernel, by decide +kernel⟩, List.mem_of_getElem? (i := 317) (by decide +kernel), List.mem_of_getElem? (i := 967) (by decide +kernel), List.mem_of_getElem? (i := 968) (by decide +kernel)⟩
theorem lw_p20 : lw_okq (⟨"VoteRoll$Persons", "insertKind", "(IJJ)V"⟩, 17) := ⟨⟨by decide +kernel, by decide +kernel⟩, List.mem_of_getElem? (i := 317) (by decide +kernel), List.mem_of_getElem? (i := 977) (by decide +kernel), List.mem_of_getElem? (i := 978) (by decide +kernel)⟩
theorem lw_p21 : lw_okq (⟨"VoteRoll$Persons", "tryPair", "(II)V"⟩, 17) := ⟨⟨by decide +kernel, by decide +kernel⟩, List.mem_of_getElem? (i := 317) (by decide +kernel), List.mem_of_getElem? (i := 985) (by decide +kernel), List.mem_of_getElem? (i := 986) (by decide +kernel)⟩
theorem lw_p22 : lw_okq (⟨"VoteRoll", "lookAt", "(III)Z"⟩, 15) := ⟨⟨by decide +kernel, by decide +kernel⟩, List.mem_of_getElem? (i := 22) (by decide +kernel), List.mem_of_getElem? (i := 998) (by decide +kernel), List.mem_of_getElem? (i := 999) (by decide +kernel)⟩
theorem lw_p23 : lw_okq (⟨"VoteRoll$Facts", "mostlyBorn", "()I"⟩, 18) := ⟨⟨by decide +kernel, by decide +kernel⟩, List.mem_of_getElem? (i := 381) (by decide +kernel), List.mem_of_getElem? (i := 1006) (by decide +kernel), List.mem_of_getElem? (i := 1007) (by decide +kernel)⟩
theorem lw_p24 : lw_okq (⟨"VoteRoll$Facts", "homeOf", "(I)I"⟩, 18) := ⟨⟨by decide +kernel, by decide +kernel⟩, List.mem_of_getElem? (i := 381) (by decide +kernel), List.mem_of_getElem? (i := 1028) (by decide +kernel), List.mem_of_getElem? (i := 1029) (by decide +kernel)⟩
theorem lw_p25 : lw_okq (⟨"VoteRoll$Facts", "hearAnswers", "()V"⟩, 18) := ⟨⟨by decide +kernel, by decide +kernel⟩, List.mem_of_getElem? (i := 381) (by decide +kernel), List.mem_of_getElem? (i := 1032) (by decide +kernel), List.mem_of_getElem? (i := 1033) (by decide +kernel)⟩
theorem lw_p26 : lw_okq (⟨"VoteRoll$Facts", "holds", "(II)Z"⟩, 18) := ⟨⟨by decide +kernel, by decide +kernel⟩, List.mem_of_getElem? (i := 381) (by decide +kernel), List.mem_of_getElem? (i := 1079) (by decide +kernel), List.mem_of_getElem? (i := 1080) (by decide +kernel)⟩
theorem lw_p27 : lw_okq (⟨"VoteRoll$Line", "nextAsking", "(I)I"⟩, 7) := ⟨⟨by decide +kernel, by decide +kernel⟩, List.mem_of_getElem? (i := 457) (by decide +kernel), List.mem_of_getElem? (i := 1099) (by decide +kernel), List.mem_of_getElem? (i := 1100) (by decide +kernel)⟩
theorem lw_p28 : lw_okq (⟨"VoteRoll$Line", "nextDoing", "(I)I"⟩, 7) := ⟨⟨by decide +kernel, by decide +kernel⟩, List.mem_of_getElem? (i := 457) (by decide +kernel), List.mem_of_getElem? (i := 1103) (by decide +kernel), List.mem_of_getElem? (i := 1104) (by decide +kernel)⟩
theorem lw_p29 : lw_okq (⟨"VoteRoll$Line", "ripen", "(I)V"⟩, 7) := ⟨⟨by decide +kernel, by decide +kernel⟩, List.mem_of_getElem? (i := 457) (by decide +kernel), List.mem_of_getElem? (i := 1109) (by decide +kernel), List.mem_of_getElem? (i := 1110) (by decide +kernel)⟩
theorem lw_p30 : lw_okq (⟨"VoteRoll$Line", "become", "(II)V"⟩, 7) := ⟨⟨by decide +kernel, by decide +kernel⟩, List.mem_of_getElem? (i := 457) (by decide +kernel), List.mem_of_getElem? (i := 1114) (by decide +kernel), List.mem_of_getElem? (i := 1115) (by decide +kernel)⟩
theorem lw_p31 : lw_okq (⟨"VoteRoll$Line", "ask", "(I)V"⟩, 7) := ⟨⟨by decide +kernel, by decide +kernel⟩, List.mem_of_getElem? (i := 457) (by decide +kernel), List.mem_of_getElem? (i := 1118) (by decide +kernel), List.mem_of_getElem? (i := 1119) (by decide +kernel)⟩
def lw_privs_2 : List (MethodName × Nat) := [(⟨"VoteRoll$Odds", "distance", "(IIII)I"⟩, 14), (⟨"VoteRoll$Odds", "nameState", "(I)I"⟩, 14), (⟨"VoteRoll$Persons", "sortPairs", "()V"⟩, 17), (⟨"VoteRoll$Persons", "rankKinds", "()V"⟩, 17), (⟨"VoteRoll$Persons", "insertKind", "(IJJ)V"⟩, 17), (⟨"VoteRoll$Persons", "tryPair", "(II)V"⟩, 17), (⟨"VoteRoll", "lookAt", "(III)Z"⟩, 15), (⟨"VoteRoll$Facts", "mostlyBorn", "()I"⟩, 18), (⟨"VoteRoll$Facts", "homeOf", "(I)I"⟩, 18), (⟨"VoteRoll$Facts", "hearAnswers", "()V"⟩, 18), (⟨"VoteRoll$Facts", "holds", "(II)Z"⟩, 18), (⟨"VoteRoll$Line", "nextAsking", "(I)I"⟩, 7), (⟨"VoteRoll$Line", "nextDoing", "(I)I"⟩, 7), (⟨"VoteRoll$Line", "ripen", "(I)V"⟩, 7), (⟨"VoteRoll$Line", "become", "(II)V"⟩, 7), (⟨"VoteRoll$Line", "ask", "(I)V"⟩, 7)]
theorem lw_r2 : ∀ q ∈ lw_privs_2, lw_okq q := List.forall_mem_cons.mpr ⟨lw_p16, List.forall_mem_cons.mpr ⟨lw_p17, List.forall_mem_cons.mpr ⟨lw_p18, List.forall_mem_cons.mpr ⟨lw_p19, List.forall_mem_cons.mpr ⟨lw_p20, List.forall_mem_cons.mpr ⟨lw_p21, List.forall_mem_cons.mpr ⟨lw_p22, List.forall_mem_cons.mpr ⟨lw_p23, List.forall_mem_cons.mpr ⟨lw_p24, List.forall_mem_cons.mpr ⟨lw_p25, List.forall_mem_cons.mpr ⟨lw_p26, List.forall_mem_cons.mpr ⟨lw_p27, List.forall_mem_cons.mpr ⟨lw_p28, List.forall_mem_cons.mpr ⟨lw_p29, List.forall_mem_cons.mpr ⟨lw_p30, List.forall_mem_cons.mpr ⟨lw_p31, fun _ h => absurd h List.not_mem_nil⟩⟩⟩⟩⟩⟩⟩⟩⟩⟩⟩⟩⟩⟩⟩⟩
theorem lw_p32 : lw_okq (⟨"VoteRoll$Line", "lackOn", "(I)I"⟩, 7) := ⟨⟨by decide +kernel, by decide +kernel⟩, List.mem_of_getElem? (i := 457) (by decide +kernel), List.mem_of_getElem? (i := 1123) (by decide +kernel), List.mem_of_getElem? (i := 1124) (by decide +kernel)⟩
theorem lw_p33 : lw_okq (⟨"VoteRoll$Line", "firstNotice", "(II)I"⟩, 7) := ⟨⟨by decide +kernel, by decide +kernel⟩, List.mem_of_getElem? (i := 457) (by decide +kernel), List.mem_of_getElem? (i := 1128) (by decide +kernel), List.mem_of_getElem? (i := 1129) (by decide +kernel)⟩
theorem lw_p34 : lw_okq (⟨"VoteRoll$Line", "answered", "(II)Z"⟩, 7) := ⟨⟨by decide +kernel, by decide +kernel⟩, List.mem_of_getElem? (i := 457) (by decide +kernel), List.mem_of_getElem? (i := 1132) (by decide +kernel), List.mem_of_getElem? (i := 1133) (by decide +kernel)⟩
theorem lw_p35 : lw_okq (⟨"VoteRoll$Line", "meet", "(II)V"⟩, 7) := ⟨⟨by decide +kernel, by decide +kernel⟩, List.mem_of_getElem? (i := 457) (by decide +kernel), List.mem_of_getElem? (i := 1138) (by decide +kernel), List.mem_of_getElem? (i := 1139) (by decide +kernel)⟩
theorem lw_p36 : lw_okq (⟨"VoteRoll", "walkAndLook", "(I)V"⟩, 15) := ⟨⟨by decide +kernel, by decide +kernel⟩, List.mem_of_getElem? (i := 22) (by decide +kernel), List.mem_of_getElem? (i := 1154) (by decide +kernel), List.mem_of_getElem? (i := 1155) (by decide +kernel)⟩
theorem lw_p37 : lw_okq (⟨"VoteRoll", "mayVote", "()Z"⟩, 15) := ⟨⟨by decide +kernel, by decide +kernel⟩, List.mem_of_getElem? (i := 22) (by decide +kernel), List.mem_of_getElem? (i := 1158) (by decide +kernel), List.mem_of_getElem? (i := 1159) (by decide +kernel)⟩
theorem lw_p38 : lw_okq (⟨"VoteRoll", "lineCounts", "(I)Z"⟩, 15) := ⟨⟨by decide +kernel, by decide +kernel⟩, List.mem_of_getElem? (i := 22) (by decide +kernel), List.mem_of_getElem? (i := 1167) (by decide +kernel), List.mem_of_getElem? (i := 1168) (by decide +kernel)⟩
theorem lw_p39 : lw_okq (⟨"VoteRoll", "lastTruth", "(II)I"⟩, 15) := ⟨⟨by decide +kernel, by decide +kernel⟩, List.mem_of_getElem? (i := 22) (by decide +kernel), List.mem_of_getElem? (i := 1175) (by decide +kernel), List.mem_of_getElem? (i := 1176) (by decide +kernel)⟩
theorem lw_p40 : lw_okq (⟨"VoteRoll$Draws", "isLikely", "(IIII)Z"⟩, 7) := ⟨⟨by decide +kernel, by decide +kernel⟩, List.mem_of_getElem? (i := 488) (by decide +kernel), List.mem_of_getElem? (i := 1199) (by decide +kernel), List.mem_of_getElem? (i := 1200) (by decide +kernel)⟩
theorem lw_p41 : lw_okq (⟨"VoteRoll$Draws", "waysOf", "(IIIII)J"⟩, 7) := ⟨⟨by decide +kernel, by decide +kernel⟩, List.mem_of_getElem? (i := 488) (by decide +kernel), List.mem_of_getElem? (i := 1203) (by decide +kernel), List.mem_of_getElem? (i := 1204) (by decide +kernel)⟩
theorem lw_p42 : lw_okq (⟨"VoteRoll", "presentCase", "(I)I"⟩, 15) := ⟨⟨by decide +kernel, by decide +kernel⟩, List.mem_of_getElem? (i := 22) (by decide +kernel), List.mem_of_getElem? (i := 1252) (by decide +kernel), List.mem_of_getElem? (i := 1253) (by decide +kernel)⟩
theorem lw_p43 : lw_okq (⟨"VoteRoll$Plan", "addWish", "(I)V"⟩, 13) := ⟨⟨by decide +kernel, by decide +kernel⟩, List.mem_of_getElem? (i := 521) (by decide +kernel), List.mem_of_getElem? (i := 1264) (by decide +kernel), List.mem_of_getElem? (i := 1265) (by decide +kernel)⟩
theorem lw_p44 : lw_okq (⟨"VoteRoll$Plan", "offer", "(IIII)V"⟩, 13) := ⟨⟨by decide +kernel, by decide +kernel⟩, List.mem_of_getElem? (i := 521) (by decide +kernel), List.mem_of_getElem? (i := 1268) (by decide +kernel), List.mem_of_getElem? (i := 1269) (by decide +kernel)⟩
theorem lw_p45 : lw_okq (⟨"VoteRoll$Plan", "choose", "(I)V"⟩, 13) := ⟨⟨by decide +kernel, by decide +kernel⟩, List.mem_of_getElem? (i := 521) (by decide +kernel), List.mem_of_getElem? (i := 1272) (by decide +kernel), List.mem_of_getElem? (i := 1273) (by decide +kernel)⟩
theorem lw_p46 : lw_okq (⟨"VoteRoll$Plan", "isBetter", "(III)Z"⟩, 13) := ⟨⟨by decide +kernel, by decide +kernel⟩, List.mem_of_getElem? (i := 521) (by decide +kernel), List.mem_of_getElem? (i := 1276) (by decide +kernel), List.mem_of_getElem? (i := 1277) (by decide +kernel)⟩
theorem lw_p47 : lw_okq (⟨"VoteRollModel", "four", "(I)V"⟩, 104) := ⟨⟨by decide +kernel, by decide +kernel⟩, List.mem_of_getElem? (i := 1292) (by decide +kernel), List.mem_of_getElem? (i := 1616) (by decide +kernel), List.mem_of_getElem? (i := 1617) (by decide +kernel)⟩
def lw_privs_3 : List (MethodName × Nat) := [(⟨"VoteRoll$Line", "lackOn", "(I)I"⟩, 7), (⟨"VoteRoll$Line", "firstNotice", "(II)I"⟩, 7), (⟨"VoteRoll$Line", "answered", "(II)Z"⟩, 7), (⟨"VoteRoll$Line", "meet", "(II)V"⟩, 7), (⟨"VoteRoll", "walkAndLook", "(I)V"⟩, 15), (⟨"VoteRoll", "mayVote", "()Z"⟩, 15), (⟨"VoteRoll", "lineCounts", "(I)Z"⟩, 15), (⟨"VoteRoll", "lastTruth", "(II)I"⟩, 15), (⟨"VoteRoll$Draws", "isLikely", "(IIII)Z"⟩, 7), (⟨"VoteRoll$Draws", "waysOf", "(IIIII)J"⟩, 7), (⟨"VoteRoll", "presentCase", "(I)I"⟩, 15), (⟨"VoteRoll$Plan", "addWish", "(I)V"⟩, 13), (⟨"VoteRoll$Plan", "offer", "(IIII)V"⟩, 13), (⟨"VoteRoll$Plan", "choose", "(I)V"⟩, 13), (⟨"VoteRoll$Plan", "isBetter", "(III)Z"⟩, 13), (⟨"VoteRollModel", "four", "(I)V"⟩, 104)]
theorem lw_r3 : ∀ q ∈ lw_privs_3, lw_okq q := List.forall_mem_cons.mpr ⟨lw_p32, List.forall_mem_cons.mpr ⟨lw_p33, List.forall_mem_cons.mpr ⟨lw_p34, List.forall_mem_cons.mpr ⟨lw_p35, List.forall_mem_cons.mpr ⟨lw_p36, List.forall_mem_cons.mpr ⟨lw_p37, List.forall_mem_cons.mpr ⟨lw_p38, List.forall_mem_cons.mpr ⟨lw_p39, List.forall_mem_cons.mpr ⟨lw_p40, List.forall_mem_cons.mpr ⟨lw_p41, List.forall_mem_cons.mpr ⟨lw_p42, List.forall_mem_cons.mpr ⟨lw_p43, List.forall_mem_cons.mpr ⟨lw_p44, List.forall_mem_cons.mpr ⟨lw_p45, List.forall_mem_cons.mpr ⟨lw_p46, List.forall_mem_cons.mpr ⟨lw_p47, fun _ h => absurd h List.not_mem_nil⟩⟩⟩⟩⟩⟩⟩⟩⟩⟩⟩⟩⟩⟩⟩⟩
theorem lw_p48 : lw_okq (⟨"VoteRollModel", "begin", "()V"⟩, 104) := ⟨⟨by decide +kernel, by decide +kernel⟩, List.mem_of_getElem? (i := 1292) (by decide +kernel), List.mem_of_getElem? (i := 1632) (by decide +kernel), List.mem_of_getElem? (i := 1633) (by decide +kernel)⟩
theorem lw_p49 : lw_okq (⟨"VoteRollModel", "next", "()V"⟩, 104) := ⟨⟨by decide +kernel, by decide +kernel⟩, List.mem_of_getElem? (i := 1292) (by decide +kernel), List.mem_of_getElem? (i := 1636) (by decide +kernel), List.mem_of_getElem? (i := 1637) (by decide +kernel)⟩
theorem lw_p50 : lw_okq (⟨"VoteRollModel", "readPair", "()V"⟩, 104) := ⟨⟨by decide +kernel, by decide +kernel⟩, List.mem_of_getElem? (i := 1292) (by decide +kernel), List.mem_of_getElem? (i := 1652) (by decide +kernel), List.mem_of_getElem? (i := 1653) (by decide +kernel)⟩
theorem lw_p51 : lw_okq (⟨"VoteRollModel", "must", "(Z)V"⟩, 104) := ⟨⟨by decide +kernel, by decide +kernel⟩, List.mem_of_getElem? (i := 1292) (by decide +kernel), List.mem_of_getElem? (i := 1656) (by decide +kernel), List.mem_of_getElem? (i := 1657) (by decide +kernel)⟩
theorem lw_p52 : lw_okq (⟨"VoteRollModel", "readSide", "(I)V"⟩, 104) := ⟨⟨by decide +kernel, by decide +kernel⟩, List.mem_of_getElem? (i := 1292) (by decide +kernel), List.mem_of_getElem? (i := 1660) (by decide +kernel), List.mem_of_getElem? (i := 1661) (by decide +kernel)⟩
theorem lw_p53 : lw_okq (⟨"VoteRollModel", "isSign", "(I)Z"⟩, 104) := ⟨⟨by decide +kernel, by decide +kernel⟩, List.mem_of_getElem? (i := 1292) (by decide +kernel), List.mem_of_getElem? (i := 1668) (by decide +kernel), List.mem_of_getElem? (i := 1669) (by decide +kernel)⟩
theorem lw_p54 : lw_okq (⟨"VoteRollModel", "told", "(I)I"⟩, 104) := ⟨⟨by decide +kernel, by decide +kernel⟩, List.mem_of_getElem? (i := 1292) (by decide +kernel), List.mem_of_getElem? (i := 1672) (by decide +kernel), List.mem_of_getElem? (i := 1673) (by decide +kernel)⟩
theorem lw_p55 : lw_okq (⟨"VoteRollModel", "readName", "(I)V"⟩, 104) := ⟨⟨by decide +kernel, by decide +kernel⟩, List.mem_of_getElem? (i := 1292) (by decide +kernel), List.mem_of_getElem? (i := 1687) (by decide +kernel), List.mem_of_getElem? (i := 1688) (by decide +kernel)⟩
theorem lw_p56 : lw_okq (⟨"VoteRollModel", "isRecord", "(I)Z"⟩, 104) := ⟨⟨by decide +kernel, by decide +kernel⟩, List.mem_of_getElem? (i := 1292) (by decide +kernel), List.mem_of_getElem? (i := 1695) (by decide +kernel), List.mem_of_getElem? (i := 1696) (by decide +kernel)⟩
theorem lw_p57 : lw_okq (⟨"VoteRollModel", "fold", "(II)V"⟩, 104) := ⟨⟨by decide +kernel, by decide +kernel⟩, List.mem_of_getElem? (i := 1292) (by decide +kernel), List.mem_of_getElem? (i := 1703) (by decide +kernel), List.mem_of_getElem? (i := 1704) (by decide +kernel)⟩
theorem lw_p58 : lw_okq (⟨"VoteRollModel", "stands", "(III)Z"⟩, 104) := ⟨⟨by decide +kernel, by decide +kernel⟩, List.mem_of_getElem? (i := 1292) (by decide +kernel), List.mem_of_getElem? (i := 1707) (by decide +kernel), List.mem_of_getElem? (i := 1708) (by decide +kernel)⟩
theorem lw_p59 : lw_okq (⟨"VoteRollModel", "findOdds", "(II)V"⟩, 104) := ⟨⟨by decide +kernel, by decide +kernel⟩, List.mem_of_getElem? (i := 1292) (by decide +kernel), List.mem_of_getElem? (i := 1727) (by decide +kernel), List.mem_of_getElem? (i := 1728) (by decide +kernel)⟩
theorem lw_p60 : lw_okq (⟨"VoteRollModel", "state", "(III)I"⟩, 104) := ⟨⟨by decide +kernel, by decide +kernel⟩, List.mem_of_getElem? (i := 1292) (by decide +kernel), List.mem_of_getElem? (i := 1731) (by decide +kernel), List.mem_of_getElem? (i := 1732) (by decide +kernel)⟩
theorem lw_p61 : lw_okq (⟨"VoteRollModel", "distance", "()I"⟩, 104) := ⟨⟨by decide +kernel, by decide +kernel⟩, List.mem_of_getElem? (i := 1292) (by decide +kernel), List.mem_of_getElem? (i := 1738) (by decide +kernel), List.mem_of_getElem? (i := 1739) (by decide +kernel)⟩
theorem lw_p62 : lw_okq (⟨"VoteRollModel", "find", "(I)V"⟩, 104) := ⟨⟨by decide +kernel, by decide +kernel⟩, List.mem_of_getElem? (i := 1292) (by decide +kernel), List.mem_of_getElem? (i := 1749) (by decide +kernel), List.mem_of_getElem? (i := 1750) (by decide +kernel)⟩
theorem lw_p63 : lw_okq (⟨"VoteRollModel", "putInOrder", "(I)V"⟩, 104) := ⟨⟨by decide +kernel, by decide +kernel⟩, List.mem_of_getElem? (i := 1292) (by decide +kernel), List.mem_of_getElem? (i := 1753) (by decide +kernel), List.mem_of_getElem? (i := 1754) (by decide +kernel)⟩
def lw_privs_4 : List (MethodName × Nat) := [(⟨"VoteRollModel", "begin", "()V"⟩, 104), (⟨"VoteRollModel", "next", "()V"⟩, 104), (⟨"VoteRollModel", "readPair", "()V"⟩, 104), (⟨"VoteRollModel", "must", "(Z)V"⟩, 104), (⟨"VoteRollModel", "readSide", "(I)V"⟩, 104), (⟨"VoteRollModel", "isSign", "(I)Z"⟩, 104), (⟨"VoteRollModel", "told", "(I)I"⟩, 104), (⟨"VoteRollModel", "readName", "(I)V"⟩, 104), (⟨"VoteRollModel", "isRecord", "(I)Z"⟩, 104), (⟨"VoteRollModel", "fold", "(II)V"⟩, 104), (⟨"VoteRollModel", "stands", "(III)Z"⟩, 104), (⟨"VoteRollModel", "findOdds", "(II)V"⟩, 104), (⟨"VoteRollModel", "state", "(III)I"⟩, 104), (⟨"VoteRollModel", "distance", "()I"⟩, 104), (⟨"VoteRollModel", "find", "(I)V"⟩, 104), (⟨"VoteRollModel", "putInOrder", "(I)V"⟩, 104)]
theorem lw_r4 : ∀ q ∈ lw_privs_4, lw_okq q := List.forall_mem_cons.mpr ⟨lw_p48, List.forall_mem_cons.mpr ⟨lw_p49, List.forall_mem_cons.mpr ⟨lw_p50, List.forall_mem_cons.mpr ⟨lw_p51, List.forall_mem_cons.mpr ⟨lw_p52, List.forall_mem_cons.mpr ⟨lw_p53, List.forall_mem_cons.mpr ⟨lw_p54, List.forall_mem_cons.mpr ⟨lw_p55, List.forall_mem_cons.mpr ⟨lw_p56, List.forall_mem_cons.mpr ⟨lw_p57, List.forall_mem_cons.mpr ⟨lw_p58, List.forall_mem_cons.mpr ⟨lw_p59, List.forall_mem_cons.mpr ⟨lw_p60, List.forall_mem_cons.mpr ⟨lw_p61, List.forall_mem_cons.mpr ⟨lw_p62, List.forall_mem_cons.mpr ⟨lw_p63, fun _ h => absurd h List.not_mem_nil⟩⟩⟩⟩⟩⟩⟩⟩⟩⟩⟩⟩⟩⟩⟩⟩
theorem lw_p64 : lw_okq (⟨"VoteRollModel", "addPair", "(II)V"⟩, 104) := ⟨⟨by decide +kernel, by decide +kernel⟩, List.mem_of_getElem? (i := 1292) (by decide +kernel), List.mem_of_getElem? (i := 1757) (by decide +kernel), List.mem_of_getElem? (i := 1758) (by decide +kernel)⟩
theorem lw_p65 : lw_okq (⟨"VoteRollModel", "isAhead", "(III)Z"⟩, 104) := ⟨⟨by decide +kernel, by decide +kernel⟩, List.mem_of_getElem? (i := 1292) (by decide +kernel), List.mem_of_getElem? (i := 1761) (by decide +kernel), List.mem_of_getElem? (i := 1762) (by decide +kernel)⟩
theorem lw_p66 : lw_okq (⟨"VoteRollModel", "join", "(II)V"⟩, 104) := ⟨⟨by decide +kernel, by decide +kernel⟩, List.mem_of_getElem? (i := 1292) (by decide +kernel), List.mem_of_getElem? (i := 1768) (by decide +kernel), List.mem_of_getElem? (i := 1769) (by decide +kernel)⟩
theorem lw_p67 : lw_okq (⟨"VoteRollModel", "born", "(I)I"⟩, 104) := ⟨⟨by decide +kernel, by decide +kernel⟩, List.mem_of_getElem? (i := 1292) (by decide +kernel), List.mem_of_getElem? (i := 1780) (by decide +kernel), List.mem_of_getElem? (i := 1781) (by decide +kernel)⟩
theorem lw_p68 : lw_okq (⟨"VoteRollModel", "homeRecord", "(II)I"⟩, 104) := ⟨⟨by decide +kernel, by decide +kernel⟩, List.mem_of_getElem? (i := 1292) (by decide +kernel), List.mem_of_getElem? (i := 1784) (by decide +kernel), List.mem_of_getElem? (i := 1785) (by decide +kernel)⟩
theorem lw_p69 : lw_okq (⟨"VoteRollModel", "home", "(II)I"⟩, 104) := ⟨⟨by decide +kernel, by decide +kernel⟩, List.mem_of_getElem? (i := 1292) (by decide +kernel), List.mem_of_getElem? (i := 1791) (by decide +kernel), List.mem_of_getElem? (i := 1792) (by decide +kernel)⟩
theorem lw_p70 : lw_okq (⟨"VoteRollModel", "abroadRecord", "(II)I"⟩, 104) := ⟨⟨by decide +kernel, by decide +kernel⟩, List.mem_of_getElem? (i := 1292) (by decide +kernel), List.mem_of_getElem? (i := 1795) (by decide +kernel), List.mem_of_getElem? (i := 1796) (by decide +kernel)⟩
theorem lw_p71 : lw_okq (⟨"VoteRollModel", "isDead", "(II)Z"⟩, 104) := ⟨⟨by decide +kernel, by decide +kernel⟩, List.mem_of_getElem? (i := 1292) (by decide +kernel), List.mem_of_getElem? (i := 1799) (by decide +kernel), List.mem_of_getElem? (i := 1800) (by decide +kernel)⟩
theorem lw_p72 : lw_okq (⟨"VoteRollModel", "heard", "(II)I"⟩, 104) := ⟨⟨by decide +kernel, by decide +kernel⟩, List.mem_of_getElem? (i := 1292) (by decide +kernel), List.mem_of_getElem? (i := 1803) (by decide +kernel), List.mem_of_getElem? (i := 1804) (by decide +kernel)⟩
theorem lw_p73 : lw_okq (⟨"VoteRollModel", "isAct", "(III)Z"⟩, 104) := ⟨⟨by decide +kernel, by decide +kernel⟩, List.mem_of_getElem? (i := 1292) (by decide +kernel), List.mem_of_getElem? (i := 1807) (by decide +kernel), List.mem_of_getElem? (i := 1808) (by decide +kernel)⟩
theorem lw_p74 : lw_okq (⟨"VoteRollModel", "wardOf", "(II)I"⟩, 104) := ⟨⟨by decide +kernel, by decide +kernel⟩, List.mem_of_getElem? (i := 1292) (by decide +kernel), List.mem_of_getElem? (i := 1811) (by decide +kernel), List.mem_of_getElem? (i := 1812) (by decide +kernel)⟩
theorem lw_p75 : lw_okq (⟨"VoteRollModel", "lastOf", "(III)I"⟩, 104) := ⟨⟨by decide +kernel, by decide +kernel⟩, List.mem_of_getElem? (i := 1292) (by decide +kernel), List.mem_of_getElem? (i := 1815) (by decide +kernel), List.mem_of_getElem? (i := 1816) (by decide +kernel)⟩
theorem lw_p76 : lw_okq (⟨"VoteRollModel", "readClause", "()V"⟩, 104) := ⟨⟨by decide +kernel, by decide +kernel⟩, List.mem_of_getElem? (i := 1292) (by decide +kernel), List.mem_of_getElem? (i := 1827) (by decide +kernel), List.mem_of_getElem? (i := 1828) (by decide +kernel)⟩
theorem lw_p77 : lw_okq (⟨"VoteRollModel", "clauseAt", "()I"⟩, 104) := ⟨⟨by decide +kernel, by decide +kernel⟩, List.mem_of_getElem? (i := 1292) (by decide +kernel), List.mem_of_getElem? (i := 1831) (by decide +kernel), List.mem_of_getElem? (i := 1832) (by decide +kernel)⟩
theorem lw_p78 : lw_okq (⟨"VoteRollModel", "isWord", "(IIIIII)Z"⟩, 104) := ⟨⟨by decide +kernel, by decide +kernel⟩, List.mem_of_getElem? (i := 1292) (by decide +kernel), List.mem_of_getElem? (i := 1835) (by decide +kernel), List.mem_of_getElem? (i := 1836) (by decide +kernel)⟩
theorem lw_p79 : lw_okq (⟨"VoteRollModel", "readCause", "()V"⟩, 104) := ⟨⟨by decide +kernel, by decide +kernel⟩, List.mem_of_getElem? (i := 1292) (by decide +kernel), List.mem_of_getElem? (i := 1839) (by decide +kernel), List.mem_of_getElem? (i := 1840) (by decide +kernel)⟩
def lw_privs_5 : List (MethodName × Nat) := [(⟨"VoteRollModel", "addPair", "(II)V"⟩, 104), (⟨"VoteRollModel", "isAhead", "(III)Z"⟩, 104), (⟨"VoteRollModel", "join", "(II)V"⟩, 104), (⟨"VoteRollModel", "born", "(I)I"⟩, 104), (⟨"VoteRollModel", "homeRecord", "(II)I"⟩, 104), (⟨"VoteRollModel", "home", "(II)I"⟩, 104), (⟨"VoteRollModel", "abroadRecord", "(II)I"⟩, 104), (⟨"VoteRollModel", "isDead", "(II)Z"⟩, 104), (⟨"VoteRollModel", "heard", "(II)I"⟩, 104), (⟨"VoteRollModel", "isAct", "(III)Z"⟩, 104), (⟨"VoteRollModel", "wardOf", "(II)I"⟩, 104), (⟨"VoteRollModel", "lastOf", "(III)I"⟩, 104), (⟨"VoteRollModel", "readClause", "()V"⟩, 104), (⟨"VoteRollModel", "clauseAt", "()I"⟩, 104), (⟨"VoteRollModel", "isWord", "(IIIIII)Z"⟩, 104), (⟨"VoteRollModel", "readCause", "()V"⟩, 104)]
theorem lw_r5 : ∀ q ∈ lw_privs_5, lw_okq q := List.forall_mem_cons.mpr ⟨lw_p64, List.forall_mem_cons.mpr ⟨lw_p65, List.forall_mem_cons.mpr ⟨lw_p66, List.forall_mem_cons.mpr ⟨lw_p67, List.forall_mem_cons.mpr ⟨lw_p68, List.forall_mem_cons.mpr ⟨lw_p69, List.forall_mem_cons.mpr ⟨lw_p70, List.forall_mem_cons.mpr ⟨lw_p71, List.forall_mem_cons.mpr ⟨lw_p72, List.forall_mem_cons.mpr ⟨lw_p73, List.forall_mem_cons.mpr ⟨lw_p74, List.forall_mem_cons.mpr ⟨lw_p75, List.forall_mem_cons.mpr ⟨lw_p76, List.forall_mem_cons.mpr ⟨lw_p77, List.forall_mem_cons.mpr ⟨lw_p78, List.forall_mem_cons.mpr ⟨lw_p79, fun _ h => absurd h List.not_mem_nil⟩⟩⟩⟩⟩⟩⟩⟩⟩⟩⟩⟩⟩⟩⟩⟩
theorem lw_p80 : lw_okq (⟨"VoteRollModel", "readFact", "()Z"⟩, 104) := ⟨⟨by decide +kernel, by decide +kernel⟩, List.mem_of_getElem? (i := 1292) (by decide +kernel), List.mem_of_getElem? (i := 1843) (by decide +kernel), List.mem_of_getElem? (i := 1844) (by decide +kernel)⟩
theorem lw_p81 : lw_okq (⟨"VoteRollModel", "leafAt", "()I"⟩, 104) := ⟨⟨by decide +kernel, by decide +kernel⟩, List.mem_of_getElem? (i := 1292) (by decide +kernel), List.mem_of_getElem? (i := 1847) (by decide +kernel), List.mem_of_getElem? (i := 1848) (by decide +kernel)⟩
theorem lw_p82 : lw_okq (⟨"VoteRollModel", "number", "(JJ)I"⟩, 104) := ⟨⟨by decide +kernel, by decide +kernel⟩, List.mem_of_getElem? (i := 1292) (by decide +kernel), List.mem_of_getElem? (i := 1851) (by decide +kernel), List.mem_of_getElem? (i := 1852) (by decide +kernel)⟩
theorem lw_p83 : lw_okq (⟨"VoteRollModel", "emit", "(II)V"⟩, 104) := ⟨⟨by decide +kernel, by decide +kernel⟩, List.mem_of_getElem? (i := 1292) (by decide +kernel), List.mem_of_getElem? (i := 1856) (by decide +kernel), List.mem_of_getElem? (i := 1857) (by decide +kernel)⟩
theorem lw_p84 : lw_okq (⟨"VoteRollModel", "settle", "(I)V"⟩, 104) := ⟨⟨by decide +kernel, by decide +kernel⟩, List.mem_of_getElem? (i := 1292) (by decide +kernel), List.mem_of_getElem? (i := 1863) (by decide +kernel), List.mem_of_getElem? (i := 1864) (by decide +kernel)⟩
theorem lw_p85 : lw_okq (⟨"VoteRollModel", "holds", "(II)Z"⟩, 104) := ⟨⟨by decide +kernel, by decide +kernel⟩, List.mem_of_getElem? (i := 1292) (by decide +kernel), List.mem_of_getElem? (i := 1872) (by decide +kernel), List.mem_of_getElem? (i := 1873) (by decide +kernel)⟩
theorem lw_p86 : lw_okq (⟨"VoteRollModel", "fact", "(IIII)Z"⟩, 104) := ⟨⟨by decide +kernel, by decide +kernel⟩, List.mem_of_getElem? (i := 1292) (by decide +kernel), List.mem_of_getElem? (i := 1876) (by decide +kernel), List.mem_of_getElem? (i := 1877) (by decide +kernel)⟩
theorem lw_p87 : lw_okq (⟨"VoteRollModel", "isDouble", "(II)Z"⟩, 104) := ⟨⟨by decide +kernel, by decide +kernel⟩, List.mem_of_getElem? (i := 1292) (by decide +kernel), List.mem_of_getElem? (i := 1880) (by decide +kernel), List.mem_of_getElem? (i := 1881) (by decide +kernel)⟩
theorem lw_p88 : lw_okq (⟨"VoteRollModel", "isYoung", "(II)Z"⟩, 104) := ⟨⟨by decide +kernel, by decide +kernel⟩, List.mem_of_getElem? (i := 1292) (by decide +kernel), List.mem_of_getElem? (i := 1884) (by decide +kernel), List.mem_of_getElem? (i := 1885) (by decide +kernel)⟩
theorem lw_p89 : lw_okq (⟨"VoteRollModel", "isAway", "(II)Z"⟩, 104) := ⟨⟨by decide +kernel, by decide +kernel⟩, List.mem_of_getElem? (i := 1292) (by decide +kernel), List.mem_of_getElem? (i := 1888) (by decide +kernel), List.mem_of_getElem? (i := 1889) (by decide +kernel)⟩
theorem lw_p90 : lw_okq (⟨"VoteRollModel", "canAsk", "(III)Z"⟩, 104) := ⟨⟨by decide +kernel, by decide +kernel⟩, List.mem_of_getElem? (i := 1292) (by decide +kernel), List.mem_of_getElem? (i := 1905) (by decide +kernel), List.mem_of_getElem? (i := 1906) (by decide +kernel)⟩
theorem lw_p91 : lw_okq (⟨"VoteRollModel", "goLine", "(III)V"⟩, 104) := ⟨⟨by decide +kernel, by decide +kernel⟩, List.mem_of_getElem? (i := 1292) (by decide +kernel), List.mem_of_getElem? (i := 1909) (by decide +kernel), List.mem_of_getElem? (i := 1910) (by decide +kernel)⟩
theorem lw_p92 : lw_okq (⟨"VoteRollModel", "free", "(II)V"⟩, 104) := ⟨⟨by decide +kernel, by decide +kernel⟩, List.mem_of_getElem? (i := 1292) (by decide +kernel), List.mem_of_getElem? (i := 1916) (by decide +kernel), List.mem_of_getElem? (i := 1917) (by decide +kernel)⟩
theorem lw_p93 : lw_okq (⟨"VoteRollModel", "lacksOn", "(II)I"⟩, 104) := ⟨⟨by decide +kernel, by decide +kernel⟩, List.mem_of_getElem? (i := 1292) (by decide +kernel), List.mem_of_getElem? (i := 1920) (by decide +kernel), List.mem_of_getElem? (i := 1921) (by decide +kernel)⟩
theorem lw_p94 : lw_okq (⟨"VoteRollModel", "isNotice", "(III)Z"⟩, 104) := ⟨⟨by decide +kernel, by decide +kernel⟩, List.mem_of_getElem? (i := 1292) (by decide +kernel), List.mem_of_getElem? (i := 1924) (by decide +kernel), List.mem_of_getElem? (i := 1925) (by decide +kernel)⟩
theorem lw_p95 : lw_okq (⟨"VoteRollModel", "isAnswered", "(II)Z"⟩, 104) := ⟨⟨by decide +kernel, by decide +kernel⟩, List.mem_of_getElem? (i := 1292) (by decide +kernel), List.mem_of_getElem? (i := 1928) (by decide +kernel), List.mem_of_getElem? (i := 1929) (by decide +kernel)⟩
def lw_privs_6 : List (MethodName × Nat) := [(⟨"VoteRollModel", "readFact", "()Z"⟩, 104), (⟨"VoteRollModel", "leafAt", "()I"⟩, 104), (⟨"VoteRollModel", "number", "(JJ)I"⟩, 104), (⟨"VoteRollModel", "emit", "(II)V"⟩, 104), (⟨"VoteRollModel", "settle", "(I)V"⟩, 104), (⟨"VoteRollModel", "holds", "(II)Z"⟩, 104), (⟨"VoteRollModel", "fact", "(IIII)Z"⟩, 104), (⟨"VoteRollModel", "isDouble", "(II)Z"⟩, 104), (⟨"VoteRollModel", "isYoung", "(II)Z"⟩, 104), (⟨"VoteRollModel", "isAway", "(II)Z"⟩, 104), (⟨"VoteRollModel", "canAsk", "(III)Z"⟩, 104), (⟨"VoteRollModel", "goLine", "(III)V"⟩, 104), (⟨"VoteRollModel", "free", "(II)V"⟩, 104), (⟨"VoteRollModel", "lacksOn", "(II)I"⟩, 104), (⟨"VoteRollModel", "isNotice", "(III)Z"⟩, 104), (⟨"VoteRollModel", "isAnswered", "(II)Z"⟩, 104)]
theorem lw_r6 : ∀ q ∈ lw_privs_6, lw_okq q := List.forall_mem_cons.mpr ⟨lw_p80, List.forall_mem_cons.mpr ⟨lw_p81, List.forall_mem_cons.mpr ⟨lw_p82, List.forall_mem_cons.mpr ⟨lw_p83, List.forall_mem_cons.mpr ⟨lw_p84, List.forall_mem_cons.mpr ⟨lw_p85, List.forall_mem_cons.mpr ⟨lw_p86, List.forall_mem_cons.mpr ⟨lw_p87, List.forall_mem_cons.mpr ⟨lw_p88, List.forall_mem_cons.mpr ⟨lw_p89, List.forall_mem_cons.mpr ⟨lw_p90, List.forall_mem_cons.mpr ⟨lw_p91, List.forall_mem_cons.mpr ⟨lw_p92, List.forall_mem_cons.mpr ⟨lw_p93, List.forall_mem_cons.mpr ⟨lw_p94, List.forall_mem_cons.mpr ⟨lw_p95, fun _ h => absurd h List.not_mem_nil⟩⟩⟩⟩⟩⟩⟩⟩⟩⟩⟩⟩⟩⟩⟩⟩
theorem lw_p96 : lw_okq (⟨"VoteRollModel", "event", "(III)V"⟩, 104) := ⟨⟨by decide +kernel, by decide +kernel⟩, List.mem_of_getElem? (i := 1292) (by decide +kernel), List.mem_of_getElem? (i := 1932) (by decide +kernel), List.mem_of_getElem? (i := 1933) (by decide +kernel)⟩
theorem lw_p97 : lw_okq (⟨"VoteRollModel", "ask", "(II)V"⟩, 104) := ⟨⟨by decide +kernel, by decide +kernel⟩, List.mem_of_getElem? (i := 1292) (by decide +kernel), List.mem_of_getElem? (i := 1936) (by decide +kernel), List.mem_of_getElem? (i := 1937) (by decide +kernel)⟩
theorem lw_p98 : lw_okq (⟨"VoteRollModel", "mayVote", "(II)Z"⟩, 104) := ⟨⟨by decide +kernel, by decide +kernel⟩, List.mem_of_getElem? (i := 1292) (by decide +kernel), List.mem_of_getElem? (i := 1952) (by decide +kernel), List.mem_of_getElem? (i := 1953) (by decide +kernel)⟩
theorem lw_p99 : lw_okq (⟨"VoteRollModel", "guessed", "(I)I"⟩, 104) := ⟨⟨by decide +kernel, by decide +kernel⟩, List.mem_of_getElem? (i := 1292) (by decide +kernel), List.mem_of_getElem? (i := 1974) (by decide +kernel), List.mem_of_getElem? (i := 1975) (by decide +kernel)⟩
theorem lw_p100 : lw_okq (⟨"VoteRollModel", "can", "(IIZ)Z"⟩, 104) := ⟨⟨by decide +kernel, by decide +kernel⟩, List.mem_of_getElem? (i := 1292) (by decide +kernel), List.mem_of_getElem? (i := 1978) (by decide +kernel), List.mem_of_getElem? (i := 1979) (by decide +kernel)⟩
theorem lw_p101 : lw_okq (⟨"VoteRollModel", "choose", "(II)J"⟩, 104) := ⟨⟨by decide +kernel, by decide +kernel⟩, List.mem_of_getElem? (i := 1292) (by decide +kernel), List.mem_of_getElem? (i := 1982) (by decide +kernel), List.mem_of_getElem? (i := 1983) (by decide +kernel)⟩
theorem lw_p102 : lw_okq (⟨"VoteRollModel", "caseAt", "(II)I"⟩, 104) := ⟨⟨by decide +kernel, by decide +kernel⟩, List.mem_of_getElem? (i := 1292) (by decide +kernel), List.mem_of_getElem? (i := 2012) (by decide +kernel), List.mem_of_getElem? (i := 2013) (by decide +kernel)⟩
theorem lw_p103 : lw_okq (⟨"VoteRollModel", "costOf", "(I)I"⟩, 104) := ⟨⟨by decide +kernel, by decide +kernel⟩, List.mem_of_getElem? (i := 1292) (by decide +kernel), List.mem_of_getElem? (i := 2024) (by decide +kernel), List.mem_of_getElem? (i := 2025) (by decide +kernel)⟩
theorem lw_p104 : lw_okq (⟨"VoteRollModel", "chanceOf", "(II)I"⟩, 104) := ⟨⟨by decide +kernel, by decide +kernel⟩, List.mem_of_getElem? (i := 1292) (by decide +kernel), List.mem_of_getElem? (i := 2028) (by decide +kernel), List.mem_of_getElem? (i := 2029) (by decide +kernel)⟩
theorem lw_p105 : lw_okq (⟨"VoteRollModel", "isBest", "(III)Z"⟩, 104) := ⟨⟨by decide +kernel, by decide +kernel⟩, List.mem_of_getElem? (i := 1292) (by decide +kernel), List.mem_of_getElem? (i := 2032) (by decide +kernel), List.mem_of_getElem? (i := 2033) (by decide +kernel)⟩
def lw_privs_7 : List (MethodName × Nat) := [(⟨"VoteRollModel", "event", "(III)V"⟩, 104), (⟨"VoteRollModel", "ask", "(II)V"⟩, 104), (⟨"VoteRollModel", "mayVote", "(II)Z"⟩, 104), (⟨"VoteRollModel", "guessed", "(I)I"⟩, 104), (⟨"VoteRollModel", "can", "(IIZ)Z"⟩, 104), (⟨"VoteRollModel", "choose", "(II)J"⟩, 104), (⟨"VoteRollModel", "caseAt", "(II)I"⟩, 104), (⟨"VoteRollModel", "costOf", "(I)I"⟩, 104), (⟨"VoteRollModel", "chanceOf", "(II)I"⟩, 104), (⟨"VoteRollModel", "isBest", "(III)Z"⟩, 104)]
theorem lw_r7 : ∀ q ∈ lw_privs_7, lw_okq q := List.forall_mem_cons.mpr ⟨lw_p96, List.forall_mem_cons.mpr ⟨lw_p97, List.forall_mem_cons.mpr ⟨lw_p98, List.forall_mem_cons.mpr ⟨lw_p99, List.forall_mem_cons.mpr ⟨lw_p100, List.forall_mem_cons.mpr ⟨lw_p101, List.forall_mem_cons.mpr ⟨lw_p102, List.forall_mem_cons.mpr ⟨lw_p103, List.forall_mem_cons.mpr ⟨lw_p104, List.forall_mem_cons.mpr ⟨lw_p105, fun _ h => absurd h List.not_mem_nil⟩⟩⟩⟩⟩⟩⟩⟩⟩⟩
def lw_privs : List (MethodName × Nat) := lw_privs_1 ++ (lw_privs_2 ++ (lw_privs_3 ++ (lw_privs_4 ++ (lw_privs_5 ++ (lw_privs_6 ++ (lw_privs_7))))))
def lw_tbl : List Cond := k2_sels lw_privs ++ tables_1
theorem lw_privs_ok : ∀ q ∈ lw_privs, lw_okq q := by
  show ∀ q ∈ lw_privs_1 ++ (lw_privs_2 ++ (lw_privs_3 ++ (lw_privs_4 ++ (lw_privs_5 ++ (lw_privs_6 ++ (lw_privs_7)))))), lw_okq q
  exact List.forall_mem_append.mpr ⟨lw_r1, List.forall_mem_append.mpr ⟨lw_r2, List.forall_mem_append.mpr ⟨lw_r3, List.forall_mem_append.mpr ⟨lw_r4, List.forall_mem_append.mpr ⟨lw_r5, List.forall_mem_append.mpr ⟨lw_r6, lw_r7⟩⟩⟩⟩⟩⟩

def RX0 : String := "VoteRoll$Acts"
def TX0 : u_T := fun k => match k with
  | 0 => ("VoteRoll$Acts", "record", "[I", true)
  | 1 => ("VoteRoll$Acts", "sort", "[I", true)
  | 2 => ("VoteRoll$Acts", "day", "[I", true)
  | 3 => ("VoteRoll$Acts", "known", "[I", true)
  | 4 => ("VoteRoll$Acts", "byDay", "[I", true)
  | 5 => ("VoteRoll$Acts", "votes", "[I", true)
  | 6 => ("VoteRoll$Acts", "size", "I", false)
  | _ => ("VoteRoll$Acts", "voteCount", "I", false)
def tyX0 : Nat → FieldType := fun k => match k with
  | 0 => .array .int
  | 1 => .array .int
  | 2 => .array .int
  | 3 => .array .int
  | 4 => .array .int
  | 5 => .array .int
  | 6 => .int
  | _ => .int
abbrev wsX00 : List Cond := u_ws RX0 TX0 8
theorem nmX0 : ∀ a, a < 8 → ∀ b, b < 8 → a ≠ b → (TX0 a).2.1 ≠ (TX0 b).2.1 := by decide +kernel
theorem tyX0_ok : ∀ k, k < 8 → parseFieldDescriptor (TX0 k).2.2.1 = some (tyX0 k) := by decide +kernel
abbrev cX0_init : ByteArray := prog_2_method_1_code
def yX0_init : MethodName := ⟨RX0, "<init>", "()V"⟩
abbrev cX0_add : ByteArray := prog_2_method_2_code
def yX0_add : MethodName := ⟨RX0, "add", "(IIII)V"⟩
abbrev cX0_hasVoteWithin : ByteArray := prog_2_method_3_code
def yX0_hasVoteWithin : MethodName := ⟨RX0, "hasVoteWithin", "(II)Z"⟩
def RX1 : String := "VoteRoll$Book"
def TX1 : u_T := fun k => match k with
  | 0 => ("VoteRoll$Book", "list", "[I", true)
  | 1 => ("VoteRoll$Book", "sort", "[I", true)
  | 2 => ("VoteRoll$Book", "birth", "[I", true)
  | 3 => ("VoteRoll$Book", "place", "[I", true)
  | 4 => ("VoteRoll$Book", "number", "[I", true)
  | 5 => ("VoteRoll$Book", "day", "[I", true)
  | 6 => ("VoteRoll$Book", "known", "[I", true)
  | 7 => ("VoteRoll$Book", "hidden", "[Z", true)
  | 8 => ("VoteRoll$Book", "byDay", "[I", true)
  | 9 => ("VoteRoll$Book", "toldNames", "[B", false)
  | 10 => ("VoteRoll$Book", "toldSize", "[I", true)
  | 11 => ("VoteRoll$Book", "foldedNames", "[B", false)
  | 12 => ("VoteRoll$Book", "foldedSize", "[I", true)
  | _ => ("VoteRoll$Book", "size", "I", false)
def tyX1 : Nat → FieldType := fun k => match k with
  | 0 => .array .int
  | 1 => .array .int
  | 2 => .array .int
  | 3 => .array .int
  | 4 => .array .int
  | 5 => .array .int
  | 6 => .array .int
  | 7 => .array .boolean
  | 8 => .array .int
  | 9 => .array .byte
  | 10 => .array .int
  | 11 => .array .byte
  | 12 => .array .int
  | _ => .int
abbrev wsX10 : List Cond := u_ws RX1 TX1 14
theorem nmX1 : ∀ a, a < 14 → ∀ b, b < 14 → a ≠ b → (TX1 a).2.1 ≠ (TX1 b).2.1 := by decide +kernel
theorem tyX1_ok : ∀ k, k < 14 → parseFieldDescriptor (TX1 k).2.2.1 = some (tyX1 k) := by decide +kernel
abbrev cX1_init : ByteArray := prog_3_method_1_code
def yX1_init : MethodName := ⟨RX1, "<init>", "()V"⟩
abbrev cX1_needsPlace : ByteArray := prog_3_method_2_code
def yX1_needsPlace : MethodName := ⟨RX1, "needsPlace", "(I)Z"⟩
abbrev cX1_tellsHome : ByteArray := prog_3_method_3_code
def yX1_tellsHome : MethodName := ⟨RX1, "tellsHome", "(I)Z"⟩
abbrev cX1_foldedPlace : ByteArray := prog_3_method_4_code
def yX1_foldedPlace : MethodName := ⟨RX1, "foldedPlace", "(II)I"⟩
abbrev cX1_holds : ByteArray := prog_3_method_5_code
def yX1_holds : MethodName := ⟨RX1, "holds", "(I)Z"⟩
abbrev cX1_makeRoomForNames : ByteArray := prog_3_method_6_code
def yX1_makeRoomForNames : MethodName := ⟨RX1, "makeRoomForNames", "()V"⟩
abbrev cX1_readNames : ByteArray := prog_3_method_7_code
def yX1_readNames : MethodName := ⟨RX1, "readNames", "(LVoteRoll$Tape;)I"⟩
abbrev cX1_readName : ByteArray := prog_3_method_8_code
def yX1_readName : MethodName := ⟨RX1, "readName", "(LVoteRoll$Tape;I)Z"⟩
abbrev cX1_foldNames : ByteArray := prog_3_method_9_code
def yX1_foldNames : MethodName := ⟨RX1, "foldNames", "(ILVoteRoll$Folds;)V"⟩
abbrev cX1_putInOrder : ByteArray := prog_3_method_10_code
def yX1_putInOrder : MethodName := ⟨RX1, "putInOrder", "()V"⟩
def RX2 : String := "VoteRoll$Draws"
def TX2 : u_T := fun k => match k with
  | 0 => ("VoteRoll$Draws", "doors", "[I", true)
  | 1 => ("VoteRoll$Draws", "drawn", "[I", true)
  | 2 => ("VoteRoll$Draws", "lacking", "[I", true)
  | 3 => ("VoteRoll$Draws", "firstWays", "[J", true)
  | 4 => ("VoteRoll$Draws", "otherWays", "[J", true)
  | 5 => ("VoteRoll$Draws", "luckUpper", "J", false)
  | _ => ("VoteRoll$Draws", "luckLower", "J", false)
def tyX2 : Nat → FieldType := fun k => match k with
  | 0 => .array .int
  | 1 => .array .int
  | 2 => .array .int
  | 3 => .array .long
  | 4 => .array .long
  | 5 => .long
  | _ => .long
abbrev wsX20 : List Cond := u_ws RX2 TX2 7
theorem nmX2 : ∀ a, a < 7 → ∀ b, b < 7 → a ≠ b → (TX2 a).2.1 ≠ (TX2 b).2.1 := by decide +kernel
theorem tyX2_ok : ∀ k, k < 7 → parseFieldDescriptor (TX2 k).2.2.1 = some (tyX2 k) := by decide +kernel
abbrev cX2_init : ByteArray := prog_4_method_1_code
def yX2_init : MethodName := ⟨RX2, "<init>", "()V"⟩
abbrev cX2_atLeast : ByteArray := prog_4_method_2_code
def yX2_atLeast : MethodName := ⟨RX2, "atLeast", "(I)I"⟩
abbrev cX2_atMost : ByteArray := prog_4_method_3_code
def yX2_atMost : MethodName := ⟨RX2, "atMost", "(I)I"⟩
abbrev cX2_isLikely : ByteArray := prog_4_method_4_code
def yX2_isLikely : MethodName := ⟨RX2, "isLikely", "(IIII)Z"⟩
abbrev cX2_waysOf : ByteArray := prog_4_method_5_code
def yX2_waysOf : MethodName := ⟨RX2, "waysOf", "(IIIII)J"⟩
abbrev cX2_fillRow : ByteArray := prog_4_method_6_code
def yX2_fillRow : MethodName := ⟨RX2, "fillRow", "([JI)V"⟩
abbrev cX2_guessed : ByteArray := prog_4_method_7_code
def yX2_guessed : MethodName := ⟨RX2, "guessed", "(I)I"⟩
abbrev cX2_guessedOfAll : ByteArray := prog_4_method_8_code
def yX2_guessedOfAll : MethodName := ⟨RX2, "guessedOfAll", "()I"⟩
abbrev cX2_tryHalf : ByteArray := prog_4_method_9_code
def yX2_tryHalf : MethodName := ⟨RX2, "tryHalf", "(IIII)V"⟩
def RX3 : String := "VoteRoll$Facts"
def TX3 : u_T := fun k => match k with
  | 0 => ("VoteRoll$Facts", "book", "LVoteRoll$Book;", true)
  | 1 => ("VoteRoll$Facts", "acts", "LVoteRoll$Acts;", true)
  | 2 => ("VoteRoll$Facts", "persons", "LVoteRoll$Persons;", true)
  | 3 => ("VoteRoll$Facts", "law", "LVoteRoll$Law;", true)
  | 4 => ("VoteRoll$Facts", "records", "[I", true)
  | 5 => ("VoteRoll$Facts", "size", "I", false)
  | 6 => ("VoteRoll$Facts", "deeds", "[I", true)
  | 7 => ("VoteRoll$Facts", "deedCount", "I", false)
  | 8 => ("VoteRoll$Facts", "born", "I", false)
  | 9 => ("VoteRoll$Facts", "day", "I", false)
  | 10 => ("VoteRoll$Facts", "home", "I", false)
  | 11 => ("VoteRoll$Facts", "homeRecord", "I", false)
  | 12 => ("VoteRoll$Facts", "abroadRecord", "I", false)
  | 13 => ("VoteRoll$Facts", "dead", "Z", false)
  | 14 => ("VoteRoll$Facts", "deathRecord", "I", false)
  | 15 => ("VoteRoll$Facts", "heard", "I", false)
  | 16 => ("VoteRoll$Facts", "askedRecord", "I", false)
  | _ => ("VoteRoll$Facts", "doubled", "Z", false)
def tyX3 : Nat → FieldType := fun k => match k with
  | 0 => .object "VoteRoll$Book"
  | 1 => .object "VoteRoll$Acts"
  | 2 => .object "VoteRoll$Persons"
  | 3 => .object "VoteRoll$Law"
  | 4 => .array .int
  | 5 => .int
  | 6 => .array .int
  | 7 => .int
  | 8 => .int
  | 9 => .int
  | 10 => .int
  | 11 => .int
  | 12 => .int
  | 13 => .boolean
  | 14 => .int
  | 15 => .int
  | 16 => .int
  | _ => .boolean
abbrev wsX30 : List Cond := u_ws RX3 TX3 18
theorem nmX3 : ∀ a, a < 18 → ∀ b, b < 18 → a ≠ b → (TX3 a).2.1 ≠ (TX3 b).2.1 := by decide +kernel
theorem tyX3_ok : ∀ k, k < 18 → parseFieldDescriptor (TX3 k).2.2.1 = some (tyX3 k) := by decide +kernel
abbrev cX3_init : ByteArray := prog_5_method_1_code
def yX3_init : MethodName := ⟨RX3, "<init>", "(LVoteRoll$Book;LVoteRoll$Acts;LVoteRoll$Persons;LVoteRoll$Law;)V"⟩
abbrev cX3_focus : ByteArray := prog_5_method_2_code
def yX3_focus : MethodName := ⟨RX3, "focus", "(II)V"⟩
abbrev cX3_mostlyBorn : ByteArray := prog_5_method_3_code
def yX3_mostlyBorn : MethodName := ⟨RX3, "mostlyBorn", "()I"⟩
abbrev cX3_lookOn : ByteArray := prog_5_method_4_code
def yX3_lookOn : MethodName := ⟨RX3, "lookOn", "(I)V"⟩
abbrev cX3_hearAnswers : ByteArray := prog_5_method_5_code
def yX3_hearAnswers : MethodName := ⟨RX3, "hearAnswers", "()V"⟩
abbrev cX3_homeOf : ByteArray := prog_5_method_6_code
def yX3_homeOf : MethodName := ⟨RX3, "homeOf", "(I)I"⟩
abbrev cX3_homeHidden : ByteArray := prog_5_method_7_code
def yX3_homeHidden : MethodName := ⟨RX3, "homeHidden", "()Z"⟩
abbrev cX3_abroadSince : ByteArray := prog_5_method_8_code
def yX3_abroadSince : MethodName := ⟨RX3, "abroadSince", "()I"⟩
abbrev cX3_askedWard : ByteArray := prog_5_method_9_code
def yX3_askedWard : MethodName := ⟨RX3, "askedWard", "()I"⟩
abbrev cX3_young : ByteArray := prog_5_method_10_code
def yX3_young : MethodName := ⟨RX3, "young", "()Z"⟩
abbrev cX3_away : ByteArray := prog_5_method_11_code
def yX3_away : MethodName := ⟨RX3, "away", "()Z"⟩
abbrev cX3_causeHolds : ByteArray := prog_5_method_12_code
def yX3_causeHolds : MethodName := ⟨RX3, "causeHolds", "()Z"⟩
abbrev cX3_holds : ByteArray := prog_5_method_13_code
def yX3_holds : MethodName := ⟨RX3, "holds", "(II)Z"⟩
def RX4 : String := "VoteRoll$Folds"
def TX4 : u_T := fun k => match k with
  | 0 => ("VoteRoll$Folds", "left", "[B", true)
  | 1 => ("VoteRoll$Folds", "right", "[B", true)
  | 2 => ("VoteRoll$Folds", "leftSize", "[I", true)
  | 3 => ("VoteRoll$Folds", "rightSize", "[I", true)
  | _ => ("VoteRoll$Folds", "pairs", "I", false)
def tyX4 : Nat → FieldType := fun k => match k with
  | 0 => .array .byte
  | 1 => .array .byte
  | 2 => .array .int
  | 3 => .array .int
  | _ => .int
abbrev wsX40 : List Cond := u_ws RX4 TX4 5
theorem nmX4 : ∀ a, a < 5 → ∀ b, b < 5 → a ≠ b → (TX4 a).2.1 ≠ (TX4 b).2.1 := by decide +kernel
theorem tyX4_ok : ∀ k, k < 5 → parseFieldDescriptor (TX4 k).2.2.1 = some (tyX4 k) := by decide +kernel
abbrev cX4_init : ByteArray := prog_6_method_1_code
def yX4_init : MethodName := ⟨RX4, "<init>", "()V"⟩
abbrev cX4_readFrom : ByteArray := prog_6_method_2_code
def yX4_readFrom : MethodName := ⟨RX4, "readFrom", "(LVoteRoll$Tape;)I"⟩
abbrev cX4_readPair : ByteArray := prog_6_method_3_code
def yX4_readPair : MethodName := ⟨RX4, "readPair", "(LVoteRoll$Tape;)Z"⟩
abbrev cX4_readRow : ByteArray := prog_6_method_4_code
def yX4_readRow : MethodName := ⟨RX4, "readRow", "(LVoteRoll$Tape;[B)I"⟩
abbrev cX4_copyOf : ByteArray := prog_6_method_5_code
def yX4_copyOf : MethodName := ⟨RX4, "copyOf", "(LVoteRoll$Folds;)V"⟩
abbrev cX4_foldInto : ByteArray := prog_6_method_6_code
def yX4_foldInto : MethodName := ⟨RX4, "foldInto", "([BII[BI)I"⟩
abbrev cX4_fitting : ByteArray := prog_6_method_7_code
def yX4_fitting : MethodName := ⟨RX4, "fitting", "([BII)I"⟩
def RX5 : String := "VoteRoll$Law"
def TX5 : u_T := fun k => match k with
  | 0 => ("VoteRoll$Law", "values", "[I", true)
  | 1 => ("VoteRoll$Law", "code", "[I", true)
  | 2 => ("VoteRoll$Law", "codeSize", "I", false)
  | 3 => ("VoteRoll$Law", "clauses", "I", false)
  | 4 => ("VoteRoll$Law", "causeFacts", "I", false)
  | _ => ("VoteRoll$Law", "allFacts", "I", false)
def tyX5 : Nat → FieldType := fun k => match k with
  | 0 => .array .int
  | 1 => .array .int
  | 2 => .int
  | 3 => .int
  | 4 => .int
  | _ => .int
abbrev wsX50 : List Cond := u_ws RX5 TX5 6
theorem nmX5 : ∀ a, a < 6 → ∀ b, b < 6 → a ≠ b → (TX5 a).2.1 ≠ (TX5 b).2.1 := by decide +kernel
theorem tyX5_ok : ∀ k, k < 6 → parseFieldDescriptor (TX5 k).2.2.1 = some (tyX5 k) := by decide +kernel
abbrev cX5_init : ByteArray := prog_7_method_1_code
def yX5_init : MethodName := ⟨RX5, "<init>", "()V"⟩
abbrev cX5_copyOf : ByteArray := prog_7_method_2_code
def yX5_copyOf : MethodName := ⟨RX5, "copyOf", "(LVoteRoll$Law;)V"⟩
abbrev cX5_readFrom : ByteArray := prog_7_method_3_code
def yX5_readFrom : MethodName := ⟨RX5, "readFrom", "(LVoteRoll$Tape;)I"⟩
abbrev cX5_readClause : ByteArray := prog_7_method_4_code
def yX5_readClause : MethodName := ⟨RX5, "readClause", "(LVoteRoll$Tape;)Z"⟩
abbrev cX5_clauseKind : ByteArray := prog_7_method_5_code
def yX5_clauseKind : MethodName := ⟨RX5, "clauseKind", "(LVoteRoll$Tape;)I"⟩
abbrev cX5_clauseWord : ByteArray := prog_7_method_6_code
def yX5_clauseWord : MethodName := ⟨RX5, "clauseWord", "(I)Ljava/lang/String;"⟩
abbrev cX5_readValue : ByteArray := prog_7_method_7_code
def yX5_readValue : MethodName := ⟨RX5, "readValue", "(LVoteRoll$Tape;I)Z"⟩
abbrev cX5_readCause : ByteArray := prog_7_method_8_code
def yX5_readCause : MethodName := ⟨RX5, "readCause", "(LVoteRoll$Tape;I)Z"⟩
abbrev cX5_readFact : ByteArray := prog_7_method_9_code
def yX5_readFact : MethodName := ⟨RX5, "readFact", "(LVoteRoll$Tape;I)Z"⟩
abbrev cX5_readWithin : ByteArray := prog_7_method_10_code
def yX5_readWithin : MethodName := ⟨RX5, "readWithin", "(LVoteRoll$Tape;I)Z"⟩
abbrev cX5_readPlain : ByteArray := prog_7_method_11_code
def yX5_readPlain : MethodName := ⟨RX5, "readPlain", "(LVoteRoll$Tape;)Z"⟩
abbrev cX5_factWord : ByteArray := prog_7_method_12_code
def yX5_factWord : MethodName := ⟨RX5, "factWord", "(I)Ljava/lang/String;"⟩
abbrev cX5_emit : ByteArray := prog_7_method_13_code
def yX5_emit : MethodName := ⟨RX5, "emit", "(II)V"⟩
def RX6 : String := "VoteRoll$Line"
def TX6 : u_T := fun k => match k with
  | 0 => ("VoteRoll$Line", "book", "LVoteRoll$Book;", true)
  | 1 => ("VoteRoll$Line", "acts", "LVoteRoll$Acts;", true)
  | 2 => ("VoteRoll$Line", "facts", "LVoteRoll$Facts;", true)
  | 3 => ("VoteRoll$Line", "law", "LVoteRoll$Law;", true)
  | 4 => ("VoteRoll$Line", "state", "I", false)
  | 5 => ("VoteRoll$Line", "sinceDay", "I", false)
  | _ => ("VoteRoll$Line", "lack", "I", false)
def tyX6 : Nat → FieldType := fun k => match k with
  | 0 => .object "VoteRoll$Book"
  | 1 => .object "VoteRoll$Acts"
  | 2 => .object "VoteRoll$Facts"
  | 3 => .object "VoteRoll$Law"
  | 4 => .int
  | 5 => .int
  | _ => .int
abbrev wsX60 : List Cond := u_ws RX6 TX6 7
theorem nmX6 : ∀ a, a < 7 → ∀ b, b < 7 → a ≠ b → (TX6 a).2.1 ≠ (TX6 b).2.1 := by decide +kernel
theorem tyX6_ok : ∀ k, k < 7 → parseFieldDescriptor (TX6 k).2.2.1 = some (tyX6 k) := by decide +kernel
abbrev cX6_init : ByteArray := prog_8_method_1_code
def yX6_init : MethodName := ⟨RX6, "<init>", "(LVoteRoll$Book;LVoteRoll$Acts;LVoteRoll$Facts;LVoteRoll$Law;)V"⟩
abbrev cX6_walk : ByteArray := prog_8_method_2_code
def yX6_walk : MethodName := ⟨RX6, "walk", "(II)V"⟩
abbrev cX6_nextAsking : ByteArray := prog_8_method_3_code
def yX6_nextAsking : MethodName := ⟨RX6, "nextAsking", "(I)I"⟩
abbrev cX6_nextDoing : ByteArray := prog_8_method_4_code
def yX6_nextDoing : MethodName := ⟨RX6, "nextDoing", "(I)I"⟩
abbrev cX6_become : ByteArray := prog_8_method_5_code
def yX6_become : MethodName := ⟨RX6, "become", "(II)V"⟩
abbrev cX6_ripen : ByteArray := prog_8_method_6_code
def yX6_ripen : MethodName := ⟨RX6, "ripen", "(I)V"⟩
abbrev cX6_ask : ByteArray := prog_8_method_7_code
def yX6_ask : MethodName := ⟨RX6, "ask", "(I)V"⟩
abbrev cX6_meet : ByteArray := prog_8_method_8_code
def yX6_meet : MethodName := ⟨RX6, "meet", "(II)V"⟩
abbrev cX6_lackOn : ByteArray := prog_8_method_9_code
def yX6_lackOn : MethodName := ⟨RX6, "lackOn", "(I)I"⟩
abbrev cX6_firstNotice : ByteArray := prog_8_method_10_code
def yX6_firstNotice : MethodName := ⟨RX6, "firstNotice", "(II)I"⟩
abbrev cX6_answered : ByteArray := prog_8_method_11_code
def yX6_answered : MethodName := ⟨RX6, "answered", "(II)Z"⟩
def RX7 : String := "VoteRoll$Odds"
def TX7 : u_T := fun k => match k with
  | 0 => ("VoteRoll$Odds", "book", "LVoteRoll$Book;", true)
  | 1 => ("VoteRoll$Odds", "sameAgree", "[I", true)
  | 2 => ("VoteRoll$Odds", "otherAgree", "[I", true)
  | 3 => ("VoteRoll$Odds", "slack", "I", false)
  | 4 => ("VoteRoll$Odds", "priorUpper", "I", false)
  | 5 => ("VoteRoll$Odds", "priorLower", "I", false)
  | 6 => ("VoteRoll$Odds", "boundUpper", "I", false)
  | 7 => ("VoteRoll$Odds", "boundLower", "I", false)
  | 8 => ("VoteRoll$Odds", "upper", "J", false)
  | 9 => ("VoteRoll$Odds", "lower", "J", false)
  | 10 => ("VoteRoll$Odds", "likened", "I", false)
  | 11 => ("VoteRoll$Odds", "likeness", "[S", false)
  | 12 => ("VoteRoll$Odds", "above", "[I", true)
  | _ => ("VoteRoll$Odds", "below", "[I", true)
def tyX7 : Nat → FieldType := fun k => match k with
  | 0 => .object "VoteRoll$Book"
  | 1 => .array .int
  | 2 => .array .int
  | 3 => .int
  | 4 => .int
  | 5 => .int
  | 6 => .int
  | 7 => .int
  | 8 => .long
  | 9 => .long
  | 10 => .int
  | 11 => .array .short
  | 12 => .array .int
  | _ => .array .int
abbrev wsX70 : List Cond := u_ws RX7 TX7 14
theorem nmX7 : ∀ a, a < 14 → ∀ b, b < 14 → a ≠ b → (TX7 a).2.1 ≠ (TX7 b).2.1 := by decide +kernel
theorem tyX7_ok : ∀ k, k < 14 → parseFieldDescriptor (TX7 k).2.2.1 = some (tyX7 k) := by decide +kernel
abbrev cX7_init : ByteArray := prog_9_method_1_code
def yX7_init : MethodName := ⟨RX7, "<init>", "(LVoteRoll$Book;)V"⟩
abbrev cX7_likenAll : ByteArray := prog_9_method_2_code
def yX7_likenAll : MethodName := ⟨RX7, "likenAll", "()V"⟩
abbrev cX7_sameness : ByteArray := prog_9_method_3_code
def yX7_sameness : MethodName := ⟨RX7, "sameness", "(II)I"⟩
abbrev cX7_nameLikeness : ByteArray := prog_9_method_4_code
def yX7_nameLikeness : MethodName := ⟨RX7, "nameLikeness", "(III)I"⟩
abbrev cX7_distance : ByteArray := prog_9_method_5_code
def yX7_distance : MethodName := ⟨RX7, "distance", "(IIII)I"⟩
abbrev cX7_kindOf : ByteArray := prog_9_method_6_code
def yX7_kindOf : MethodName := ⟨RX7, "kindOf", "(II)I"⟩
abbrev cX7_nameState : ByteArray := prog_9_method_7_code
def yX7_nameState : MethodName := ⟨RX7, "nameState", "(I)I"⟩
abbrev cX7_agreeing : ByteArray := prog_9_method_8_code
def yX7_agreeing : MethodName := ⟨RX7, "agreeing", "(I)I"⟩
abbrev cX7_weigh : ByteArray := prog_9_method_9_code
def yX7_weigh : MethodName := ⟨RX7, "weigh", "(I)V"⟩
abbrev cX7_reachBound : ByteArray := prog_9_method_10_code
def yX7_reachBound : MethodName := ⟨RX7, "reachBound", "()Z"⟩
def RX8 : String := "VoteRoll$Persons"
def TX8 : u_T := fun k => match k with
  | 0 => ("VoteRoll$Persons", "book", "LVoteRoll$Book;", true)
  | 1 => ("VoteRoll$Persons", "odds", "LVoteRoll$Odds;", true)
  | 2 => ("VoteRoll$Persons", "pairs", "[I", false)
  | 3 => ("VoteRoll$Persons", "kindRank", "[I", true)
  | 4 => ("VoteRoll$Persons", "ranked", "[I", true)
  | 5 => ("VoteRoll$Persons", "rankUpper", "[J", true)
  | 6 => ("VoteRoll$Persons", "rankLower", "[J", true)
  | 7 => ("VoteRoll$Persons", "rankStart", "[I", true)
  | 8 => ("VoteRoll$Persons", "rankedSize", "I", false)
  | 9 => ("VoteRoll$Persons", "pairCount", "I", false)
  | 10 => ("VoteRoll$Persons", "pairsStand", "Z", false)
  | 11 => ("VoteRoll$Persons", "dividedOn", "I", false)
  | 12 => ("VoteRoll$Persons", "masks", "[I", true)
  | 13 => ("VoteRoll$Persons", "once", "I", false)
  | 14 => ("VoteRoll$Persons", "named", "[I", true)
  | 15 => ("VoteRoll$Persons", "size", "I", false)
  | _ => ("VoteRoll$Persons", "quarrels", "I", false)
def tyX8 : Nat → FieldType := fun k => match k with
  | 0 => .object "VoteRoll$Book"
  | 1 => .object "VoteRoll$Odds"
  | 2 => .array .int
  | 3 => .array .int
  | 4 => .array .int
  | 5 => .array .long
  | 6 => .array .long
  | 7 => .array .int
  | 8 => .int
  | 9 => .int
  | 10 => .boolean
  | 11 => .int
  | 12 => .array .int
  | 13 => .int
  | 14 => .array .int
  | 15 => .int
  | _ => .int
abbrev wsX80 : List Cond := u_ws RX8 TX8 17
theorem nmX8 : ∀ a, a < 17 → ∀ b, b < 17 → a ≠ b → (TX8 a).2.1 ≠ (TX8 b).2.1 := by decide +kernel
theorem tyX8_ok : ∀ k, k < 17 → parseFieldDescriptor (TX8 k).2.2.1 = some (tyX8 k) := by decide +kernel
abbrev cX8_init : ByteArray := prog_10_method_1_code
def yX8_init : MethodName := ⟨RX8, "<init>", "(LVoteRoll$Book;LVoteRoll$Odds;)V"⟩
abbrev cX8_forget : ByteArray := prog_10_method_2_code
def yX8_forget : MethodName := ⟨RX8, "forget", "()V"⟩
abbrev cX8_divide : ByteArray := prog_10_method_3_code
def yX8_divide : MethodName := ⟨RX8, "divide", "(I)V"⟩
abbrev cX8_tryPair : ByteArray := prog_10_method_4_code
def yX8_tryPair : MethodName := ⟨RX8, "tryPair", "(II)V"⟩
abbrev cX8_sortPairs : ByteArray := prog_10_method_5_code
def yX8_sortPairs : MethodName := ⟨RX8, "sortPairs", "()V"⟩
abbrev cX8_rankKinds : ByteArray := prog_10_method_6_code
def yX8_rankKinds : MethodName := ⟨RX8, "rankKinds", "()V"⟩
abbrev cX8_insertKind : ByteArray := prog_10_method_7_code
def yX8_insertKind : MethodName := ⟨RX8, "insertKind", "(IJJ)V"⟩
abbrev cX8_isGreater : ByteArray := prog_10_method_8_code
def yX8_isGreater : MethodName := ⟨RX8, "isGreater", "(JJJJ)Z"⟩
def RX9 : String := "VoteRoll$Plan"
def TX9 : u_T := fun k => match k with
  | 0 => ("VoteRoll$Plan", "wished", "[I", true)
  | 1 => ("VoteRoll$Plan", "wishCase", "[I", true)
  | 2 => ("VoteRoll$Plan", "size", "I", false)
  | 3 => ("VoteRoll$Plan", "letterChance", "[I", true)
  | 4 => ("VoteRoll$Plan", "knockChance", "[I", true)
  | 5 => ("VoteRoll$Plan", "letterCost", "I", false)
  | 6 => ("VoteRoll$Plan", "knockCost", "I", false)
  | 7 => ("VoteRoll$Plan", "chosen", "[I", true)
  | 8 => ("VoteRoll$Plan", "plannedSize", "I", false)
  | 9 => ("VoteRoll$Plan", "bestChance", "I", false)
  | 10 => ("VoteRoll$Plan", "bestCost", "I", false)
  | 11 => ("VoteRoll$Plan", "chance", "[I", true)
  | _ => ("VoteRoll$Plan", "row", "[I", true)
def tyX9 : Nat → FieldType := fun k => match k with
  | 0 => .array .int
  | 1 => .array .int
  | 2 => .int
  | 3 => .array .int
  | 4 => .array .int
  | 5 => .int
  | 6 => .int
  | 7 => .array .int
  | 8 => .int
  | 9 => .int
  | 10 => .int
  | 11 => .array .int
  | _ => .array .int
abbrev wsX90 : List Cond := u_ws RX9 TX9 13
theorem nmX9 : ∀ a, a < 13 → ∀ b, b < 13 → a ≠ b → (TX9 a).2.1 ≠ (TX9 b).2.1 := by decide +kernel
theorem tyX9_ok : ∀ k, k < 13 → parseFieldDescriptor (TX9 k).2.2.1 = some (tyX9 k) := by decide +kernel
abbrev cX9_init : ByteArray := prog_11_method_1_code
def yX9_init : MethodName := ⟨RX9, "<init>", "()V"⟩
abbrev cX9_wishes : ByteArray := prog_11_method_2_code
def yX9_wishes : MethodName := ⟨RX9, "wishes", "(I)Z"⟩
abbrev cX9_spend : ByteArray := prog_11_method_3_code
def yX9_spend : MethodName := ⟨RX9, "spend", "(I)V"⟩
abbrev cX9_addWish : ByteArray := prog_11_method_4_code
def yX9_addWish : MethodName := ⟨RX9, "addWish", "(I)V"⟩
abbrev cX9_offer : ByteArray := prog_11_method_5_code
def yX9_offer : MethodName := ⟨RX9, "offer", "(IIII)V"⟩
abbrev cX9_choose : ByteArray := prog_11_method_6_code
def yX9_choose : MethodName := ⟨RX9, "choose", "(I)V"⟩
abbrev cX9_isBetter : ByteArray := prog_11_method_7_code
def yX9_isBetter : MethodName := ⟨RX9, "isBetter", "(III)Z"⟩
def RX10 : String := "VoteRoll$Tape"
def TX10 : u_T := fun k => match k with
  | 0 => ("VoteRoll$Tape", "bytes", "[I", true)
  | 1 => ("VoteRoll$Tape", "size", "I", false)
  | 2 => ("VoteRoll$Tape", "kind", "I", false)
  | 3 => ("VoteRoll$Tape", "from", "I", false)
  | _ => ("VoteRoll$Tape", "to", "I", false)
def tyX10 : Nat → FieldType := fun k => match k with
  | 0 => .array .int
  | 1 => .int
  | 2 => .int
  | 3 => .int
  | _ => .int
abbrev wsX100 : List Cond := u_ws RX10 TX10 5
theorem nmX10 : ∀ a, a < 5 → ∀ b, b < 5 → a ≠ b → (TX10 a).2.1 ≠ (TX10 b).2.1 := by decide +kernel
theorem tyX10_ok : ∀ k, k < 5 → parseFieldDescriptor (TX10 k).2.2.1 = some (tyX10 k) := by decide +kernel
abbrev cX10_init : ByteArray := prog_12_method_1_code
def yX10_init : MethodName := ⟨RX10, "<init>", "()V"⟩
abbrev cX10_put : ByteArray := prog_12_method_2_code
def yX10_put : MethodName := ⟨RX10, "put", "(I)V"⟩
abbrev cX10_rewind : ByteArray := prog_12_method_3_code
def yX10_rewind : MethodName := ⟨RX10, "rewind", "()V"⟩
abbrev cX10_step : ByteArray := prog_12_method_4_code
def yX10_step : MethodName := ⟨RX10, "step", "()V"⟩
abbrev cX10_kindAt : ByteArray := prog_12_method_5_code
def yX10_kindAt : MethodName := ⟨RX10, "kindAt", "(I)I"⟩
abbrev cX10_isWord : ByteArray := prog_12_method_6_code
def yX10_isWord : MethodName := ⟨RX10, "isWord", "(Ljava/lang/String;)Z"⟩
abbrev cX10_isSign : ByteArray := prog_12_method_7_code
def yX10_isSign : MethodName := ⟨RX10, "isSign", "(C)Z"⟩
abbrev cX10_isRow : ByteArray := prog_12_method_8_code
def yX10_isRow : MethodName := ⟨RX10, "isRow", "(I)Z"⟩
abbrev cX10_numberWithin : ByteArray := prog_12_method_9_code
def yX10_numberWithin : MethodName := ⟨RX10, "numberWithin", "(II)I"⟩
def RX11 : String := "VoteRoll"
def TX11 : u_T := fun k => match k with
  | 0 => ("VoteRoll", "tape", "LVoteRoll$Tape;", true)
  | 1 => ("VoteRoll", "liveFolds", "LVoteRoll$Folds;", true)
  | 2 => ("VoteRoll", "draftFolds", "LVoteRoll$Folds;", true)
  | 3 => ("VoteRoll", "liveLaw", "LVoteRoll$Law;", true)
  | 4 => ("VoteRoll", "draftLaw", "LVoteRoll$Law;", true)
  | 5 => ("VoteRoll", "book", "LVoteRoll$Book;", true)
  | 6 => ("VoteRoll", "acts", "LVoteRoll$Acts;", true)
  | 7 => ("VoteRoll", "chancesOfPairs", "LVoteRoll$Odds;", true)
  | 8 => ("VoteRoll", "persons", "LVoteRoll$Persons;", true)
  | 9 => ("VoteRoll", "facts", "LVoteRoll$Facts;", true)
  | 10 => ("VoteRoll", "lineOfPerson", "LVoteRoll$Line;", true)
  | 11 => ("VoteRoll", "draws", "LVoteRoll$Draws;", true)
  | 12 => ("VoteRoll", "planner", "LVoteRoll$Plan;", true)
  | 13 => ("VoteRoll", "faultPlace", "I", false)
  | _ => ("VoteRoll", "refusal", "I", false)
def tyX11 : Nat → FieldType := fun k => match k with
  | 0 => .object "VoteRoll$Tape"
  | 1 => .object "VoteRoll$Folds"
  | 2 => .object "VoteRoll$Folds"
  | 3 => .object "VoteRoll$Law"
  | 4 => .object "VoteRoll$Law"
  | 5 => .object "VoteRoll$Book"
  | 6 => .object "VoteRoll$Acts"
  | 7 => .object "VoteRoll$Odds"
  | 8 => .object "VoteRoll$Persons"
  | 9 => .object "VoteRoll$Facts"
  | 10 => .object "VoteRoll$Line"
  | 11 => .object "VoteRoll$Draws"
  | 12 => .object "VoteRoll$Plan"
  | 13 => .int
  | _ => .int
abbrev wsX110 : List Cond := u_ws RX11 TX11 15
theorem nmX11 : ∀ a, a < 15 → ∀ b, b < 15 → a ≠ b → (TX11 a).2.1 ≠ (TX11 b).2.1 := by decide +kernel
theorem tyX11_ok : ∀ k, k < 15 → parseFieldDescriptor (TX11 k).2.2.1 = some (tyX11 k) := by decide +kernel
abbrev cX11_init : ByteArray := prog_1_method_1_code
def yX11_init : MethodName := ⟨RX11, "<init>", "()V"⟩
abbrev cX11_feed : ByteArray := prog_1_method_2_code
def yX11_feed : MethodName := ⟨RX11, "feed", "(IIIII)I"⟩
abbrev cX11_end : ByteArray := prog_1_method_3_code
def yX11_end : MethodName := ⟨RX11, "end", "(I)I"⟩
abbrev cX11_folds : ByteArray := prog_1_method_4_code
def yX11_folds : MethodName := ⟨RX11, "folds", "()I"⟩
abbrev cX11_law : ByteArray := prog_1_method_5_code
def yX11_law : MethodName := ⟨RX11, "law", "()I"⟩
abbrev cX11_fault : ByteArray := prog_1_method_6_code
def yX11_fault : MethodName := ⟨RX11, "fault", "()I"⟩
abbrev cX11_record : ByteArray := prog_1_method_7_code
def yX11_record : MethodName := ⟨RX11, "record", "(IIIIIII)I"⟩
abbrev cX11_folded : ByteArray := prog_1_method_8_code
def yX11_folded : MethodName := ⟨RX11, "folded", "(III)I"⟩
abbrev cX11_field : ByteArray := prog_1_method_9_code
def yX11_field : MethodName := ⟨RX11, "field", "(III)I"⟩
abbrev cX11_terms : ByteArray := prog_1_method_10_code
def yX11_terms : MethodName := ⟨RX11, "terms", "(IIIIII)I"⟩
abbrev cX11_odds : ByteArray := prog_1_method_11_code
def yX11_odds : MethodName := ⟨RX11, "odds", "(III)J"⟩
abbrev cX11_person : ByteArray := prog_1_method_12_code
def yX11_person : MethodName := ⟨RX11, "person", "(II)I"⟩
abbrev cX11_joined : ByteArray := prog_1_method_13_code
def yX11_joined : MethodName := ⟨RX11, "joined", "(II)I"⟩
abbrev cX11_of : ByteArray := prog_1_method_14_code
def yX11_of : MethodName := ⟨RX11, "of", "(IIII)I"⟩
abbrev cX11_led : ByteArray := prog_1_method_15_code
def yX11_led : MethodName := ⟨RX11, "led", "(IIII)I"⟩
abbrev cX11_hide : ByteArray := prog_1_method_16_code
def yX11_hide : MethodName := ⟨RX11, "hide", "(I)I"⟩
abbrev cX11_act : ByteArray := prog_1_method_17_code
def yX11_act : MethodName := ⟨RX11, "act", "(IIII)I"⟩
abbrev cX11_vote : ByteArray := prog_1_method_18_code
def yX11_vote : MethodName := ⟨RX11, "vote", "(I)I"⟩
abbrev cX11_cause : ByteArray := prog_1_method_19_code
def yX11_cause : MethodName := ⟨RX11, "cause", "(III)I"⟩
abbrev cX11_line : ByteArray := prog_1_method_20_code
def yX11_line : MethodName := ⟨RX11, "line", "(III)I"⟩
abbrev cX11_since : ByteArray := prog_1_method_21_code
def yX11_since : MethodName := ⟨RX11, "since", "(III)I"⟩
abbrev cX11_lacks : ByteArray := prog_1_method_22_code
def yX11_lacks : MethodName := ⟨RX11, "lacks", "(II)I"⟩
abbrev cX11_may : ByteArray := prog_1_method_23_code
def yX11_may : MethodName := ⟨RX11, "may", "(III)I"⟩
abbrev cX11_ward : ByteArray := prog_1_method_24_code
def yX11_ward : MethodName := ⟨RX11, "ward", "(IIII)I"⟩
abbrev cX11_tried : ByteArray := prog_1_method_25_code
def yX11_tried : MethodName := ⟨RX11, "tried", "(III)I"⟩
abbrev cX11_doors : ByteArray := prog_1_method_26_code
def yX11_doors : MethodName := ⟨RX11, "doors", "(IIII)I"⟩
abbrev cX11_missing : ByteArray := prog_1_method_27_code
def yX11_missing : MethodName := ⟨RX11, "missing", "(II)I"⟩
abbrev cX11_luck : ByteArray := prog_1_method_28_code
def yX11_luck : MethodName := ⟨RX11, "luck", "(IIIII)J"⟩
abbrev cX11_chances : ByteArray := prog_1_method_29_code
def yX11_chances : MethodName := ⟨RX11, "chances", "(III)I"⟩
abbrev cX11_costs : ByteArray := prog_1_method_30_code
def yX11_costs : MethodName := ⟨RX11, "costs", "(II)I"⟩
abbrev cX11_wish : ByteArray := prog_1_method_31_code
def yX11_wish : MethodName := ⟨RX11, "wish", "(I)I"⟩
abbrev cX11_clear : ByteArray := prog_1_method_32_code
def yX11_clear : MethodName := ⟨RX11, "clear", "()I"⟩
abbrev cX11_caseOf : ByteArray := prog_1_method_33_code
def yX11_caseOf : MethodName := ⟨RX11, "caseOf", "(III)I"⟩
abbrev cX11_plan : ByteArray := prog_1_method_34_code
def yX11_plan : MethodName := ⟨RX11, "plan", "(III)I"⟩
abbrev cX11_planned : ByteArray := prog_1_method_35_code
def yX11_planned : MethodName := ⟨RX11, "planned", "(I)I"⟩
abbrev cX11_count : ByteArray := prog_1_method_36_code
def yX11_count : MethodName := ⟨RX11, "count", "(I)I"⟩
abbrev cX11_status : ByteArray := prog_1_method_37_code
def yX11_status : MethodName := ⟨RX11, "status", "()I"⟩
abbrev cX11_within : ByteArray := prog_1_method_38_code
def yX11_within : MethodName := ⟨RX11, "within", "(III)Z"⟩
abbrev cX11_isDay : ByteArray := prog_1_method_39_code
def yX11_isDay : MethodName := ⟨RX11, "isDay", "(I)Z"⟩
abbrev cX11_commonDivisor : ByteArray := prog_1_method_40_code
def yX11_commonDivisor : MethodName := ⟨RX11, "commonDivisor", "(JJ)J"⟩
abbrev cX11_refuse : ByteArray := prog_1_method_41_code
def yX11_refuse : MethodName := ⟨RX11, "refuse", "(I)I"⟩
abbrev cX11_accept : ByteArray := prog_1_method_42_code
def yX11_accept : MethodName := ⟨RX11, "accept", "(I)I"⟩
abbrev cX11_lookAt : ByteArray := prog_1_method_43_code
def yX11_lookAt : MethodName := ⟨RX11, "lookAt", "(III)Z"⟩
abbrev cX11_walkAndLook : ByteArray := prog_1_method_44_code
def yX11_walkAndLook : MethodName := ⟨RX11, "walkAndLook", "(I)V"⟩
abbrev cX11_mayVote : ByteArray := prog_1_method_45_code
def yX11_mayVote : MethodName := ⟨RX11, "mayVote", "()Z"⟩
abbrev cX11_lineCounts : ByteArray := prog_1_method_46_code
def yX11_lineCounts : MethodName := ⟨RX11, "lineCounts", "(I)Z"⟩
abbrev cX11_lastTruth : ByteArray := prog_1_method_47_code
def yX11_lastTruth : MethodName := ⟨RX11, "lastTruth", "(II)I"⟩
abbrev cX11_presentCase : ByteArray := prog_1_method_48_code
def yX11_presentCase : MethodName := ⟨RX11, "presentCase", "(I)I"⟩
def RX12 : String := "VoteRollModel"
def TX12 : u_T := fun k => match k with
  | 0 => ("VoteRollModel", "thrown", "I", false)
  | 1 => ("VoteRollModel", "status", "I", false)
  | 2 => ("VoteRollModel", "tape", "[I", true)
  | 3 => ("VoteRollModel", "taped", "I", false)
  | 4 => ("VoteRollModel", "from", "I", false)
  | 5 => ("VoteRollModel", "to", "I", false)
  | 6 => ("VoteRollModel", "sort", "I", false)
  | 7 => ("VoteRollModel", "worth", "J", false)
  | 8 => ("VoteRollModel", "fault", "I", false)
  | 9 => ("VoteRollModel", "bad", "Z", false)
  | 10 => ("VoteRollModel", "folds", "I", false)
  | 11 => ("VoteRollModel", "foldMany", "[I", true)
  | 12 => ("VoteRollModel", "foldLetters", "[I", true)
  | 13 => ("VoteRollModel", "nFolds", "I", false)
  | 14 => ("VoteRollModel", "nMany", "[I", true)
  | 15 => ("VoteRollModel", "nLetters", "[I", true)
  | 16 => ("VoteRollModel", "records", "I", false)
  | 17 => ("VoteRollModel", "rList", "[I", true)
  | 18 => ("VoteRollModel", "rSort", "[I", true)
  | 19 => ("VoteRollModel", "rBirth", "[I", true)
  | 20 => ("VoteRollModel", "rPlace", "[I", true)
  | 21 => ("VoteRollModel", "rNumber", "[I", true)
  | 22 => ("VoteRollModel", "rDay", "[I", true)
  | 23 => ("VoteRollModel", "rKnown", "[I", true)
  | 24 => ("VoteRollModel", "rHidden", "[Z", true)
  | 25 => ("VoteRollModel", "nameMany", "[I", true)
  | 26 => ("VoteRollModel", "nameLetters", "[I", true)
  | 27 => ("VoteRollModel", "folded", "[I", true)
  | 28 => ("VoteRollModel", "foldedMany", "[I", true)
  | 29 => ("VoteRollModel", "far", "[I", true)
  | 30 => ("VoteRollModel", "ms", "[I", true)
  | 31 => ("VoteRollModel", "us", "[I", true)
  | 32 => ("VoteRollModel", "slack", "I", false)
  | 33 => ("VoteRollModel", "priorA", "I", false)
  | 34 => ("VoteRollModel", "priorB", "I", false)
  | 35 => ("VoteRollModel", "boundX", "I", false)
  | 36 => ("VoteRollModel", "boundY", "I", false)
  | 37 => ("VoteRollModel", "once", "I", false)
  | 38 => ("VoteRollModel", "upper", "J", false)
  | 39 => ("VoteRollModel", "lower", "J", false)
  | 40 => ("VoteRollModel", "agreeing", "I", false)
  | 41 => ("VoteRollModel", "known", "I", false)
  | 42 => ("VoteRollModel", "group", "[I", true)
  | 43 => ("VoteRollModel", "lists", "[I", true)
  | 44 => ("VoteRollModel", "quarrels", "I", false)
  | 45 => ("VoteRollModel", "pairMany", "I", false)
  | 46 => ("VoteRollModel", "pairA", "[I", true)
  | 47 => ("VoteRollModel", "pairB", "[I", true)
  | 48 => ("VoteRollModel", "pairUpper", "[J", true)
  | 49 => ("VoteRollModel", "pairLower", "[J", true)
  | 50 => ("VoteRollModel", "order", "[I", true)
  | 51 => ("VoteRollModel", "orderMany", "I", false)
  | 52 => ("VoteRollModel", "clauses", "I", false)
  | 53 => ("VoteRollModel", "ageLaw", "I", false)
  | 54 => ("VoteRollModel", "proof", "I", false)
  | 55 => ("VoteRollModel", "noticeMany", "I", false)
  | 56 => ("VoteRollModel", "noticeDays", "I", false)
  | 57 => ("VoteRollModel", "quiet", "I", false)
  | 58 => ("VoteRollModel", "appeal", "I", false)
  | 59 => ("VoteRollModel", "noDoor", "I", false)
  | 60 => ("VoteRollModel", "abroadLaw", "I", false)
  | 61 => ("VoteRollModel", "causeMany", "I", false)
  | 62 => ("VoteRollModel", "causeLeaves", "I", false)
  | 63 => ("VoteRollModel", "causeOp", "[I", true)
  | 64 => ("VoteRollModel", "causeArg", "[I", true)
  | 65 => ("VoteRollModel", "nClauses", "I", false)
  | 66 => ("VoteRollModel", "nLaw", "[I", true)
  | 67 => ("VoteRollModel", "nCause", "I", false)
  | 68 => ("VoteRollModel", "nLeaves", "I", false)
  | 69 => ("VoteRollModel", "allLeaves", "I", false)
  | 70 => ("VoteRollModel", "nOp", "[I", true)
  | 71 => ("VoteRollModel", "nArg", "[I", true)
  | 72 => ("VoteRollModel", "pile", "[I", true)
  | 73 => ("VoteRollModel", "piled", "I", false)
  | 74 => ("VoteRollModel", "opened", "I", false)
  | 75 => ("VoteRollModel", "rest", "[Z", true)
  | 76 => ("VoteRollModel", "acts", "I", false)
  | 77 => ("VoteRollModel", "aRecord", "[I", true)
  | 78 => ("VoteRollModel", "aSort", "[I", true)
  | 79 => ("VoteRollModel", "aDay", "[I", true)
  | 80 => ("VoteRollModel", "aKnown", "[I", true)
  | 81 => ("VoteRollModel", "votes", "I", false)
  | 82 => ("VoteRollModel", "vDay", "[I", true)
  | 83 => ("VoteRollModel", "line", "I", false)
  | 84 => ("VoteRollModel", "lineSince", "I", false)
  | 85 => ("VoteRollModel", "release", "I", false)
  | 86 => ("VoteRollModel", "struckOn", "I", false)
  | 87 => ("VoteRollModel", "lack", "I", false)
  | 88 => ("VoteRollModel", "dDoors", "[I", true)
  | 89 => ("VoteRollModel", "dDrawn", "[I", true)
  | 90 => ("VoteRollModel", "dMissing", "[I", true)
  | 91 => ("VoteRollModel", "ways", "[J", true)
  | 92 => ("VoteRollModel", "hasWays", "Z", false)
  | 93 => ("VoteRollModel", "chances", "[I", true)
  | 94 => ("VoteRollModel", "letterCost", "I", false)
  | 95 => ("VoteRollModel", "knockCost", "I", false)
  | 96 => ("VoteRollModel", "wishes", "I", false)
  | 97 => ("VoteRollModel", "wRecord", "[I", true)
  | 98 => ("VoteRollModel", "most", "[I", true)
  | 99 => ("VoteRollModel", "least", "[I", true)
  | 100 => ("VoteRollModel", "caseNow", "[I", true)
  | 101 => ("VoteRollModel", "doing", "[I", true)
  | 102 => ("VoteRollModel", "plannedMany", "I", false)
  | _ => ("VoteRollModel", "plannedCost", "I", false)
def tyX12 : Nat → FieldType := fun k => match k with
  | 0 => .int
  | 1 => .int
  | 2 => .array .int
  | 3 => .int
  | 4 => .int
  | 5 => .int
  | 6 => .int
  | 7 => .long
  | 8 => .int
  | 9 => .boolean
  | 10 => .int
  | 11 => .array .int
  | 12 => .array .int
  | 13 => .int
  | 14 => .array .int
  | 15 => .array .int
  | 16 => .int
  | 17 => .array .int
  | 18 => .array .int
  | 19 => .array .int
  | 20 => .array .int
  | 21 => .array .int
  | 22 => .array .int
  | 23 => .array .int
  | 24 => .array .boolean
  | 25 => .array .int
  | 26 => .array .int
  | 27 => .array .int
  | 28 => .array .int
  | 29 => .array .int
  | 30 => .array .int
  | 31 => .array .int
  | 32 => .int
  | 33 => .int
  | 34 => .int
  | 35 => .int
  | 36 => .int
  | 37 => .int
  | 38 => .long
  | 39 => .long
  | 40 => .int
  | 41 => .int
  | 42 => .array .int
  | 43 => .array .int
  | 44 => .int
  | 45 => .int
  | 46 => .array .int
  | 47 => .array .int
  | 48 => .array .long
  | 49 => .array .long
  | 50 => .array .int
  | 51 => .int
  | 52 => .int
  | 53 => .int
  | 54 => .int
  | 55 => .int
  | 56 => .int
  | 57 => .int
  | 58 => .int
  | 59 => .int
  | 60 => .int
  | 61 => .int
  | 62 => .int
  | 63 => .array .int
  | 64 => .array .int
  | 65 => .int
  | 66 => .array .int
  | 67 => .int
  | 68 => .int
  | 69 => .int
  | 70 => .array .int
  | 71 => .array .int
  | 72 => .array .int
  | 73 => .int
  | 74 => .int
  | 75 => .array .boolean
  | 76 => .int
  | 77 => .array .int
  | 78 => .array .int
  | 79 => .array .int
  | 80 => .array .int
  | 81 => .int
  | 82 => .array .int
  | 83 => .int
  | 84 => .int
  | 85 => .int
  | 86 => .int
  | 87 => .int
  | 88 => .array .int
  | 89 => .array .int
  | 90 => .array .int
  | 91 => .array .long
  | 92 => .boolean
  | 93 => .array .int
  | 94 => .int
  | 95 => .int
  | 96 => .int
  | 97 => .array .int
  | 98 => .array .int
  | 99 => .array .int
  | 100 => .array .int
  | 101 => .array .int
  | 102 => .int
  | _ => .int
abbrev wsX120 : List Cond := u_ws RX12 TX12 104
theorem nmX12 : ∀ a, a < 104 → ∀ b, b < 104 → a ≠ b → (TX12 a).2.1 ≠ (TX12 b).2.1 := by decide +kernel
theorem tyX12_ok : ∀ k, k < 104 → parseFieldDescriptor (TX12 k).2.2.1 = some (tyX12 k) := by decide +kernel
abbrev cX12_init : ByteArray := prog_14_method_1_code
def yX12_init : MethodName := ⟨RX12, "<init>", "()V"⟩
abbrev cX12_in : ByteArray := prog_14_method_3_code
def yX12_in : MethodName := ⟨RX12, "in", "(JJJ)Z"⟩
abbrev cX12_told : ByteArray := prog_14_method_4_code
def yX12_told : MethodName := ⟨RX12, "told", "(I)I"⟩
abbrev cX12_isDay : ByteArray := prog_14_method_5_code
def yX12_isDay : MethodName := ⟨RX12, "isDay", "(I)Z"⟩
abbrev cX12_four : ByteArray := prog_14_method_6_code
def yX12_four : MethodName := ⟨RX12, "four", "(I)V"⟩
abbrev cX12_feed : ByteArray := prog_14_method_7_code
def yX12_feed : MethodName := ⟨RX12, "feed", "(IIIII)I"⟩
abbrev cX12_end : ByteArray := prog_14_method_8_code
def yX12_end : MethodName := ⟨RX12, "end", "(I)I"⟩
abbrev cX12_isSmall : ByteArray := prog_14_method_9_code
def yX12_isSmall : MethodName := ⟨RX12, "isSmall", "(I)Z"⟩
abbrev cX12_isDigit : ByteArray := prog_14_method_10_code
def yX12_isDigit : MethodName := ⟨RX12, "isDigit", "(I)Z"⟩
abbrev cX12_begin : ByteArray := prog_14_method_11_code
def yX12_begin : MethodName := ⟨RX12, "begin", "()V"⟩
abbrev cX12_next : ByteArray := prog_14_method_12_code
def yX12_next : MethodName := ⟨RX12, "next", "()V"⟩
abbrev cX12_isWord : ByteArray := prog_14_method_13_code
def yX12_isWord : MethodName := ⟨RX12, "isWord", "(IIIIII)Z"⟩
abbrev cX12_isSign : ByteArray := prog_14_method_14_code
def yX12_isSign : MethodName := ⟨RX12, "isSign", "(I)Z"⟩
abbrev cX12_must : ByteArray := prog_14_method_15_code
def yX12_must : MethodName := ⟨RX12, "must", "(Z)V"⟩
abbrev cX12_number : ByteArray := prog_14_method_16_code
def yX12_number : MethodName := ⟨RX12, "number", "(JJ)I"⟩
abbrev cX12_fault : ByteArray := prog_14_method_17_code
def yX12_fault : MethodName := ⟨RX12, "fault", "()I"⟩
abbrev cX12_readSide : ByteArray := prog_14_method_18_code
def yX12_readSide : MethodName := ⟨RX12, "readSide", "(I)V"⟩
abbrev cX12_readPair : ByteArray := prog_14_method_19_code
def yX12_readPair : MethodName := ⟨RX12, "readPair", "()V"⟩
abbrev cX12_folds : ByteArray := prog_14_method_20_code
def yX12_folds : MethodName := ⟨RX12, "folds", "()I"⟩
abbrev cX12_isRecord : ByteArray := prog_14_method_21_code
def yX12_isRecord : MethodName := ⟨RX12, "isRecord", "(I)Z"⟩
abbrev cX12_readName : ByteArray := prog_14_method_22_code
def yX12_readName : MethodName := ⟨RX12, "readName", "(I)V"⟩
abbrev cX12_record : ByteArray := prog_14_method_23_code
def yX12_record : MethodName := ⟨RX12, "record", "(IIIIIII)I"⟩
abbrev cX12_hide : ByteArray := prog_14_method_24_code
def yX12_hide : MethodName := ⟨RX12, "hide", "(I)I"⟩
abbrev cX12_stands : ByteArray := prog_14_method_25_code
def yX12_stands : MethodName := ⟨RX12, "stands", "(III)Z"⟩
abbrev cX12_fold : ByteArray := prog_14_method_26_code
def yX12_fold : MethodName := ⟨RX12, "fold", "(II)V"⟩
abbrev cX12_folded : ByteArray := prog_14_method_27_code
def yX12_folded : MethodName := ⟨RX12, "folded", "(III)I"⟩
abbrev cX12_distance : ByteArray := prog_14_method_28_code
def yX12_distance : MethodName := ⟨RX12, "distance", "()I"⟩
abbrev cX12_field : ByteArray := prog_14_method_29_code
def yX12_field : MethodName := ⟨RX12, "field", "(III)I"⟩
abbrev cX12_terms : ByteArray := prog_14_method_30_code
def yX12_terms : MethodName := ⟨RX12, "terms", "(IIIIII)I"⟩
abbrev cX12_sameOf : ByteArray := prog_14_method_31_code
def yX12_sameOf : MethodName := ⟨RX12, "sameOf", "(II)I"⟩
abbrev cX12_state : ByteArray := prog_14_method_32_code
def yX12_state : MethodName := ⟨RX12, "state", "(III)I"⟩
abbrev cX12_common : ByteArray := prog_14_method_33_code
def yX12_common : MethodName := ⟨RX12, "common", "(JJ)J"⟩
abbrev cX12_findOdds : ByteArray := prog_14_method_34_code
def yX12_findOdds : MethodName := ⟨RX12, "findOdds", "(II)V"⟩
abbrev cX12_odds : ByteArray := prog_14_method_35_code
def yX12_odds : MethodName := ⟨RX12, "odds", "(III)J"⟩
abbrev cX12_compare : ByteArray := prog_14_method_36_code
def yX12_compare : MethodName := ⟨RX12, "compare", "(JJJJ)I"⟩
abbrev cX12_find : ByteArray := prog_14_method_37_code
def yX12_find : MethodName := ⟨RX12, "find", "(I)V"⟩
abbrev cX12_putInOrder : ByteArray := prog_14_method_38_code
def yX12_putInOrder : MethodName := ⟨RX12, "putInOrder", "(I)V"⟩
abbrev cX12_addPair : ByteArray := prog_14_method_39_code
def yX12_addPair : MethodName := ⟨RX12, "addPair", "(II)V"⟩
abbrev cX12_isAhead : ByteArray := prog_14_method_40_code
def yX12_isAhead : MethodName := ⟨RX12, "isAhead", "(III)Z"⟩
abbrev cX12_join : ByteArray := prog_14_method_41_code
def yX12_join : MethodName := ⟨RX12, "join", "(II)V"⟩
abbrev cX12_person : ByteArray := prog_14_method_42_code
def yX12_person : MethodName := ⟨RX12, "person", "(II)I"⟩
abbrev cX12_joined : ByteArray := prog_14_method_43_code
def yX12_joined : MethodName := ⟨RX12, "joined", "(II)I"⟩
abbrev cX12_isLife : ByteArray := prog_14_method_44_code
def yX12_isLife : MethodName := ⟨RX12, "isLife", "(I)Z"⟩
abbrev cX12_born : ByteArray := prog_14_method_45_code
def yX12_born : MethodName := ⟨RX12, "born", "(I)I"⟩
abbrev cX12_homeRecord : ByteArray := prog_14_method_46_code
def yX12_homeRecord : MethodName := ⟨RX12, "homeRecord", "(II)I"⟩
abbrev cX12_home : ByteArray := prog_14_method_47_code
def yX12_home : MethodName := ⟨RX12, "home", "(II)I"⟩
abbrev cX12_abroadRecord : ByteArray := prog_14_method_48_code
def yX12_abroadRecord : MethodName := ⟨RX12, "abroadRecord", "(II)I"⟩
abbrev cX12_lastOf : ByteArray := prog_14_method_49_code
def yX12_lastOf : MethodName := ⟨RX12, "lastOf", "(III)I"⟩
abbrev cX12_isDead : ByteArray := prog_14_method_50_code
def yX12_isDead : MethodName := ⟨RX12, "isDead", "(II)Z"⟩
abbrev cX12_heard : ByteArray := prog_14_method_51_code
def yX12_heard : MethodName := ⟨RX12, "heard", "(II)I"⟩
abbrev cX12_wardOf : ByteArray := prog_14_method_52_code
def yX12_wardOf : MethodName := ⟨RX12, "wardOf", "(II)I"⟩
abbrev cX12_of : ByteArray := prog_14_method_53_code
def yX12_of : MethodName := ⟨RX12, "of", "(IIII)I"⟩
abbrev cX12_led : ByteArray := prog_14_method_54_code
def yX12_led : MethodName := ⟨RX12, "led", "(IIII)I"⟩
abbrev cX12_emit : ByteArray := prog_14_method_55_code
def yX12_emit : MethodName := ⟨RX12, "emit", "(II)V"⟩
abbrev cX12_settle : ByteArray := prog_14_method_56_code
def yX12_settle : MethodName := ⟨RX12, "settle", "(I)V"⟩
abbrev cX12_binds : ByteArray := prog_14_method_57_code
def yX12_binds : MethodName := ⟨RX12, "binds", "(I)I"⟩
abbrev cX12_leafAt : ByteArray := prog_14_method_58_code
def yX12_leafAt : MethodName := ⟨RX12, "leafAt", "()I"⟩
abbrev cX12_readFact : ByteArray := prog_14_method_59_code
def yX12_readFact : MethodName := ⟨RX12, "readFact", "()Z"⟩
abbrev cX12_readCause : ByteArray := prog_14_method_60_code
def yX12_readCause : MethodName := ⟨RX12, "readCause", "()V"⟩
abbrev cX12_clauseAt : ByteArray := prog_14_method_61_code
def yX12_clauseAt : MethodName := ⟨RX12, "clauseAt", "()I"⟩
abbrev cX12_readClause : ByteArray := prog_14_method_62_code
def yX12_readClause : MethodName := ⟨RX12, "readClause", "()V"⟩
abbrev cX12_law : ByteArray := prog_14_method_63_code
def yX12_law : MethodName := ⟨RX12, "law", "()I"⟩
abbrev cX12_isYoung : ByteArray := prog_14_method_64_code
def yX12_isYoung : MethodName := ⟨RX12, "isYoung", "(II)Z"⟩
abbrev cX12_isAway : ByteArray := prog_14_method_65_code
def yX12_isAway : MethodName := ⟨RX12, "isAway", "(II)Z"⟩
abbrev cX12_isDouble : ByteArray := prog_14_method_66_code
def yX12_isDouble : MethodName := ⟨RX12, "isDouble", "(II)Z"⟩
abbrev cX12_fact : ByteArray := prog_14_method_67_code
def yX12_fact : MethodName := ⟨RX12, "fact", "(IIII)Z"⟩
abbrev cX12_holds : ByteArray := prog_14_method_68_code
def yX12_holds : MethodName := ⟨RX12, "holds", "(II)Z"⟩
abbrev cX12_cause : ByteArray := prog_14_method_69_code
def yX12_cause : MethodName := ⟨RX12, "cause", "(III)I"⟩
abbrev cX12_act : ByteArray := prog_14_method_70_code
def yX12_act : MethodName := ⟨RX12, "act", "(IIII)I"⟩
abbrev cX12_vote : ByteArray := prog_14_method_71_code
def yX12_vote : MethodName := ⟨RX12, "vote", "(I)I"⟩
abbrev cX12_isAct : ByteArray := prog_14_method_72_code
def yX12_isAct : MethodName := ⟨RX12, "isAct", "(III)Z"⟩
abbrev cX12_goLine : ByteArray := prog_14_method_73_code
def yX12_goLine : MethodName := ⟨RX12, "goLine", "(III)V"⟩
abbrev cX12_isBehind : ByteArray := prog_14_method_74_code
def yX12_isBehind : MethodName := ⟨RX12, "isBehind", "(IIII)Z"⟩
abbrev cX12_free : ByteArray := prog_14_method_75_code
def yX12_free : MethodName := ⟨RX12, "free", "(II)V"⟩
abbrev cX12_event : ByteArray := prog_14_method_76_code
def yX12_event : MethodName := ⟨RX12, "event", "(III)V"⟩
abbrev cX12_ask : ByteArray := prog_14_method_77_code
def yX12_ask : MethodName := ⟨RX12, "ask", "(II)V"⟩
abbrev cX12_lacksOn : ByteArray := prog_14_method_78_code
def yX12_lacksOn : MethodName := ⟨RX12, "lacksOn", "(II)I"⟩
abbrev cX12_isNotice : ByteArray := prog_14_method_79_code
def yX12_isNotice : MethodName := ⟨RX12, "isNotice", "(III)Z"⟩
abbrev cX12_isAnswered : ByteArray := prog_14_method_80_code
def yX12_isAnswered : MethodName := ⟨RX12, "isAnswered", "(II)Z"⟩
abbrev cX12_canAsk : ByteArray := prog_14_method_81_code
def yX12_canAsk : MethodName := ⟨RX12, "canAsk", "(III)Z"⟩
abbrev cX12_line : ByteArray := prog_14_method_82_code
def yX12_line : MethodName := ⟨RX12, "line", "(III)I"⟩
abbrev cX12_since : ByteArray := prog_14_method_83_code
def yX12_since : MethodName := ⟨RX12, "since", "(III)I"⟩
abbrev cX12_lacks : ByteArray := prog_14_method_84_code
def yX12_lacks : MethodName := ⟨RX12, "lacks", "(II)I"⟩
abbrev cX12_mayVote : ByteArray := prog_14_method_85_code
def yX12_mayVote : MethodName := ⟨RX12, "mayVote", "(II)Z"⟩
abbrev cX12_may : ByteArray := prog_14_method_86_code
def yX12_may : MethodName := ⟨RX12, "may", "(III)I"⟩
abbrev cX12_ward : ByteArray := prog_14_method_87_code
def yX12_ward : MethodName := ⟨RX12, "ward", "(IIII)I"⟩
abbrev cX12_tried : ByteArray := prog_14_method_88_code
def yX12_tried : MethodName := ⟨RX12, "tried", "(III)I"⟩
abbrev cX12_doors : ByteArray := prog_14_method_89_code
def yX12_doors : MethodName := ⟨RX12, "doors", "(IIII)I"⟩
abbrev cX12_choose : ByteArray := prog_14_method_90_code
def yX12_choose : MethodName := ⟨RX12, "choose", "(II)J"⟩
abbrev cX12_can : ByteArray := prog_14_method_91_code
def yX12_can : MethodName := ⟨RX12, "can", "(IIZ)Z"⟩
abbrev cX12_guessed : ByteArray := prog_14_method_92_code
def yX12_guessed : MethodName := ⟨RX12, "guessed", "(I)I"⟩
abbrev cX12_missing : ByteArray := prog_14_method_93_code
def yX12_missing : MethodName := ⟨RX12, "missing", "(II)I"⟩
abbrev cX12_luck : ByteArray := prog_14_method_94_code
def yX12_luck : MethodName := ⟨RX12, "luck", "(IIIII)J"⟩
abbrev cX12_chances : ByteArray := prog_14_method_95_code
def yX12_chances : MethodName := ⟨RX12, "chances", "(III)I"⟩
abbrev cX12_costs : ByteArray := prog_14_method_96_code
def yX12_costs : MethodName := ⟨RX12, "costs", "(II)I"⟩
abbrev cX12_wish : ByteArray := prog_14_method_97_code
def yX12_wish : MethodName := ⟨RX12, "wish", "(I)I"⟩
abbrev cX12_clear : ByteArray := prog_14_method_98_code
def yX12_clear : MethodName := ⟨RX12, "clear", "()I"⟩
abbrev cX12_caseAt : ByteArray := prog_14_method_99_code
def yX12_caseAt : MethodName := ⟨RX12, "caseAt", "(II)I"⟩
abbrev cX12_caseOf : ByteArray := prog_14_method_100_code
def yX12_caseOf : MethodName := ⟨RX12, "caseOf", "(III)I"⟩
abbrev cX12_costOf : ByteArray := prog_14_method_101_code
def yX12_costOf : MethodName := ⟨RX12, "costOf", "(I)I"⟩
abbrev cX12_chanceOf : ByteArray := prog_14_method_102_code
def yX12_chanceOf : MethodName := ⟨RX12, "chanceOf", "(II)I"⟩
abbrev cX12_at : ByteArray := prog_14_method_103_code
def yX12_at : MethodName := ⟨RX12, "at", "(II)I"⟩
abbrev cX12_plan : ByteArray := prog_14_method_104_code
def yX12_plan : MethodName := ⟨RX12, "plan", "(III)I"⟩
abbrev cX12_isBest : ByteArray := prog_14_method_105_code
def yX12_isBest : MethodName := ⟨RX12, "isBest", "(III)Z"⟩
abbrev cX12_planned : ByteArray := prog_14_method_106_code
def yX12_planned : MethodName := ⟨RX12, "planned", "(I)I"⟩
abbrev cX12_count : ByteArray := prog_14_method_107_code
def yX12_count : MethodName := ⟨RX12, "count", "(I)I"⟩
abbrev cX12_status : ByteArray := prog_14_method_108_code
def yX12_status : MethodName := ⟨RX12, "status", "()I"⟩
def RL : String := "VoteRollLaw"
abbrev cL_law : ByteArray := code
def yL_law : MethodName := ⟨RL, "law", "([I)Z"⟩
abbrev vwCl : List vw_C := [(RX0, TX0, 8), (RX1, TX1, 14), (RX2, TX2, 7), (RX3, TX3, 18), (RX4, TX4, 5), (RX5, TX5, 6), (RX6, TX6, 7), (RX7, TX7, 14), (RX8, TX8, 17), (RX9, TX9, 13), (RX10, TX10, 5), (RX11, TX11, 15), (RX12, TX12, 104)]
/-- words picked out of a list by their places -/
theorem pk_in_of {big ws : List Cond} (ps : List Nat) (hp : ws = ps.filterMap (fun i => big[i]?)) : ∀ w ∈ ws, w ∈ big := by
  intro w hw
  rw [hp] at hw
  obtain ⟨i, -, hi⟩ := List.mem_filterMap.mp hw
  exact List.mem_of_getElem? hi
/-- the words that a call hands on -/
def gl : List Cond := lw_tbl.filter goodWord
theorem gl_in {w : Cond} (h : w ∈ lw_tbl) (g : goodWord w = true) : w ∈ gl := List.mem_filter.mpr ⟨h, g⟩
theorem gl_at (i : Nat) {w : Cond} (h : lw_tbl[i]? = some w) (g : goodWord w = true) : w ∈ gl := gl_in (List.mem_of_getElem? h) g
theorem gl_sub {w : Cond} (h : w ∈ gl) : w ∈ lw_tbl := (List.mem_filter.mp h).1
theorem gl_ws {ws : List Cond} (ps : List Nat) (hp : ws = ps.filterMap (fun i => lw_tbl[i]?)) (g : ws.all goodWord = true) : ∀ w ∈ ws, w ∈ gl := fun w h => gl_in (pk_in_of ps hp w h) (List.all_eq_true.mp g w h)
set_option maxRecDepth 20000 in
theorem inX0 : ∀ w ∈ wsX00, w ∈ gl := gl_ws [343, 345, 347, 349, 351, 353, 355, 357] (by decide +kernel) (by decide +kernel)
set_option maxRecDepth 20000 in
theorem inX1 : ∀ w ∈ wsX10, w ∈ gl := gl_ws [284, 286, 288, 290, 292, 294, 296, 298, 300, 302, 304, 306, 308, 310] (by decide +kernel) (by decide +kernel)
set_option maxRecDepth 20000 in
theorem inX2 : ∀ w ∈ wsX20, w ∈ gl := gl_ws [611, 613, 615, 617, 619, 621, 623] (by decide +kernel) (by decide +kernel)
set_option maxRecDepth 20000 in
theorem inX3 : ∀ w ∈ wsX30, w ∈ gl := gl_ws [525, 527, 529, 531, 533, 535, 537, 539, 541, 543, 545, 547, 549, 551, 553, 555, 557, 559] (by decide +kernel) (by decide +kernel)
set_option maxRecDepth 20000 in
theorem inX4 : ∀ w ∈ wsX40, w ∈ gl := gl_ws [181, 183, 185, 187, 189] (by decide +kernel) (by decide +kernel)
set_option maxRecDepth 20000 in
theorem inX5 : ∀ w ∈ wsX50, w ∈ gl := gl_ws [220, 222, 224, 226, 228, 230] (by decide +kernel) (by decide +kernel)
set_option maxRecDepth 20000 in
theorem inX6 : ∀ w ∈ wsX60, w ∈ gl := gl_ws [578, 580, 582, 584, 586, 588, 590] (by decide +kernel) (by decide +kernel)
set_option maxRecDepth 20000 in
theorem inX7 : ∀ w ∈ wsX70, w ∈ gl := gl_ws [392, 394, 396, 398, 400, 402, 404, 406, 408, 410, 412, 414, 416, 418] (by decide +kernel) (by decide +kernel)
set_option maxRecDepth 20000 in
theorem inX8 : ∀ w ∈ wsX80, w ∈ gl := gl_ws [450, 452, 454, 456, 458, 460, 462, 464, 466, 468, 470, 472, 474, 476, 478, 480, 482] (by decide +kernel) (by decide +kernel)
set_option maxRecDepth 20000 in
theorem inX9 : ∀ w ∈ wsX90, w ∈ gl := gl_ws [656, 658, 660, 662, 664, 666, 668, 670, 672, 674, 676, 678, 680] (by decide +kernel) (by decide +kernel)
set_option maxRecDepth 20000 in
theorem inX10 : ∀ w ∈ wsX100, w ∈ gl := gl_ws [157, 159, 161, 163, 165] (by decide +kernel) (by decide +kernel)
set_option maxRecDepth 20000 in
theorem inX11 : ∀ w ∈ wsX110, w ∈ gl := gl_ws [698, 700, 702, 704, 706, 708, 710, 712, 714, 716, 718, 720, 722, 724, 726] (by decide +kernel) (by decide +kernel)
set_option maxRecDepth 20000 in
theorem inX12 : ∀ w ∈ wsX120, w ∈ gl := gl_ws [1508, 1510, 1512, 1514, 1516, 1518, 1520, 1522, 1524, 1526, 1528, 1530, 1532, 1534, 1536, 1538, 1540, 1542, 1544, 1546, 1548, 1550, 1552, 1554, 1556, 1558, 1560, 1562, 1564, 1566, 1568, 1570, 1572, 1574, 1576, 1578, 1580, 1582, 1584, 1586, 1588, 1590, 1592, 1594, 1596, 1598, 1600, 1602, 1604, 1606, 1608, 1610, 1612, 1614, 1616, 1618, 1620, 1622, 1624, 1626, 1628, 1630, 1632, 1634, 1636, 1638, 1640, 1642, 1644, 1646, 1648, 1650, 1652, 1654, 1656, 1658, 1660, 1662, 1664, 1666, 1668, 1670, 1672, 1674, 1676, 1678, 1680, 1682, 1684, 1686, 1688, 1690, 1692, 1694, 1696, 1698, 1700, 1702, 1704, 1706, 1708, 1710, 1712, 1714] (by decide +kernel) (by decide +kernel)
end
section
abbrev wk (y : MethodName) (b : ByteArray) (n : Nat) (r : Option FieldType) : List Cond := .code y b n r :: gl
theorem gd_w {w : Cond} (h : w ∈ gl) : w ∈ gl ∧ ((w.onTables && w.keeps) = true ∨ ∃ ty, w = .arrayClass ty) := ⟨h, good_of_word (List.mem_filter.mp h).2⟩
theorem gd_k {y : MethodName} {b : ByteArray} {n : Nat} {r : Option FieldType} (h : Cond.code y b n r ∈ gl) : GoodIn gl (wk y b n r) := fun w hw => (List.mem_cons.mp hw).elim (fun e => by rw [e]; exact gd_w h) gd_w
theorem gd_V {own : String} {idx : Nat} {C : String} {y : MethodName} {b : ByteArray} {n : Nat} {r : Option FieldType} (h0 : Cond.methodLink own idx y ∈ gl) (h1 : Cond.instanceMethod y ∈ gl) (h2 : Cond.selects C y y ∈ gl) (h3 : Cond.initialized C ∈ gl) (h4 : Cond.code y b n r ∈ gl) : GoodIn gl (wsV own idx C y (wk y b n r)) := by
  intro w hw
  rcases List.mem_append.mp hw with h | h
  · simp only [List.mem_cons, List.not_mem_nil, or_false] at h
    rcases h with rfl | rfl | rfl | rfl
    · exact gd_w h0
    · exact gd_w h1
    · exact gd_w h2
    · exact gd_w h3
  · exact gd_k h4 w h
theorem gd_S {own : String} {idx : Nat} {y : MethodName} {b : ByteArray} {n : Nat} {r : Option FieldType} (h0 : Cond.methodLink own idx y ∈ gl) (h1 : Cond.static y ∈ gl) (h3 : Cond.initialized y.cls ∈ gl) (h4 : Cond.code y b n r ∈ gl) : GoodIn gl (va_wsS own idx y (wk y b n r)) := by
  intro w hw
  rcases List.mem_append.mp hw with h | h
  · simp only [List.mem_cons, List.not_mem_nil, or_false] at h
    rcases h with rfl | rfl | rfl
    · exact gd_w h0
    · exact gd_w h1
    · exact gd_w h3
  · exact gd_k h4 w h
abbrev TY (ct : Nat → ClassId) : List (ClassId × FieldType) := [(ct 0, .byte), (ct 1, .int), (ct 2, .long), (ct 3, .short), (ct 4, .boolean)]
/-- the calls of a nest mate's private method -/
def nwl : List (String × Nat × MethodName × String) := [("VoteRoll$Tape", 52, yX11_within, "VoteRoll"), ("VoteRoll$Odds", 111, yX11_commonDivisor, "VoteRoll"), ("VoteRoll$Line", 127, yX11_within, "VoteRoll"), ("VoteRoll$Draws", 55, yX11_commonDivisor, "VoteRoll")]
/-- what the tables say: the classes, the arrays' classes, the nest mates -/
def KK (D : va_G) (ct : Nat → ClassId) (U : State) : Prop := va_K D vwCl (TY ct) U ∧ ∀ w ∈ nwl, va_Nw (.methodLinkNest w.1 w.2.1 w.2.2.1 w.2.2.2) U
theorem KK.warm {D : va_G} {ct : Nat → ClassId} {s U : State} (hW : s.WarmedH U.vm) (h : KK D ct s) : KK D ct U := ⟨va_K.moved hW.alike h.1, fun w hw => va_Nw.warmM hW (h.2 w hw)⟩
theorem KK.same {D : va_G} {ct : Nat → ClassId} {s U : State} (hW : s.vm = U.vm) (h : KK D ct s) : KK D ct U := ⟨va_K.moved (by rw [hW]; exact Vm.Alike.refl U.vm) h.1, fun w hw => va_Nw.same rfl hW (h.2 w hw)⟩
/-- the world of a method that writes -/
def Wd (D : va_G) (ws : va_W) (ct : Nat → ClassId) (sz : Nat) : State → Prop := fun U => U.heap.size = sz ∧ va_P D vwCl ws U.heap ∧ KK D ct U ∧ va_D (fun _ => True) ws
theorem Wd_blind {D : va_G} {ws : va_W} {ct : Nat → ClassId} {sz : Nat} {av : List Value} : FrameBlind (va_Pc av (Wd D ws ct sz)) := fun a U g mk q => by
  obtain ⟨q0, q1, qP, qK, qD⟩ := q
  exact ⟨q0, q1, qP, KK.same (s := U) (U := U.calling g mk a) rfl qK, qD⟩
theorem Wd_S {D : va_G} {A : Nat → Prop} {ws : va_W} {ct : Nat → ClassId} {av : List Value} {s : State} {H : Heap} (hP : va_P D vwCl ws H) (hK : KK D ct s) (hD : va_D A ws) : PreS s H (va_Pc av (Wd D ws ct H.size)) av :=
  ⟨Wd_blind, fun U hU hW => ⟨rfl, by rw [hU], by rw [hU]; exact hP, KK.warm hW hK, hD.weaken (fun _ _ _ _ => trivial)⟩⟩
theorem Wd_V {D : va_G} {A : Nat → Prop} {ws : va_W} {ct : Nat → ClassId} {As : List Value} {s : State} {H : Heap} {C : String} {b : Addr} (hP : va_P D vwCl ws H) (hK : KK D ct s) (hD : va_D A ws) (hr : ∃ cellB : Cell, H[b]? = some cellB ∧ cellB.vm.isStatics = false ∧ s.vm.findClass C = some cellB.cls) : PreV s H C b (va_Pc (.ref b :: As) (Wd D ws ct H.size)) As :=
  ⟨Wd_blind, hr, fun U hU hW => ⟨rfl, by rw [hU], by rw [hU]; exact hP, KK.warm hW hK, hD.weaken (fun _ _ _ _ => trivial)⟩⟩
/-- the world of a method that only reads -/
def Wr (D : va_G) (ws : va_W) (ct : Nat → ClassId) : State → Prop := fun U => va_P D vwCl ws U.heap ∧ KK D ct U
theorem Wr_blind {D : va_G} {ws : va_W} {ct : Nat → ClassId} {av : List Value} : FrameBlind (va_Pc av (Wr D ws ct)) := fun a U g mk q => by
  obtain ⟨q0, qP, qK⟩ := q
  exact ⟨q0, qP, KK.same (s := U) (U := U.calling g mk a) rfl qK⟩
theorem Wr_S {D : va_G} {ws : va_W} {ct : Nat → ClassId} {av : List Value} {s : State} {H : Heap} (hP : va_P D vwCl ws H) (hK : KK D ct s) : PreS s H (va_Pc av (Wr D ws ct)) av :=
  ⟨Wr_blind, fun U hU hW => ⟨rfl, by rw [hU]; exact hP, KK.warm hW hK⟩⟩
theorem Wr_V {D : va_G} {ws : va_W} {ct : Nat → ClassId} {As : List Value} {s : State} {H : Heap} {C : String} {b : Addr} (hP : va_P D vwCl ws H) (hK : KK D ct s) (hr : ∃ cellB : Cell, H[b]? = some cellB ∧ cellB.vm.isStatics = false ∧ s.vm.findClass C = some cellB.cls) : PreV s H C b (va_Pc (.ref b :: As) (Wr D ws ct)) As :=
  ⟨Wr_blind, hr, fun U hU hW => ⟨rfl, by rw [hU]; exact hP, KK.warm hW hK⟩⟩
/-- the end of a method that writes nothing -/
def zI (post : Int32 → Prop) : Array Value → State → Outcome → State → Prop := fun _ st oc t => ∃ r : Int32, oc = .returned (some (.int r)) ∧ post r ∧ t.heap = st.heap
def zL (post : Int64 → Prop) : Array Value → State → Outcome → State → Prop := fun _ st oc t => ∃ r : Int64, oc = .returned (some (.long r)) ∧ post r ∧ t.heap = st.heap
section Zc
variable {p : Program} {l : Launch} {e : Env} {R : Room} {s : State} {m : MethodId} {args : Array Value} {below : List Frame} {meth : Method} {c : Code} {H : Heap} {locs : List Loc} {cells slots : Nat} {Q : State → Prop}
variable {pc : Nat} {ls : Array Slot} {rest st0 : List Value} {a : Array Value}
theorem z_calli {post : Int32 → Prop} (hr : va_Run p l e R s m args below meth c H locs cells slots 0 0 (F0 m pc ls st0) rest (zI post a) (fun _ => False))
    (kk : ∀ r : Int32, post r → W p l e R s m args below meth c H locs cells slots Q (F0 m (pc + 3) ls (.int r :: rest))) : W p l e R s m args below meth c H locs cells slots Q (F0 m pc ls st0) := by
  intro T hT X
  obtain ⟨v, st₀, t, T', L, h0, X', hL, e1, e2, ⟨r, hv, hp, hh⟩, st⟩ := hr T hT X
  cases hv
  obtain ⟨t2, a1, b1⟩ := kk r hp T' (by rw [e1, hh, h0]) (Stand.forget X' (fun q h => (hL q h).elim))
  exact ⟨t2, st t2 a1, b1⟩
theorem z_calll {post : Int64 → Prop} (hr : va_Run p l e R s m args below meth c H locs cells slots 0 0 (F0 m pc ls st0) rest (zL post a) (fun _ => False))
    (kk : ∀ r : Int64, post r → W p l e R s m args below meth c H locs cells slots Q (F0 m (pc + 3) ls (.long r :: rest))) : W p l e R s m args below meth c H locs cells slots Q (F0 m pc ls st0) := by
  intro T hT X
  obtain ⟨v, st₀, t, T', L, h0, X', hL, e1, e2, ⟨r, hv, hp, hh⟩, st⟩ := hr T hT X
  cases hv
  obtain ⟨t2, a1, b1⟩ := kk r hp T' (by rw [e1, hh, h0]) (Stand.forget X' (fun q h => (hL q h).elim))
  exact ⟨t2, st t2 a1, b1⟩
end Zc
/-- a number within two bounds -/
def bw (v lo hi : Int32) : Int32 := if lo ≤ v ∧ v ≤ hi then 1 else 0
def bl (v lo hi : Int64) : Int32 := if lo ≤ v ∧ v ≤ hi then 1 else 0
theorem bl_bw (v lo hi : Int32) {l h : Int64} (hl : lo.toInt64 = l) (hh : hi.toInt64 = h) : bl v.toInt64 l h = bw v lo hi := by
  subst hl; subst hh
  simp only [bl, bw, Int64.le_iff_toInt_le, Int32.le_iff_toInt_le, Int32.toInt_toInt64]
theorem bw_01 (v lo hi : Int32) : bw v lo hi = 0 ∨ bw v lo hi = 1 := by unfold bw; split <;> simp
theorem zb_bw (v lo hi : Int32) : narrow .boolean (.int (bw v lo hi)) = .int (bw v lo hi) := by
  rcases bw_01 v lo hi with h | h <;> rw [h] <;> rfl
theorem bl_01 (v lo hi : Int64) : bl v lo hi = 0 ∨ bl v lo hi = 1 := by unfold bl; split <;> simp
theorem zb_bl (v lo hi : Int64) : narrow .boolean (.int (bl v lo hi)) = .int (bl v lo hi) := by
  rcases bl_01 v lo hi with h | h <;> rw [h] <;> rfl
theorem fs_eq {fs : List Value} {k : Nat} {v : Value} (h : k < fs.length) : (fs.set k v)[k]? = some v := by simp [h]
theorem fs_ne {fs : List Value} {i j : Nat} {v : Value} (h : i ≠ j) : (fs.set i v)[j]? = fs[j]? := by simp [List.getElem?_set, h]
theorem obj_code : Cond.code objectInit ⟨#[0xb1]⟩ 1 none ∈ gl := gl_at 134 (by decide +kernel) (by decide +kernel)
section NewA
variable {p : Program} {l : Launch} {e : Env} {R : Room} {s : State} {m : MethodId} {args : Array Value} {below : List Frame} {meth : Method} {c : Code} {H H0 : Heap} {locs : List Loc} {cells slots : Nat} {Q : State → Prop}
variable {pc : Nat} {ls : Array Slot} {rest : List Value} {cc : ByteArray} {D : va_G} {ct : Nat → ClassId} {ws : va_W} {A : Nat → Prop}
theorem nw_int {n : Int32} {N' : Nat} (hexec : p.tables.exec = Jvm.exec) (hb : c.code = cc) (harr : (Cond.arrayClass .int).before args s = true) (hK : va_K D vwCl (TY ct) s) (hP : va_P D vwCl ws H) (hD : va_D A ws) (hS : va_S A H0 H locs) (hA : ∀ q, H0.size ≤ q → A q) (hn : ¬ n < 0) (hN : n.toNatClampNeg = N') (hbytes : N' * componentBytes .int ≤ 536870912) (hcells : cells + 1 ≤ R.cells) (hslots : slots + N' ≤ R.slots) (hdg : decode cc pc = .ok (.newarray .int, 2))
    (kk : ∀ (q : Nat) (H1 : Heap), va_P D vwCl (ws ++ [(q, .inl (ct 1, N', .inl (fun _ => 0)))]) H1 → va_D A (ws ++ [(q, .inl (ct 1, N', .inl (fun _ => 0)))]) → va_S A H0 H1 locs →
      W p l e R s m args below meth c H1 locs (cells + 1) (slots + N') Q (F0 m (pc + 2) ls (.ref q :: rest))) : W p l e R s m args below meth c H locs cells slots Q (F0 m pc ls (.int n :: rest)) := by
  refine va_newa (atype := .int) (ty := .int) hexec hb harr rfl hK hP hD hS hA (a0 := (N', .inl (fun _ => 0))) (fun cA => rfl) hn hN hbytes hcells hslots hdg (fun q cA H1 hK1 hP1 hD1 hS1 => ?_)
  have e : cA = ct 1 := by
    have h1 := (hK1.2 5 (cA, .int) rfl).2
    have h2 := (hK.2 1 (ct 1, .int) rfl).2
    exact Option.some.inj (h1.symm.trans h2)
  subst e
  exact kk q H1 hP1 hD1 hS1
theorem nw_byte {n : Int32} {N' : Nat} (hexec : p.tables.exec = Jvm.exec) (hb : c.code = cc) (harr : (Cond.arrayClass .byte).before args s = true) (hK : va_K D vwCl (TY ct) s) (hP : va_P D vwCl ws H) (hD : va_D A ws) (hS : va_S A H0 H locs) (hA : ∀ q, H0.size ≤ q → A q) (hn : ¬ n < 0) (hN : n.toNatClampNeg = N') (hbytes : N' * componentBytes .byte ≤ 536870912) (hcells : cells + 1 ≤ R.cells) (hslots : slots + N' ≤ R.slots) (hdg : decode cc pc = .ok (.newarray .byte, 2))
    (kk : ∀ (q : Nat) (H1 : Heap), va_P D vwCl (ws ++ [(q, .inl (ct 0, N', .inl (fun _ => 0)))]) H1 → va_D A (ws ++ [(q, .inl (ct 0, N', .inl (fun _ => 0)))]) → va_S A H0 H1 locs →
      W p l e R s m args below meth c H1 locs (cells + 1) (slots + N') Q (F0 m (pc + 2) ls (.ref q :: rest))) : W p l e R s m args below meth c H locs cells slots Q (F0 m pc ls (.int n :: rest)) := by
  refine va_newa (atype := .byte) (ty := .byte) hexec hb harr rfl hK hP hD hS hA (a0 := (N', .inl (fun _ => 0))) (fun cA => rfl) hn hN hbytes hcells hslots hdg (fun q cA H1 hK1 hP1 hD1 hS1 => ?_)
  have e : cA = ct 0 := by
    have h1 := (hK1.2 5 (cA, .byte) rfl).2
    have h2 := (hK.2 0 (ct 0, .byte) rfl).2
    exact Option.some.inj (h1.symm.trans h2)
  subst e
  exact kk q H1 hP1 hD1 hS1
theorem nw_short {n : Int32} {N' : Nat} (hexec : p.tables.exec = Jvm.exec) (hb : c.code = cc) (harr : (Cond.arrayClass .short).before args s = true) (hK : va_K D vwCl (TY ct) s) (hP : va_P D vwCl ws H) (hD : va_D A ws) (hS : va_S A H0 H locs) (hA : ∀ q, H0.size ≤ q → A q) (hn : ¬ n < 0) (hN : n.toNatClampNeg = N') (hbytes : N' * componentBytes .short ≤ 536870912) (hcells : cells + 1 ≤ R.cells) (hslots : slots + N' ≤ R.slots) (hdg : decode cc pc = .ok (.newarray .short, 2))
    (kk : ∀ (q : Nat) (H1 : Heap), va_P D vwCl (ws ++ [(q, .inl (ct 3, N', .inl (fun _ => 0)))]) H1 → va_D A (ws ++ [(q, .inl (ct 3, N', .inl (fun _ => 0)))]) → va_S A H0 H1 locs →
      W p l e R s m args below meth c H1 locs (cells + 1) (slots + N') Q (F0 m (pc + 2) ls (.ref q :: rest))) : W p l e R s m args below meth c H locs cells slots Q (F0 m pc ls (.int n :: rest)) := by
  refine va_newa (atype := .short) (ty := .short) hexec hb harr rfl hK hP hD hS hA (a0 := (N', .inl (fun _ => 0))) (fun cA => rfl) hn hN hbytes hcells hslots hdg (fun q cA H1 hK1 hP1 hD1 hS1 => ?_)
  have e : cA = ct 3 := by
    have h1 := (hK1.2 5 (cA, .short) rfl).2
    have h2 := (hK.2 3 (ct 3, .short) rfl).2
    exact Option.some.inj (h1.symm.trans h2)
  subst e
  exact kk q H1 hP1 hD1 hS1
theorem nw_boolean {n : Int32} {N' : Nat} (hexec : p.tables.exec = Jvm.exec) (hb : c.code = cc) (harr : (Cond.arrayClass .boolean).before args s = true) (hK : va_K D vwCl (TY ct) s) (hP : va_P D vwCl ws H) (hD : va_D A ws) (hS : va_S A H0 H locs) (hA : ∀ q, H0.size ≤ q → A q) (hn : ¬ n < 0) (hN : n.toNatClampNeg = N') (hbytes : N' * componentBytes .boolean ≤ 536870912) (hcells : cells + 1 ≤ R.cells) (hslots : slots + N' ≤ R.slots) (hdg : decode cc pc = .ok (.newarray .boolean, 2))
    (kk : ∀ (q : Nat) (H1 : Heap), va_P D vwCl (ws ++ [(q, .inl (ct 4, N', .inl (fun _ => 0)))]) H1 → va_D A (ws ++ [(q, .inl (ct 4, N', .inl (fun _ => 0)))]) → va_S A H0 H1 locs →
      W p l e R s m args below meth c H1 locs (cells + 1) (slots + N') Q (F0 m (pc + 2) ls (.ref q :: rest))) : W p l e R s m args below meth c H locs cells slots Q (F0 m pc ls (.int n :: rest)) := by
  refine va_newa (atype := .boolean) (ty := .boolean) hexec hb harr rfl hK hP hD hS hA (a0 := (N', .inl (fun _ => 0))) (fun cA => rfl) hn hN hbytes hcells hslots hdg (fun q cA H1 hK1 hP1 hD1 hS1 => ?_)
  have e : cA = ct 4 := by
    have h1 := (hK1.2 5 (cA, .boolean) rfl).2
    have h2 := (hK.2 4 (ct 4, .boolean) rfl).2
    exact Option.some.inj (h1.symm.trans h2)
  subst e
  exact kk q H1 hP1 hD1 hS1
theorem nw_long {n : Int32} {N' : Nat} (hexec : p.tables.exec = Jvm.exec) (hb : c.code = cc) (harr : (Cond.arrayClass .long).before args s = true) (hK : va_K D vwCl (TY ct) s) (hP : va_P D vwCl ws H) (hD : va_D A ws) (hS : va_S A H0 H locs) (hA : ∀ q, H0.size ≤ q → A q) (hn : ¬ n < 0) (hN : n.toNatClampNeg = N') (hbytes : N' * componentBytes .long ≤ 536870912) (hcells : cells + 1 ≤ R.cells) (hslots : slots + N' ≤ R.slots) (hdg : decode cc pc = .ok (.newarray .long, 2))
    (kk : ∀ (q : Nat) (H1 : Heap), va_P D vwCl (ws ++ [(q, .inl (ct 2, N', .inr (.inl (fun _ => 0))))]) H1 → va_D A (ws ++ [(q, .inl (ct 2, N', .inr (.inl (fun _ => 0))))]) → va_S A H0 H1 locs →
      W p l e R s m args below meth c H1 locs (cells + 1) (slots + N') Q (F0 m (pc + 2) ls (.ref q :: rest))) : W p l e R s m args below meth c H locs cells slots Q (F0 m pc ls (.int n :: rest)) := by
  refine va_newa (atype := .long) (ty := .long) hexec hb harr rfl hK hP hD hS hA (a0 := (N', .inr (.inl (fun _ => 0)))) (fun cA => rfl) hn hN hbytes hcells hslots hdg (fun q cA H1 hK1 hP1 hD1 hS1 => ?_)
  have e : cA = ct 2 := by
    have h1 := (hK1.2 5 (cA, .long) rfl).2
    have h2 := (hK.2 2 (ct 2, .long) rfl).2
    exact Option.some.inj (h1.symm.trans h2)
  subst e
  exact kk q H1 hP1 hD1 hS1
end NewA
theorem nd_X0 : ∀ j, j < 8 → defaultValue (tyX0 j) = vp_V [.null, .null, .null, .null, .null, .null, .int 0, .int 0] j := fun j hj => match j, hj with
  | 0, _ => rfl
  | 1, _ => rfl
  | 2, _ => rfl
  | 3, _ => rfl
  | 4, _ => rfl
  | 5, _ => rfl
  | 6, _ => rfl
  | 7, _ => rfl
  | j + 8, h => absurd h (by omega)
theorem nd_X1 : ∀ j, j < 14 → defaultValue (tyX1 j) = vp_V [.null, .null, .null, .null, .null, .null, .null, .null, .null, .null, .null, .null, .null, .int 0] j := fun j hj => match j, hj with
  | 0, _ => rfl
  | 1, _ => rfl
  | 2, _ => rfl
  | 3, _ => rfl
  | 4, _ => rfl
  | 5, _ => rfl
  | 6, _ => rfl
  | 7, _ => rfl
  | 8, _ => rfl
  | 9, _ => rfl
  | 10, _ => rfl
  | 11, _ => rfl
  | 12, _ => rfl
  | 13, _ => rfl
  | j + 14, h => absurd h (by omega)
theorem nd_X2 : ∀ j, j < 7 → defaultValue (tyX2 j) = vp_V [.null, .null, .null, .null, .null, .long 0, .long 0] j := fun j hj => match j, hj with
  | 0, _ => rfl
  | 1, _ => rfl
  | 2, _ => rfl
  | 3, _ => rfl
  | 4, _ => rfl
  | 5, _ => rfl
  | 6, _ => rfl
  | j + 7, h => absurd h (by omega)
theorem nd_X3 : ∀ j, j < 18 → defaultValue (tyX3 j) = vp_V [.null, .null, .null, .null, .null, .int 0, .null, .int 0, .int 0, .int 0, .int 0, .int 0, .int 0, .int 0, .int 0, .int 0, .int 0, .int 0] j := fun j hj => match j, hj with
  | 0, _ => rfl
  | 1, _ => rfl
  | 2, _ => rfl
  | 3, _ => rfl
  | 4, _ => rfl
  | 5, _ => rfl
  | 6, _ => rfl
  | 7, _ => rfl
  | 8, _ => rfl
  | 9, _ => rfl
  | 10, _ => rfl
  | 11, _ => rfl
  | 12, _ => rfl
  | 13, _ => rfl
  | 14, _ => rfl
  | 15, _ => rfl
  | 16, _ => rfl
  | 17, _ => rfl
  | j + 18, h => absurd h (by omega)
theorem nd_X4 : ∀ j, j < 5 → defaultValue (tyX4 j) = vp_V [.null, .null, .null, .null, .int 0] j := fun j hj => match j, hj with
  | 0, _ => rfl
  | 1, _ => rfl
  | 2, _ => rfl
  | 3, _ => rfl
  | 4, _ => rfl
  | j + 5, h => absurd h (by omega)
theorem nd_X5 : ∀ j, j < 6 → defaultValue (tyX5 j) = vp_V [.null, .null, .int 0, .int 0, .int 0, .int 0] j := fun j hj => match j, hj with
  | 0, _ => rfl
  | 1, _ => rfl
  | 2, _ => rfl
  | 3, _ => rfl
  | 4, _ => rfl
  | 5, _ => rfl
  | j + 6, h => absurd h (by omega)
theorem nd_X6 : ∀ j, j < 7 → defaultValue (tyX6 j) = vp_V [.null, .null, .null, .null, .int 0, .int 0, .int 0] j := fun j hj => match j, hj with
  | 0, _ => rfl
  | 1, _ => rfl
  | 2, _ => rfl
  | 3, _ => rfl
  | 4, _ => rfl
  | 5, _ => rfl
  | 6, _ => rfl
  | j + 7, h => absurd h (by omega)
theorem nd_X7 : ∀ j, j < 14 → defaultValue (tyX7 j) = vp_V [.null, .null, .null, .int 0, .int 0, .int 0, .int 0, .int 0, .long 0, .long 0, .int 0, .null, .null, .null] j := fun j hj => match j, hj with
  | 0, _ => rfl
  | 1, _ => rfl
  | 2, _ => rfl
  | 3, _ => rfl
  | 4, _ => rfl
  | 5, _ => rfl
  | 6, _ => rfl
  | 7, _ => rfl
  | 8, _ => rfl
  | 9, _ => rfl
  | 10, _ => rfl
  | 11, _ => rfl
  | 12, _ => rfl
  | 13, _ => rfl
  | j + 14, h => absurd h (by omega)
theorem nd_X8 : ∀ j, j < 17 → defaultValue (tyX8 j) = vp_V [.null, .null, .null, .null, .null, .null, .null, .null, .int 0, .int 0, .int 0, .int 0, .null, .int 0, .null, .int 0, .int 0] j := fun j hj => match j, hj with
  | 0, _ => rfl
  | 1, _ => rfl
  | 2, _ => rfl
  | 3, _ => rfl
  | 4, _ => rfl
  | 5, _ => rfl
  | 6, _ => rfl
  | 7, _ => rfl
  | 8, _ => rfl
  | 9, _ => rfl
  | 10, _ => rfl
  | 11, _ => rfl
  | 12, _ => rfl
  | 13, _ => rfl
  | 14, _ => rfl
  | 15, _ => rfl
  | 16, _ => rfl
  | j + 17, h => absurd h (by omega)
theorem nd_X9 : ∀ j, j < 13 → defaultValue (tyX9 j) = vp_V [.null, .null, .int 0, .null, .null, .int 0, .int 0, .null, .int 0, .int 0, .int 0, .null, .null] j := fun j hj => match j, hj with
  | 0, _ => rfl
  | 1, _ => rfl
  | 2, _ => rfl
  | 3, _ => rfl
  | 4, _ => rfl
  | 5, _ => rfl
  | 6, _ => rfl
  | 7, _ => rfl
  | 8, _ => rfl
  | 9, _ => rfl
  | 10, _ => rfl
  | 11, _ => rfl
  | 12, _ => rfl
  | j + 13, h => absurd h (by omega)
theorem nd_X10 : ∀ j, j < 5 → defaultValue (tyX10 j) = vp_V [.null, .int 0, .int 0, .int 0, .int 0] j := fun j hj => match j, hj with
  | 0, _ => rfl
  | 1, _ => rfl
  | 2, _ => rfl
  | 3, _ => rfl
  | 4, _ => rfl
  | j + 5, h => absurd h (by omega)
theorem nd_X11 : ∀ j, j < 15 → defaultValue (tyX11 j) = vp_V [.null, .null, .null, .null, .null, .null, .null, .null, .null, .null, .null, .null, .null, .int 0, .int 0] j := fun j hj => match j, hj with
  | 0, _ => rfl
  | 1, _ => rfl
  | 2, _ => rfl
  | 3, _ => rfl
  | 4, _ => rfl
  | 5, _ => rfl
  | 6, _ => rfl
  | 7, _ => rfl
  | 8, _ => rfl
  | 9, _ => rfl
  | 10, _ => rfl
  | 11, _ => rfl
  | 12, _ => rfl
  | 13, _ => rfl
  | 14, _ => rfl
  | j + 15, h => absurd h (by omega)
theorem nd_X12 : ∀ j, j < 104 → defaultValue (tyX12 j) = vp_V [.int 0, .int 0, .null, .int 0, .int 0, .int 0, .int 0, .long 0, .int 0, .int 0, .int 0, .null, .null, .int 0, .null, .null, .int 0, .null, .null, .null, .null, .null, .null, .null, .null, .null, .null, .null, .null, .null, .null, .null, .int 0, .int 0, .int 0, .int 0, .int 0, .int 0, .long 0, .long 0, .int 0, .int 0, .null, .null, .int 0, .int 0, .null, .null, .null, .null, .null, .int 0, .int 0, .int 0, .int 0, .int 0, .int 0, .int 0, .int 0, .int 0, .int 0, .int 0, .int 0, .null, .null, .int 0, .null, .int 0, .int 0, .int 0, .null, .null, .null, .int 0, .int 0, .null, .int 0, .null, .null, .null, .null, .int 0, .null, .int 0, .int 0, .int 0, .int 0, .int 0, .null, .null, .null, .null, .int 0, .null, .int 0, .int 0, .int 0, .null, .null, .null, .null, .null, .int 0, .int 0] j := fun j hj => match j, hj with
  | 0, _ => rfl
  | 1, _ => rfl
  | 2, _ => rfl
  | 3, _ => rfl
  | 4, _ => rfl
  | 5, _ => rfl
  | 6, _ => rfl
  | 7, _ => rfl
  | 8, _ => rfl
  | 9, _ => rfl
  | 10, _ => rfl
  | 11, _ => rfl
  | 12, _ => rfl
  | 13, _ => rfl
  | 14, _ => rfl
  | 15, _ => rfl
  | 16, _ => rfl
  | 17, _ => rfl
  | 18, _ => rfl
  | 19, _ => rfl
  | 20, _ => rfl
  | 21, _ => rfl
  | 22, _ => rfl
  | 23, _ => rfl
  | 24, _ => rfl
  | 25, _ => rfl
  | 26, _ => rfl
  | 27, _ => rfl
  | 28, _ => rfl
  | 29, _ => rfl
  | 30, _ => rfl
  | 31, _ => rfl
  | 32, _ => rfl
  | 33, _ => rfl
  | 34, _ => rfl
  | 35, _ => rfl
  | 36, _ => rfl
  | 37, _ => rfl
  | 38, _ => rfl
  | 39, _ => rfl
  | 40, _ => rfl
  | 41, _ => rfl
  | 42, _ => rfl
  | 43, _ => rfl
  | 44, _ => rfl
  | 45, _ => rfl
  | 46, _ => rfl
  | 47, _ => rfl
  | 48, _ => rfl
  | 49, _ => rfl
  | 50, _ => rfl
  | 51, _ => rfl
  | 52, _ => rfl
  | 53, _ => rfl
  | 54, _ => rfl
  | 55, _ => rfl
  | 56, _ => rfl
  | 57, _ => rfl
  | 58, _ => rfl
  | 59, _ => rfl
  | 60, _ => rfl
  | 61, _ => rfl
  | 62, _ => rfl
  | 63, _ => rfl
  | 64, _ => rfl
  | 65, _ => rfl
  | 66, _ => rfl
  | 67, _ => rfl
  | 68, _ => rfl
  | 69, _ => rfl
  | 70, _ => rfl
  | 71, _ => rfl
  | 72, _ => rfl
  | 73, _ => rfl
  | 74, _ => rfl
  | 75, _ => rfl
  | 76, _ => rfl
  | 77, _ => rfl
  | 78, _ => rfl
  | 79, _ => rfl
  | 80, _ => rfl
  | 81, _ => rfl
  | 82, _ => rfl
  | 83, _ => rfl
  | 84, _ => rfl
  | 85, _ => rfl
  | 86, _ => rfl
  | 87, _ => rfl
  | 88, _ => rfl
  | 89, _ => rfl
  | 90, _ => rfl
  | 91, _ => rfl
  | 92, _ => rfl
  | 93, _ => rfl
  | 94, _ => rfl
  | 95, _ => rfl
  | 96, _ => rfl
  | 97, _ => rfl
  | 98, _ => rfl
  | 99, _ => rfl
  | 100, _ => rfl
  | 101, _ => rfl
  | 102, _ => rfl
  | 103, _ => rfl
  | j + 104, h => absurd h (by omega)
theorem bw_ne {v lo hi : Int32} (h : ¬ bw v lo hi = 0) : lo ≤ v ∧ v ≤ hi := by
  unfold bw at h
  split at h
  · assumption
  · exact absurd rfl h
theorem bw_in {v hi : Int32} {n : Nat} (h : ¬ bw v 0 hi = 0) (hn : hi.toInt < n) : vp_in v n := by
  obtain ⟨h1, h2⟩ := bw_ne h
  rw [Int32.le_iff_toInt_le] at h1 h2
  have h3 : (0 : Int32).toInt = 0 := rfl
  rw [vp_in_iff]
  omega
theorem bw_em (v : Int32) : bw v 0 (-1) = 0 := by
  unfold bw
  rw [if_neg]
  intro h
  simp only [Int32.le_iff_toInt_le, show (0 : Int32).toInt = 0 from rfl, show (-1 : Int32).toInt = -1 from rfl] at h
  omega
theorem sw_out4 {x : Int32} (_ : True) (h0 : ¬ x = 0) (h1 : ¬ x = 1) (h2 : ¬ x = 2) (h3 : ¬ x = 3) : x.toInt < 0 ∨ 3 < x.toInt := by
  have g0 : x.toInt ≠ 0 := fun e => h0 (Int32.toInt_inj.mp (by rw [e]; rfl))
  have g1 : x.toInt ≠ 1 := fun e => h1 (Int32.toInt_inj.mp (by rw [e]; rfl))
  have g2 : x.toInt ≠ 2 := fun e => h2 (Int32.toInt_inj.mp (by rw [e]; rfl))
  have g3 : x.toInt ≠ 3 := fun e => h3 (Int32.toInt_inj.mp (by rw [e]; rfl))
  omega
theorem sw_out5 {x : Int32} (_ : True) (h0 : ¬ x = 0) (h1 : ¬ x = 1) (h2 : ¬ x = 2) (h3 : ¬ x = 3) (h4 : ¬ x = 4) : x.toInt < 0 ∨ 4 < x.toInt := by
  have g0 : x.toInt ≠ 0 := fun e => h0 (Int32.toInt_inj.mp (by rw [e]; rfl))
  have g1 : x.toInt ≠ 1 := fun e => h1 (Int32.toInt_inj.mp (by rw [e]; rfl))
  have g2 : x.toInt ≠ 2 := fun e => h2 (Int32.toInt_inj.mp (by rw [e]; rfl))
  have g3 : x.toInt ≠ 3 := fun e => h3 (Int32.toInt_inj.mp (by rw [e]; rfl))
  have g4 : x.toInt ≠ 4 := fun e => h4 (Int32.toInt_inj.mp (by rw [e]; rfl))
  omega
theorem sw_out6 {x : Int32} (_ : True) (h0 : ¬ x = 0) (h1 : ¬ x = 1) (h2 : ¬ x = 2) (h3 : ¬ x = 3) (h4 : ¬ x = 4) (h5 : ¬ x = 5) : x.toInt < 0 ∨ 5 < x.toInt := by
  have g0 : x.toInt ≠ 0 := fun e => h0 (Int32.toInt_inj.mp (by rw [e]; rfl))
  have g1 : x.toInt ≠ 1 := fun e => h1 (Int32.toInt_inj.mp (by rw [e]; rfl))
  have g2 : x.toInt ≠ 2 := fun e => h2 (Int32.toInt_inj.mp (by rw [e]; rfl))
  have g3 : x.toInt ≠ 3 := fun e => h3 (Int32.toInt_inj.mp (by rw [e]; rfl))
  have g4 : x.toInt ≠ 4 := fun e => h4 (Int32.toInt_inj.mp (by rw [e]; rfl))
  have g5 : x.toInt ≠ 5 := fun e => h5 (Int32.toInt_inj.mp (by rw [e]; rfl))
  omega
theorem sw_out7 {x : Int32} (_ : True) (h0 : ¬ x = 0) (h1 : ¬ x = 1) (h2 : ¬ x = 2) (h3 : ¬ x = 3) (h4 : ¬ x = 4) (h5 : ¬ x = 5) (h6 : ¬ x = 6) : x.toInt < 0 ∨ 6 < x.toInt := by
  have g0 : x.toInt ≠ 0 := fun e => h0 (Int32.toInt_inj.mp (by rw [e]; rfl))
  have g1 : x.toInt ≠ 1 := fun e => h1 (Int32.toInt_inj.mp (by rw [e]; rfl))
  have g2 : x.toInt ≠ 2 := fun e => h2 (Int32.toInt_inj.mp (by rw [e]; rfl))
  have g3 : x.toInt ≠ 3 := fun e => h3 (Int32.toInt_inj.mp (by rw [e]; rfl))
  have g4 : x.toInt ≠ 4 := fun e => h4 (Int32.toInt_inj.mp (by rw [e]; rfl))
  have g5 : x.toInt ≠ 5 := fun e => h5 (Int32.toInt_inj.mp (by rw [e]; rfl))
  have g6 : x.toInt ≠ 6 := fun e => h6 (Int32.toInt_inj.mp (by rw [e]; rfl))
  omega
theorem sw_out8 {x : Int32} (_ : True) (h0 : ¬ x = 0) (h1 : ¬ x = 1) (h2 : ¬ x = 2) (h3 : ¬ x = 3) (h4 : ¬ x = 4) (h5 : ¬ x = 5) (h6 : ¬ x = 6) (h7 : ¬ x = 7) : x.toInt < 0 ∨ 7 < x.toInt := by
  have g0 : x.toInt ≠ 0 := fun e => h0 (Int32.toInt_inj.mp (by rw [e]; rfl))
  have g1 : x.toInt ≠ 1 := fun e => h1 (Int32.toInt_inj.mp (by rw [e]; rfl))
  have g2 : x.toInt ≠ 2 := fun e => h2 (Int32.toInt_inj.mp (by rw [e]; rfl))
  have g3 : x.toInt ≠ 3 := fun e => h3 (Int32.toInt_inj.mp (by rw [e]; rfl))
  have g4 : x.toInt ≠ 4 := fun e => h4 (Int32.toInt_inj.mp (by rw [e]; rfl))
  have g5 : x.toInt ≠ 5 := fun e => h5 (Int32.toInt_inj.mp (by rw [e]; rfl))
  have g6 : x.toInt ≠ 6 := fun e => h6 (Int32.toInt_inj.mp (by rw [e]; rfl))
  have g7 : x.toInt ≠ 7 := fun e => h7 (Int32.toInt_inj.mp (by rw [e]; rfl))
  omega
end
section
theorem dX11_within_0 : decode cX11_within 0 = .ok (.iload_n 0, 1) := by decide +kernel
theorem dX11_within_1 : decode cX11_within 1 = .ok (.iload_n 1, 1) := by decide +kernel
theorem dX11_within_2 : decode cX11_within 2 = .ok (.if_icmp .lt 12, 3) := by decide +kernel
theorem dX11_within_14 : decode cX11_within 14 = .ok (.iconst 0, 1) := by decide +kernel
theorem dX11_within_15 : decode cX11_within 15 = .ok (.ireturn, 1) := by decide +kernel
theorem dX11_within_5 : decode cX11_within 5 = .ok (.iload_n 0, 1) := by decide +kernel
theorem dX11_within_6 : decode cX11_within 6 = .ok (.iload_n 2, 1) := by decide +kernel
theorem dX11_within_7 : decode cX11_within 7 = .ok (.if_icmp .gt 7, 3) := by decide +kernel
theorem dX11_within_10 : decode cX11_within 10 = .ok (.iconst 1, 1) := by decide +kernel
theorem dX11_within_11 : decode cX11_within 11 = .ok (.goto 4, 3) := by decide +kernel
set_option maxHeartbeats 4000000 in
set_option maxRecDepth 100000 in
theorem c_within (l : Launch) (D : va_G) (ct : Nat → ClassId) (v : Int32) (lo : Int32) (hi : Int32)  : Met l yX11_within (wk yX11_within cX11_within 3 (some .boolean)) { frames := 0, cells := 0, slots := 0, locals := 0 } (va_Pc [.int v, .int lo, .int hi] (Wr D [] ct)) (zI (fun r : Int32 => r = bw v lo hi)) 0 0 (fun _ => False) := by
  refine Met.ofW (cc := cX11_within) (maxL := 3) (ret := (some .boolean)) (by decide) rfl ?_
  intro p e s m args below meth c s₁ B hml hv
  obtain ⟨rfl, hP, hKK⟩ := hv
  have hK := hKK.1
  have hx := B.exec
  have hb := B.bytes
  have hr := B.returns
  have hg : ∀ w ∈ gl, w.before _ s = true := fun w h => atoms_spec (ws := wk yX11_within cX11_within 3 (some .boolean)) B.pre w (List.mem_cons_of_mem _ h)
  have hown : s.vm.findClass RX11 = some m.cls := findClass_of_methodNamed B.named
  have hlocks := B.notSynchronized
  have hl := lv_entry ([.int v, .int lo, .int hi]) (n := 3) (Nat.le_of_ble_eq_true rfl)
  rw [lg_entry_eq]
  generalize (lg_sl ([.int v, .int lo, .int hi]) ++ List.replicate (3 - (lg_sl ([.int v, .int lo, .int hi])).length) Slot.unset).toArray = ls at hl ⊢
  have hl : lv_has ls 3 [(0, .int v), (1, .int lo), (2, .int hi)] := hl
  refine lv_iload_n hx hb dX11_within_0 rfl (lv_at hl 0 rfl) ?_
  refine lv_iload_n hx hb dX11_within_1 rfl (lv_at hl 1 rfl) ?_
  refine lv_icmp_lt (tgt := 14) hx hb dX11_within_2 (by decide) (fun c_1 => ?_) (fun c_1 => ?_)
  · refine lv_iconst (v := 0) hx hb dX11_within_14 (by decide) ?_
    exact W.zret (v := 0) hx hb hr rfl (fun t ht hW => ⟨0, rfl, (by simp only [bw, Int32.lt_iff_toInt_lt, Int32.le_iff_toInt_le] at *; split <;> first | rfl | omega), ht⟩) (fun q h => by cases h) dX11_within_15
  · refine lv_iload_n hx hb dX11_within_5 rfl (lv_at hl 0 rfl) ?_
    refine lv_iload_n hx hb dX11_within_6 rfl (lv_at hl 2 rfl) ?_
    refine lv_icmp_gt (tgt := 14) hx hb dX11_within_7 (by decide) (fun c_2 => ?_) (fun c_2 => ?_)
    · refine lv_iconst (v := 0) hx hb dX11_within_14 (by decide) ?_
      exact W.zret (v := 0) hx hb hr rfl (fun t ht hW => ⟨0, rfl, (by simp only [bw, Int32.lt_iff_toInt_lt, Int32.le_iff_toInt_le] at *; split <;> first | rfl | omega), ht⟩) (fun q h => by cases h) dX11_within_15
    · refine lv_iconst (v := 1) hx hb dX11_within_10 (by decide) ?_
      refine lv_goto (tgt := 15) hx hb dX11_within_11 (by decide) ?_
      exact W.zret (v := 1) hx hb hr rfl (fun t ht hW => ⟨1, rfl, (by simp only [bw, Int32.lt_iff_toInt_lt, Int32.le_iff_toInt_le] at *; split <;> first | rfl | omega), ht⟩) (fun q h => by cases h) dX11_within_15
theorem dX11_isDay_0 : decode cX11_isDay 0 = .ok (.iload_n 0, 1) := by decide +kernel
theorem dX11_isDay_1 : decode cX11_isDay 1 = .ok (.iconst 0, 1) := by decide +kernel
theorem dX11_isDay_2 : decode cX11_isDay 2 = .ok (.ldc 154, 2) := by decide +kernel
theorem wd_960 : (Cond.constant "VoteRoll" 154 (40000 : Int32)) ∈ gl := gl_at 960 (by decide +kernel) (by decide +kernel)
theorem dX11_isDay_4 : decode cX11_isDay 4 = .ok (.invokestatic 150, 3) := by decide +kernel
theorem wd_918 : (Cond.code yX11_within cX11_within 3 (some .boolean)) ∈ gl := gl_at 918 (by decide +kernel) (by decide +kernel)
theorem wd_959 : (Cond.methodLink "VoteRoll" 150 yX11_within) ∈ gl := gl_at 959 (by decide +kernel) (by decide +kernel)
theorem wd_107 : (Cond.initialized "VoteRoll") ∈ gl := gl_at 107 (by decide +kernel) (by decide +kernel)
theorem wd_917 : (Cond.static yX11_within) ∈ gl := gl_at 917 (by decide +kernel) (by decide +kernel)
theorem dX11_isDay_7 : decode cX11_isDay 7 = .ok (.ireturn, 1) := by decide +kernel
set_option maxHeartbeats 4000000 in
set_option maxRecDepth 100000 in
theorem c_isDay (l : Launch) (D : va_G) (ct : Nat → ClassId) (v : Int32)  : Met l yX11_isDay (wk yX11_isDay cX11_isDay 1 (some .boolean)) { frames := 1, cells := 0, slots := 0, locals := 22 } (va_Pc [.int v] (Wr D [] ct)) (zI (fun r : Int32 => r = bw v 0 40000)) 0 0 (fun _ => False) := by
  refine Met.ofW (cc := cX11_isDay) (maxL := 1) (ret := (some .boolean)) (by decide) rfl ?_
  intro p e s m args below meth c s₁ B hml hv
  obtain ⟨rfl, hP, hKK⟩ := hv
  have hK := hKK.1
  have hx := B.exec
  have hb := B.bytes
  have hr := B.returns
  have hg : ∀ w ∈ gl, w.before _ s = true := fun w h => atoms_spec (ws := wk yX11_isDay cX11_isDay 1 (some .boolean)) B.pre w (List.mem_cons_of_mem _ h)
  have hown : s.vm.findClass RX11 = some m.cls := findClass_of_methodNamed B.named
  have hlocks := B.notSynchronized
  have hl := lv_entry ([.int v]) (n := 1) (Nat.le_of_ble_eq_true rfl)
  rw [lg_entry_eq]
  generalize (lg_sl ([.int v]) ++ List.replicate (1 - (lg_sl ([.int v])).length) Slot.unset).toArray = ls at hl ⊢
  have hl : lv_has ls 1 [(0, .int v)] := hl
  refine lv_iload_n hx hb dX11_isDay_0 rfl (lv_at hl 0 rfl) ?_
  refine lv_iconst (v := 0) hx hb dX11_isDay_1 (by decide) ?_
  refine lv_ldc hx hb hown (hg _ wd_960) dX11_isDay_2 ?_
  have hPc := hP.sub (ws' := []) [] rfl
  refine z_calli (va_runS (As := [.int v, .int 0, .int 40000]) (rest := []) ⟨hx, hb, hml, hown, hg⟩ (c_within l D ct v 0 40000 ) (va_cwS 3 hg (gd_S wd_959 wd_917 wd_107 wd_918) rfl rfl rfl (by decide +kernel) ⟨Nat.le_of_ble_eq_true rfl, Nat.le_of_ble_eq_true rfl⟩) (Wr_S hPc hKK) rfl rfl hl.1 rfl (lv_room (Nat.le_of_ble_eq_true rfl)) dX11_isDay_4 ⟨Nat.le_of_ble_eq_true rfl, Nat.le_of_ble_eq_true rfl⟩) (fun r_1 hw_1 => ?_)
  subst hw_1
  exact W.zret (v := bw v 0 40000) hx hb hr (zb_bw v 0 40000) (fun t ht hW => ⟨bw v 0 40000, rfl, rfl, ht⟩) (fun q h => by cases h) dX11_isDay_7
theorem dX11_refuse_0 : decode cX11_refuse 0 = .ok (.aload_n 0, 1) := by decide +kernel
theorem dX11_refuse_1 : decode cX11_refuse 1 = .ok (.iload_n 1, 1) := by decide +kernel
theorem dX11_refuse_2 : decode cX11_refuse 2 = .ok (.putfield 104, 3) := by decide +kernel
theorem wd_697 : (Cond.fieldLink "VoteRoll" 104 "VoteRoll" "refusal" "I") ∈ gl := gl_at 697 (by decide +kernel) (by decide +kernel)
theorem dX11_refuse_5 : decode cX11_refuse 5 = .ok (.iload_n 1, 1) := by decide +kernel
theorem dX11_refuse_6 : decode cX11_refuse 6 = .ok (.ireturn, 1) := by decide +kernel
set_option maxHeartbeats 4000000 in
set_option maxRecDepth 100000 in
theorem c_refuse (l : Launch) (D : va_G) (ct : Nat → ClassId) (h : Nat) (y : Int32) (h_0 : Nat) (h_1 : Nat) (h_2 : Nat) (h_3 : Nat) (h_4 : Nat) (h_5 : Nat) (h_6 : Nat) (h_7 : Nat) (h_8 : Nat) (h_9 : Nat) (h_10 : Nat) (h_11 : Nat) (h_12 : Nat) (h_13 : Int32) (h_14 : Int32) (sz : Nat)  : Met l yX11_refuse (wk yX11_refuse cX11_refuse 2 (some .int)) { frames := 0, cells := 0, slots := 0, locals := 0 } (va_Pc [.ref h, .int y] (Wd D [(h, .inr (11, [.ref h_0, .ref h_1, .ref h_2, .ref h_3, .ref h_4, .ref h_5, .ref h_6, .ref h_7, .ref h_8, .ref h_9, .ref h_10, .ref h_11, .ref h_12, .int h_13, .int h_14]))] ct sz)) (va_Qi (fun (r : Int32) (u : Unit) => r = y) (fun _ _ => True) (va_A [(h, .inr (11, [.ref h_0, .ref h_1, .ref h_2, .ref h_3, .ref h_4, .ref h_5, .ref h_6, .ref h_7, .ref h_8, .ref h_9, .ref h_10, .ref h_11, .ref h_12, .int h_13, .int h_14]))] sz)) 0 0 (va_A [(h, .inr (11, [.ref h_0, .ref h_1, .ref h_2, .ref h_3, .ref h_4, .ref h_5, .ref h_6, .ref h_7, .ref h_8, .ref h_9, .ref h_10, .ref h_11, .ref h_12, .int h_13, .int h_14]))] sz) := by
  refine Met.ofW (cc := cX11_refuse) (maxL := 2) (ret := (some .int)) (by decide) rfl ?_
  intro p e s m args below meth c s₁ B hml hv
  obtain ⟨rfl, hsz, hP, hKK, hD0⟩ := hv
  have hK := hKK.1
  have hx := B.exec
  have hb := B.bytes
  have hr := B.returns
  have hg : ∀ w ∈ gl, w.before _ s = true := fun w h => atoms_spec (ws := wk yX11_refuse cX11_refuse 2 (some .int)) B.pre w (List.mem_cons_of_mem _ h)
  have hown : s.vm.findClass RX11 = some m.cls := findClass_of_methodNamed B.named
  have hlocks := B.notSynchronized
  subst hsz
  have hD := hD0.self (sz := s.heap.size)
  generalize hAe : va_A [(h, .inr (11, [.ref h_0, .ref h_1, .ref h_2, .ref h_3, .ref h_4, .ref h_5, .ref h_6, .ref h_7, .ref h_8, .ref h_9, .ref h_10, .ref h_11, .ref h_12, .int h_13, .int h_14]))] s.heap.size = A at hD ⊢
  have hA : ∀ q : Nat, s.heap.size ≤ q → A q := fun q h => by rw [← hAe]; exact Or.inr h
  have hS : va_S A s.heap s.heap [] := va_S.rf
  have hl := lv_entry ([.ref h, .int y]) (n := 2) (Nat.le_of_ble_eq_true rfl)
  rw [lg_entry_eq]
  generalize (lg_sl ([.ref h, .int y]) ++ List.replicate (2 - (lg_sl ([.ref h, .int y])).length) Slot.unset).toArray = ls at hl ⊢
  have hl : lv_has ls 2 [(0, .ref h), (1, .int y)] := hl
  refine lv_aload_n hx hb dX11_refuse_0 rfl (lv_at hl 0 rfl) ?_
  refine lv_iload_n hx hb dX11_refuse_1 rfl (lv_at hl 1 rfl) ?_
  refine va_put (D := D) (ci := 11) (v := .int y) (ty := .int) (C := RX11) (T := TX11) (N := 15) hx hb hg inX11 tyX11 tyX11_ok nmX11 hown hK hP hD hS 0 rfl rfl 14 (by decide) (hg _ wd_697) (fun _ h9 => h9) rfl (by decide +kernel) rfl rfl (Nat.le_of_ble_eq_true rfl) dX11_refuse_2 (fun H locs hP hD hS => ?_)
  have hP : va_P D vwCl [(h, .inr (11, [.ref h_0, .ref h_1, .ref h_2, .ref h_3, .ref h_4, .ref h_5, .ref h_6, .ref h_7, .ref h_8, .ref h_9, .ref h_10, .ref h_11, .ref h_12, .int h_13, .int y]))] H := hP
  have hD : va_D A [(h, .inr (11, [.ref h_0, .ref h_1, .ref h_2, .ref h_3, .ref h_4, .ref h_5, .ref h_6, .ref h_7, .ref h_8, .ref h_9, .ref h_10, .ref h_11, .ref h_12, .int h_13, .int y]))] := hD
  refine lv_iload_n hx hb dX11_refuse_5 rfl (lv_at hl 1 rfl) ?_
  exact W.iret (v := y) hx hb hr (fun t ht hW => ⟨⟨y, (), rfl, rfl, trivial⟩, hS.F ht⟩) hS.2.2 dX11_refuse_6
theorem dX11_accept_0 : decode cX11_accept 0 = .ok (.aload_n 0, 1) := by decide +kernel
theorem dX11_accept_1 : decode cX11_accept 1 = .ok (.iconst 0, 1) := by decide +kernel
theorem dX11_accept_2 : decode cX11_accept 2 = .ok (.putfield 104, 3) := by decide +kernel
theorem dX11_accept_5 : decode cX11_accept 5 = .ok (.iload_n 1, 1) := by decide +kernel
theorem dX11_accept_6 : decode cX11_accept 6 = .ok (.ireturn, 1) := by decide +kernel
set_option maxHeartbeats 4000000 in
set_option maxRecDepth 100000 in
theorem c_accept (l : Launch) (D : va_G) (ct : Nat → ClassId) (h : Nat) (y : Int32) (h_0 : Nat) (h_1 : Nat) (h_2 : Nat) (h_3 : Nat) (h_4 : Nat) (h_5 : Nat) (h_6 : Nat) (h_7 : Nat) (h_8 : Nat) (h_9 : Nat) (h_10 : Nat) (h_11 : Nat) (h_12 : Nat) (h_13 : Int32) (h_14 : Int32) (sz : Nat)  : Met l yX11_accept (wk yX11_accept cX11_accept 2 (some .int)) { frames := 0, cells := 0, slots := 0, locals := 0 } (va_Pc [.ref h, .int y] (Wd D [(h, .inr (11, [.ref h_0, .ref h_1, .ref h_2, .ref h_3, .ref h_4, .ref h_5, .ref h_6, .ref h_7, .ref h_8, .ref h_9, .ref h_10, .ref h_11, .ref h_12, .int h_13, .int h_14]))] ct sz)) (va_Qi (fun (r : Int32) (u : Unit) => r = y) (fun _ _ => True) (va_A [(h, .inr (11, [.ref h_0, .ref h_1, .ref h_2, .ref h_3, .ref h_4, .ref h_5, .ref h_6, .ref h_7, .ref h_8, .ref h_9, .ref h_10, .ref h_11, .ref h_12, .int h_13, .int h_14]))] sz)) 0 0 (va_A [(h, .inr (11, [.ref h_0, .ref h_1, .ref h_2, .ref h_3, .ref h_4, .ref h_5, .ref h_6, .ref h_7, .ref h_8, .ref h_9, .ref h_10, .ref h_11, .ref h_12, .int h_13, .int h_14]))] sz) := by
  refine Met.ofW (cc := cX11_accept) (maxL := 2) (ret := (some .int)) (by decide) rfl ?_
  intro p e s m args below meth c s₁ B hml hv
  obtain ⟨rfl, hsz, hP, hKK, hD0⟩ := hv
  have hK := hKK.1
  have hx := B.exec
  have hb := B.bytes
  have hr := B.returns
  have hg : ∀ w ∈ gl, w.before _ s = true := fun w h => atoms_spec (ws := wk yX11_accept cX11_accept 2 (some .int)) B.pre w (List.mem_cons_of_mem _ h)
  have hown : s.vm.findClass RX11 = some m.cls := findClass_of_methodNamed B.named
  have hlocks := B.notSynchronized
  subst hsz
  have hD := hD0.self (sz := s.heap.size)
  generalize hAe : va_A [(h, .inr (11, [.ref h_0, .ref h_1, .ref h_2, .ref h_3, .ref h_4, .ref h_5, .ref h_6, .ref h_7, .ref h_8, .ref h_9, .ref h_10, .ref h_11, .ref h_12, .int h_13, .int h_14]))] s.heap.size = A at hD ⊢
  have hA : ∀ q : Nat, s.heap.size ≤ q → A q := fun q h => by rw [← hAe]; exact Or.inr h
  have hS : va_S A s.heap s.heap [] := va_S.rf
  have hl := lv_entry ([.ref h, .int y]) (n := 2) (Nat.le_of_ble_eq_true rfl)
  rw [lg_entry_eq]
  generalize (lg_sl ([.ref h, .int y]) ++ List.replicate (2 - (lg_sl ([.ref h, .int y])).length) Slot.unset).toArray = ls at hl ⊢
  have hl : lv_has ls 2 [(0, .ref h), (1, .int y)] := hl
  refine lv_aload_n hx hb dX11_accept_0 rfl (lv_at hl 0 rfl) ?_
  refine lv_iconst (v := 0) hx hb dX11_accept_1 (by decide) ?_
  refine va_put (D := D) (ci := 11) (v := .int 0) (ty := .int) (C := RX11) (T := TX11) (N := 15) hx hb hg inX11 tyX11 tyX11_ok nmX11 hown hK hP hD hS 0 rfl rfl 14 (by decide) (hg _ wd_697) (fun _ h9 => h9) rfl (by decide +kernel) rfl rfl (Nat.le_of_ble_eq_true rfl) dX11_accept_2 (fun H locs hP hD hS => ?_)
  have hP : va_P D vwCl [(h, .inr (11, [.ref h_0, .ref h_1, .ref h_2, .ref h_3, .ref h_4, .ref h_5, .ref h_6, .ref h_7, .ref h_8, .ref h_9, .ref h_10, .ref h_11, .ref h_12, .int h_13, .int 0]))] H := hP
  have hD : va_D A [(h, .inr (11, [.ref h_0, .ref h_1, .ref h_2, .ref h_3, .ref h_4, .ref h_5, .ref h_6, .ref h_7, .ref h_8, .ref h_9, .ref h_10, .ref h_11, .ref h_12, .int h_13, .int 0]))] := hD
  refine lv_iload_n hx hb dX11_accept_5 rfl (lv_at hl 1 rfl) ?_
  exact W.iret (v := y) hx hb hr (fun t ht hW => ⟨⟨y, (), rfl, rfl, trivial⟩, hS.F ht⟩) hS.2.2 dX11_accept_6
theorem dX1_holds_0 : decode cX1_holds 0 = .ok (.iload_n 1, 1) := by decide +kernel
theorem dX1_holds_1 : decode cX1_holds 1 = .ok (.ifCond .lt 15, 3) := by decide +kernel
theorem dX1_holds_16 : decode cX1_holds 16 = .ok (.iconst 0, 1) := by decide +kernel
theorem dX1_holds_17 : decode cX1_holds 17 = .ok (.ireturn, 1) := by decide +kernel
theorem dX1_holds_4 : decode cX1_holds 4 = .ok (.iload_n 1, 1) := by decide +kernel
theorem dX1_holds_5 : decode cX1_holds 5 = .ok (.aload_n 0, 1) := by decide +kernel
theorem dX1_holds_6 : decode cX1_holds 6 = .ok (.getfield 59, 3) := by decide +kernel
theorem wd_283 : (Cond.fieldLink "VoteRoll$Book" 59 "VoteRoll$Book" "size" "I") ∈ gl := gl_at 283 (by decide +kernel) (by decide +kernel)
theorem dX1_holds_9 : decode cX1_holds 9 = .ok (.if_icmp .ge 7, 3) := by decide +kernel
theorem dX1_holds_12 : decode cX1_holds 12 = .ok (.iconst 1, 1) := by decide +kernel
theorem dX1_holds_13 : decode cX1_holds 13 = .ok (.goto 4, 3) := by decide +kernel
set_option maxHeartbeats 4000000 in
set_option maxRecDepth 100000 in
theorem c_holds0 (l : Launch) (D : va_G) (ct : Nat → ClassId) (b : Nat) (v : Int32) (b_0 : Nat) (b_1 : Nat) (b_2 : Nat) (b_3 : Nat) (b_4 : Nat) (b_5 : Nat) (b_6 : Nat) (b_7 : Nat) (b_8 : Nat) (b_9 : Nat) (b_10 : Nat) (b_11 : Nat) (b_12 : Nat)  : Met l yX1_holds (wk yX1_holds cX1_holds 2 (some .boolean)) { frames := 0, cells := 0, slots := 0, locals := 0 } (va_Pc [.ref b, .int v] (Wr D [(b, .inr (1, [.ref b_0, .ref b_1, .ref b_2, .ref b_3, .ref b_4, .ref b_5, .ref b_6, .ref b_7, .ref b_8, .ref b_9, .ref b_10, .ref b_11, .ref b_12, .int 0]))] ct)) (zI (fun r : Int32 => r = 0)) 0 0 (fun _ => False) := by
  refine Met.ofW (cc := cX1_holds) (maxL := 2) (ret := (some .boolean)) (by decide) rfl ?_
  intro p e s m args below meth c s₁ B hml hv
  obtain ⟨rfl, hP, hKK⟩ := hv
  have hK := hKK.1
  have hx := B.exec
  have hb := B.bytes
  have hr := B.returns
  have hg : ∀ w ∈ gl, w.before _ s = true := fun w h => atoms_spec (ws := wk yX1_holds cX1_holds 2 (some .boolean)) B.pre w (List.mem_cons_of_mem _ h)
  have hown : s.vm.findClass RX1 = some m.cls := findClass_of_methodNamed B.named
  have hlocks := B.notSynchronized
  have hl := lv_entry ([.ref b, .int v]) (n := 2) (Nat.le_of_ble_eq_true rfl)
  rw [lg_entry_eq]
  generalize (lg_sl ([.ref b, .int v]) ++ List.replicate (2 - (lg_sl ([.ref b, .int v])).length) Slot.unset).toArray = ls at hl ⊢
  have hl : lv_has ls 2 [(0, .ref b), (1, .int v)] := hl
  refine lv_iload_n hx hb dX1_holds_0 rfl (lv_at hl 1 rfl) ?_
  refine lv_if_lt (tgt := 16) hx hb dX1_holds_1 (by decide) (fun c_1 => ?_) (fun c_1 => ?_)
  · refine lv_iconst (v := 0) hx hb dX1_holds_16 (by decide) ?_
    exact W.zret (v := 0) hx hb hr rfl (fun t ht hW => ⟨0, rfl, rfl, ht⟩) (fun q h => by cases h) dX1_holds_17
  · refine lv_iload_n hx hb dX1_holds_4 rfl (lv_at hl 1 rfl) ?_
    refine lv_aload_n hx hb dX1_holds_5 rfl (lv_at hl 0 rfl) ?_
    refine va_get (D := D) (ci := 1) (v := .int 0) (C := RX1) (T := TX1) (N := 14) hx hb hg inX1 hown hK hP 0 rfl rfl 13 (by decide) (hg _ wd_283) (fun _ h9 => h9) rfl dX1_holds_6 ?_
    refine lv_icmp_ge (tgt := 16) hx hb dX1_holds_9 (by decide) (fun c_2 => ?_) (fun c_2 => ?_)
    · refine lv_iconst (v := 0) hx hb dX1_holds_16 (by decide) ?_
      exact W.zret (v := 0) hx hb hr rfl (fun t ht hW => ⟨0, rfl, rfl, ht⟩) (fun q h => by cases h) dX1_holds_17
    · refine lv_iconst (v := 1) hx hb dX1_holds_12 (by decide) ?_
      refine lv_goto (tgt := 17) hx hb dX1_holds_13 (by decide) ?_
      exact W.zret (v := 1) hx hb hr rfl (fun t ht hW => ⟨1, rfl, (by exfalso; simp only [Int32.lt_iff_toInt_lt, Int32.le_iff_toInt_le, show (0 : Int32).toInt = 0 from rfl] at *; omega), ht⟩) (fun q h => by cases h) dX1_holds_17
def sp_costs (a1 : Int32) (a2 : Int32) : Int32 := if bw a1 0 1000 = 0 then (-1) else if bw a2 0 1000 = 0 then (-1) else 0
theorem dX11_costs_0 : decode cX11_costs 0 = .ok (.iload_n 1, 1) := by decide +kernel
theorem dX11_costs_1 : decode cX11_costs 1 = .ok (.iconst 0, 1) := by decide +kernel
theorem dX11_costs_2 : decode cX11_costs 2 = .ok (.sipush 1000, 3) := by decide +kernel
theorem dX11_costs_5 : decode cX11_costs 5 = .ok (.invokestatic 150, 3) := by decide +kernel
theorem dX11_costs_8 : decode cX11_costs 8 = .ok (.ifCond .eq 14, 3) := by decide +kernel
theorem dX11_costs_22 : decode cX11_costs 22 = .ok (.aload_n 0, 1) := by decide +kernel
theorem dX11_costs_23 : decode cX11_costs 23 = .ok (.iconst (-1), 1) := by decide +kernel
theorem dX11_costs_24 : decode cX11_costs 24 = .ok (.invokevirtual 118, 3) := by decide +kernel
theorem wd_781 : (Cond.code yX11_refuse cX11_refuse 2 (some .int)) ∈ gl := gl_at 781 (by decide +kernel) (by decide +kernel)
theorem wd_778 : (Cond.methodLink "VoteRoll" 118 yX11_refuse) ∈ gl := gl_at 778 (by decide +kernel) (by decide +kernel)
theorem wd_780 : (Cond.instanceMethod yX11_refuse) ∈ gl := gl_at 780 (by decide +kernel) (by decide +kernel)
theorem wd_3 : (Cond.selects "VoteRoll" yX11_refuse yX11_refuse) ∈ gl := gl_at 3 (by decide +kernel) (by decide +kernel)
theorem dX11_costs_27 : decode cX11_costs 27 = .ok (.ireturn, 1) := by decide +kernel
theorem dX11_costs_11 : decode cX11_costs 11 = .ok (.iload_n 2, 1) := by decide +kernel
theorem dX11_costs_12 : decode cX11_costs 12 = .ok (.iconst 0, 1) := by decide +kernel
theorem dX11_costs_13 : decode cX11_costs 13 = .ok (.sipush 1000, 3) := by decide +kernel
theorem dX11_costs_16 : decode cX11_costs 16 = .ok (.invokestatic 150, 3) := by decide +kernel
theorem dX11_costs_19 : decode cX11_costs 19 = .ok (.ifCond .ne 9, 3) := by decide +kernel
theorem dX11_costs_28 : decode cX11_costs 28 = .ok (.aload_n 0, 1) := by decide +kernel
theorem dX11_costs_29 : decode cX11_costs 29 = .ok (.getfield 96, 3) := by decide +kernel
theorem wd_695 : (Cond.fieldLink "VoteRoll" 96 "VoteRoll" "planner" "LVoteRoll$Plan;") ∈ gl := gl_at 695 (by decide +kernel) (by decide +kernel)
theorem dX11_costs_32 : decode cX11_costs 32 = .ok (.iload_n 1, 1) := by decide +kernel
theorem dX11_costs_33 : decode cX11_costs 33 = .ok (.putfield 399, 3) := by decide +kernel
theorem wd_643 : (Cond.fieldLink "VoteRoll" 399 "VoteRoll$Plan" "letterCost" "I") ∈ gl := gl_at 643 (by decide +kernel) (by decide +kernel)
theorem dX11_costs_36 : decode cX11_costs 36 = .ok (.aload_n 0, 1) := by decide +kernel
theorem dX11_costs_37 : decode cX11_costs 37 = .ok (.getfield 96, 3) := by decide +kernel
theorem dX11_costs_40 : decode cX11_costs 40 = .ok (.iload_n 2, 1) := by decide +kernel
theorem dX11_costs_41 : decode cX11_costs 41 = .ok (.putfield 402, 3) := by decide +kernel
theorem wd_645 : (Cond.fieldLink "VoteRoll" 402 "VoteRoll$Plan" "knockCost" "I") ∈ gl := gl_at 645 (by decide +kernel) (by decide +kernel)
theorem dX11_costs_44 : decode cX11_costs 44 = .ok (.aload_n 0, 1) := by decide +kernel
theorem dX11_costs_45 : decode cX11_costs 45 = .ok (.iconst 0, 1) := by decide +kernel
theorem dX11_costs_46 : decode cX11_costs 46 = .ok (.invokevirtual 140, 3) := by decide +kernel
theorem wd_808 : (Cond.code yX11_accept cX11_accept 2 (some .int)) ∈ gl := gl_at 808 (by decide +kernel) (by decide +kernel)
theorem wd_805 : (Cond.methodLink "VoteRoll" 140 yX11_accept) ∈ gl := gl_at 805 (by decide +kernel) (by decide +kernel)
theorem wd_807 : (Cond.instanceMethod yX11_accept) ∈ gl := gl_at 807 (by decide +kernel) (by decide +kernel)
theorem wd_5 : (Cond.selects "VoteRoll" yX11_accept yX11_accept) ∈ gl := gl_at 5 (by decide +kernel) (by decide +kernel)
theorem dX11_costs_49 : decode cX11_costs 49 = .ok (.ireturn, 1) := by decide +kernel
set_option maxHeartbeats 4000000 in
set_option maxRecDepth 100000 in
theorem c_costs (l : Launch) (D : va_G) (ct : Nat → ClassId) (h : Nat) (a1 : Int32) (a2 : Int32) (h_0 : Nat) (h_1 : Nat) (h_2 : Nat) (h_3 : Nat) (h_4 : Nat) (h_5 : Nat) (h_6 : Nat) (h_7 : Nat) (h_8 : Nat) (h_9 : Nat) (h_10 : Nat) (h_11 : Nat) (h_12 : Nat) (h_13 : Int32) (h_14 : Int32) (h_12_0 : Nat) (h_12_1 : Nat) (h_12_2 : Int32) (h_12_3 : Nat) (h_12_4 : Nat) (h_12_5 : Int32) (h_12_6 : Int32) (h_12_7 : Nat) (h_12_8 : Int32) (h_12_9 : Int32) (h_12_10 : Int32) (h_12_11 : Nat) (h_12_12 : Nat) (sz : Nat)  : Met l yX11_costs (wk yX11_costs cX11_costs 3 (some .int)) { frames := 1, cells := 0, slots := 0, locals := 22 } (va_Pc [.ref h, .int a1, .int a2] (Wd D [(h, .inr (11, [.ref h_0, .ref h_1, .ref h_2, .ref h_3, .ref h_4, .ref h_5, .ref h_6, .ref h_7, .ref h_8, .ref h_9, .ref h_10, .ref h_11, .ref h_12, .int h_13, .int h_14])), (h_12, .inr (9, [.ref h_12_0, .ref h_12_1, .int h_12_2, .ref h_12_3, .ref h_12_4, .int h_12_5, .int h_12_6, .ref h_12_7, .int h_12_8, .int h_12_9, .int h_12_10, .ref h_12_11, .ref h_12_12]))] ct sz)) (va_Qi (fun (r : Int32) (u : Unit) => r = sp_costs a1 a2) (fun _ _ => True) (va_A [(h, .inr (11, [.ref h_0, .ref h_1, .ref h_2, .ref h_3, .ref h_4, .ref h_5, .ref h_6, .ref h_7, .ref h_8, .ref h_9, .ref h_10, .ref h_11, .ref h_12, .int h_13, .int h_14])), (h_12, .inr (9, [.ref h_12_0, .ref h_12_1, .int h_12_2, .ref h_12_3, .ref h_12_4, .int h_12_5, .int h_12_6, .ref h_12_7, .int h_12_8, .int h_12_9, .int h_12_10, .ref h_12_11, .ref h_12_12]))] sz)) 0 0 (va_A [(h, .inr (11, [.ref h_0, .ref h_1, .ref h_2, .ref h_3, .ref h_4, .ref h_5, .ref h_6, .ref h_7, .ref h_8, .ref h_9, .ref h_10, .ref h_11, .ref h_12, .int h_13, .int h_14])), (h_12, .inr (9, [.ref h_12_0, .ref h_12_1, .int h_12_2, .ref h_12_3, .ref h_12_4, .int h_12_5, .int h_12_6, .ref h_12_7, .int h_12_8, .int h_12_9, .int h_12_10, .ref h_12_11, .ref h_12_12]))] sz) := by
  refine Met.ofW (cc := cX11_costs) (maxL := 3) (ret := (some .int)) (by decide) rfl ?_
  intro p e s m args below meth c s₁ B hml hv
  obtain ⟨rfl, hsz, hP, hKK, hD0⟩ := hv
  have hK := hKK.1
  have hx := B.exec
  have hb := B.bytes
  have hr := B.returns
  have hg : ∀ w ∈ gl, w.before _ s = true := fun w h => atoms_spec (ws := wk yX11_costs cX11_costs 3 (some .int)) B.pre w (List.mem_cons_of_mem _ h)
  have hown : s.vm.findClass RX11 = some m.cls := findClass_of_methodNamed B.named
  have hlocks := B.notSynchronized
  subst hsz
  have hD := hD0.self (sz := s.heap.size)
  generalize hAe : va_A [(h, .inr (11, [.ref h_0, .ref h_1, .ref h_2, .ref h_3, .ref h_4, .ref h_5, .ref h_6, .ref h_7, .ref h_8, .ref h_9, .ref h_10, .ref h_11, .ref h_12, .int h_13, .int h_14])), (h_12, .inr (9, [.ref h_12_0, .ref h_12_1, .int h_12_2, .ref h_12_3, .ref h_12_4, .int h_12_5, .int h_12_6, .ref h_12_7, .int h_12_8, .int h_12_9, .int h_12_10, .ref h_12_11, .ref h_12_12]))] s.heap.size = A at hD ⊢
  have hA : ∀ q : Nat, s.heap.size ≤ q → A q := fun q h => by rw [← hAe]; exact Or.inr h
  have hS : va_S A s.heap s.heap [] := va_S.rf
  have hl := lv_entry ([.ref h, .int a1, .int a2]) (n := 3) (Nat.le_of_ble_eq_true rfl)
  rw [lg_entry_eq]
  generalize (lg_sl ([.ref h, .int a1, .int a2]) ++ List.replicate (3 - (lg_sl ([.ref h, .int a1, .int a2])).length) Slot.unset).toArray = ls at hl ⊢
  have hl : lv_has ls 3 [(0, .ref h), (1, .int a1), (2, .int a2)] := hl
  refine lv_iload_n hx hb dX11_costs_0 rfl (lv_at hl 1 rfl) ?_
  refine lv_iconst (v := 0) hx hb dX11_costs_1 (by decide) ?_
  refine lv_sipush (v := 1000) hx hb dX11_costs_2 (by decide) ?_
  have hPc := hP.sub (ws' := []) [] rfl
  refine z_calli (va_runS (As := [.int a1, .int 0, .int 1000]) (rest := []) ⟨hx, hb, hml, hown, hg⟩ (c_within l D ct a1 0 1000 ) (va_cwS 3 hg (gd_S wd_959 wd_917 wd_107 wd_918) rfl rfl rfl (by decide +kernel) ⟨Nat.le_of_ble_eq_true rfl, Nat.le_of_ble_eq_true rfl⟩) (Wr_S hPc hKK) rfl rfl hl.1 rfl (lv_room (Nat.le_of_ble_eq_true rfl)) dX11_costs_5 ⟨Nat.le_of_ble_eq_true rfl, Nat.le_of_ble_eq_true rfl⟩) (fun r_1 hw_1 => ?_)
  subst hw_1
  refine lv_if_eq (tgt := 22) hx hb dX11_costs_8 (by decide) (fun c_2 => ?_) (fun c_2 => ?_)
  · refine lv_aload_n hx hb dX11_costs_22 rfl (lv_at hl 0 rfl) ?_
    refine lv_iconst (v := (-1)) hx hb dX11_costs_23 (by decide) ?_
    have hPc := hP.sub (ws' := [(h, .inr (11, [.ref h_0, .ref h_1, .ref h_2, .ref h_3, .ref h_4, .ref h_5, .ref h_6, .ref h_7, .ref h_8, .ref h_9, .ref h_10, .ref h_11, .ref h_12, .int h_13, .int h_14]))]) [0] rfl
    have hDc := hD.sub (ws' := [(h, .inr (11, [.ref h_0, .ref h_1, .ref h_2, .ref h_3, .ref h_4, .ref h_5, .ref h_6, .ref h_7, .ref h_8, .ref h_9, .ref h_10, .ref h_11, .ref h_12, .int h_13, .int h_14]))]) [0] (by decide) rfl
    have hFc := va_free (wc := [(h, .inr (11, [.ref h_0, .ref h_1, .ref h_2, .ref h_3, .ref h_4, .ref h_5, .ref h_6, .ref h_7, .ref h_8, .ref h_9, .ref h_10, .ref h_11, .ref h_12, .int h_13, .int h_14]))]) hD hS hA [0] rfl
    refine va_calli (va_runV (As := [.int (-1)]) (rest := []) ⟨hx, hb, hml, hown, hg⟩ (c_refuse l D ct h (-1) h_0 h_1 h_2 h_3 h_4 h_5 h_6 h_7 h_8 h_9 h_10 h_11 h_12 h_13 h_14 s.heap.size ) (cwV 1 hg (gd_V wd_778 wd_780 wd_3 wd_107 wd_781) rfl rfl rfl (by decide +kernel) ⟨Nat.le_of_ble_eq_true rfl, Nat.le_of_ble_eq_true rfl⟩) (Wd_V hPc hKK hDc (va_recv hK hPc (ci := 11) (q0 := 0) rfl rfl)) rfl rfl hl.1 rfl (lv_room (Nat.le_of_ble_eq_true rfl)) dX11_costs_24 ⟨Nat.le_of_ble_eq_true rfl, Nat.le_of_ble_eq_true rfl⟩) hS (fun q _ h => hFc q h) hFc (fun r_3 u_3 t_3 H1 locs ht_3 hvm_3 hw_3 hB_3 hz_3 hk_3 hS => ?_)
    obtain ⟨hP, hD⟩ := va_join (wr := [(h_12, .inr (9, [.ref h_12_0, .ref h_12_1, .int h_12_2, .ref h_12_3, .ref h_12_4, .int h_12_5, .int h_12_6, .ref h_12_7, .int h_12_8, .int h_12_9, .int h_12_10, .ref h_12_11, .ref h_12_12]))]) (w1 := []) hP hD [0] [1] rfl rfl (by decide) (by decide) hk_3 hFc (fun k q h => by simp at h) ⟨fun i j p q h => by simp at h, fun k q h => by simp at h⟩
    generalize H1 = H at hP hS ⊢
    have hP : va_P D vwCl [(h_12, .inr (9, [.ref h_12_0, .ref h_12_1, .int h_12_2, .ref h_12_3, .ref h_12_4, .int h_12_5, .int h_12_6, .ref h_12_7, .int h_12_8, .int h_12_9, .int h_12_10, .ref h_12_11, .ref h_12_12]))] H := hP
    have hD : va_D A [(h_12, .inr (9, [.ref h_12_0, .ref h_12_1, .int h_12_2, .ref h_12_3, .ref h_12_4, .int h_12_5, .int h_12_6, .ref h_12_7, .int h_12_8, .int h_12_9, .int h_12_10, .ref h_12_11, .ref h_12_12]))] := hD
    subst hw_3
    exact W.iret (v := (-1)) hx hb hr (fun t ht hW => ⟨⟨(-1), (), rfl, (by simp [sp_costs, c_2]), trivial⟩, hS.F ht⟩) hS.2.2 dX11_costs_27
  · refine lv_iload_n hx hb dX11_costs_11 rfl (lv_at hl 2 rfl) ?_
    refine lv_iconst (v := 0) hx hb dX11_costs_12 (by decide) ?_
    refine lv_sipush (v := 1000) hx hb dX11_costs_13 (by decide) ?_
    have hPc := hP.sub (ws' := []) [] rfl
    refine z_calli (va_runS (As := [.int a2, .int 0, .int 1000]) (rest := []) ⟨hx, hb, hml, hown, hg⟩ (c_within l D ct a2 0 1000 ) (va_cwS 3 hg (gd_S wd_959 wd_917 wd_107 wd_918) rfl rfl rfl (by decide +kernel) ⟨Nat.le_of_ble_eq_true rfl, Nat.le_of_ble_eq_true rfl⟩) (Wr_S hPc hKK) rfl rfl hl.1 rfl (lv_room (Nat.le_of_ble_eq_true rfl)) dX11_costs_16 ⟨Nat.le_of_ble_eq_true rfl, Nat.le_of_ble_eq_true rfl⟩) (fun r_4 hw_4 => ?_)
    subst hw_4
    refine lv_if_ne (tgt := 28) hx hb dX11_costs_19 (by decide) (fun c_5 => ?_) (fun c_5 => ?_)
    · refine lv_aload_n hx hb dX11_costs_28 rfl (lv_at hl 0 rfl) ?_
      refine va_get (D := D) (ci := 11) (v := .ref h_12) (C := RX11) (T := TX11) (N := 15) hx hb hg inX11 hown hK hP 0 rfl rfl 12 (by decide) (hg _ wd_695) (fun _ h9 => h9) rfl dX11_costs_29 ?_
      refine lv_iload_n hx hb dX11_costs_32 rfl (lv_at hl 1 rfl) ?_
      refine va_put (D := D) (ci := 9) (v := .int a1) (ty := .int) (C := RX9) (T := TX9) (N := 13) hx hb hg inX9 tyX9 tyX9_ok nmX9 hown hK hP hD hS 1 rfl rfl 5 (by decide) (hg _ wd_643) (fun _ h9 => h9) rfl (by decide +kernel) rfl rfl (Nat.le_of_ble_eq_true rfl) dX11_costs_33 (fun H locs hP hD hS => ?_)
      have hP : va_P D vwCl [(h, .inr (11, [.ref h_0, .ref h_1, .ref h_2, .ref h_3, .ref h_4, .ref h_5, .ref h_6, .ref h_7, .ref h_8, .ref h_9, .ref h_10, .ref h_11, .ref h_12, .int h_13, .int h_14])), (h_12, .inr (9, [.ref h_12_0, .ref h_12_1, .int h_12_2, .ref h_12_3, .ref h_12_4, .int a1, .int h_12_6, .ref h_12_7, .int h_12_8, .int h_12_9, .int h_12_10, .ref h_12_11, .ref h_12_12]))] H := hP
      have hD : va_D A [(h, .inr (11, [.ref h_0, .ref h_1, .ref h_2, .ref h_3, .ref h_4, .ref h_5, .ref h_6, .ref h_7, .ref h_8, .ref h_9, .ref h_10, .ref h_11, .ref h_12, .int h_13, .int h_14])), (h_12, .inr (9, [.ref h_12_0, .ref h_12_1, .int h_12_2, .ref h_12_3, .ref h_12_4, .int a1, .int h_12_6, .ref h_12_7, .int h_12_8, .int h_12_9, .int h_12_10, .ref h_12_11, .ref h_12_12]))] := hD
      refine lv_aload_n hx hb dX11_costs_36 rfl (lv_at hl 0 rfl) ?_
      refine va_get (D := D) (ci := 11) (v := .ref h_12) (C := RX11) (T := TX11) (N := 15) hx hb hg inX11 hown hK hP 0 rfl rfl 12 (by decide) (hg _ wd_695) (fun _ h9 => h9) rfl dX11_costs_37 ?_
      refine lv_iload_n hx hb dX11_costs_40 rfl (lv_at hl 2 rfl) ?_
      refine va_put (D := D) (ci := 9) (v := .int a2) (ty := .int) (C := RX9) (T := TX9) (N := 13) hx hb hg inX9 tyX9 tyX9_ok nmX9 hown hK hP hD hS 1 rfl rfl 6 (by decide) (hg _ wd_645) (fun _ h9 => h9) rfl (by decide +kernel) rfl rfl (Nat.le_of_ble_eq_true rfl) dX11_costs_41 (fun H locs hP hD hS => ?_)
      have hP : va_P D vwCl [(h, .inr (11, [.ref h_0, .ref h_1, .ref h_2, .ref h_3, .ref h_4, .ref h_5, .ref h_6, .ref h_7, .ref h_8, .ref h_9, .ref h_10, .ref h_11, .ref h_12, .int h_13, .int h_14])), (h_12, .inr (9, [.ref h_12_0, .ref h_12_1, .int h_12_2, .ref h_12_3, .ref h_12_4, .int a1, .int a2, .ref h_12_7, .int h_12_8, .int h_12_9, .int h_12_10, .ref h_12_11, .ref h_12_12]))] H := hP
      have hD : va_D A [(h, .inr (11, [.ref h_0, .ref h_1, .ref h_2, .ref h_3, .ref h_4, .ref h_5, .ref h_6, .ref h_7, .ref h_8, .ref h_9, .ref h_10, .ref h_11, .ref h_12, .int h_13, .int h_14])), (h_12, .inr (9, [.ref h_12_0, .ref h_12_1, .int h_12_2, .ref h_12_3, .ref h_12_4, .int a1, .int a2, .ref h_12_7, .int h_12_8, .int h_12_9, .int h_12_10, .ref h_12_11, .ref h_12_12]))] := hD
      refine lv_aload_n hx hb dX11_costs_44 rfl (lv_at hl 0 rfl) ?_
      refine lv_iconst (v := 0) hx hb dX11_costs_45 (by decide) ?_
      have hPc := hP.sub (ws' := [(h, .inr (11, [.ref h_0, .ref h_1, .ref h_2, .ref h_3, .ref h_4, .ref h_5, .ref h_6, .ref h_7, .ref h_8, .ref h_9, .ref h_10, .ref h_11, .ref h_12, .int h_13, .int h_14]))]) [0] rfl
      have hDc := hD.sub (ws' := [(h, .inr (11, [.ref h_0, .ref h_1, .ref h_2, .ref h_3, .ref h_4, .ref h_5, .ref h_6, .ref h_7, .ref h_8, .ref h_9, .ref h_10, .ref h_11, .ref h_12, .int h_13, .int h_14]))]) [0] (by decide) rfl
      have hFc := va_free (wc := [(h, .inr (11, [.ref h_0, .ref h_1, .ref h_2, .ref h_3, .ref h_4, .ref h_5, .ref h_6, .ref h_7, .ref h_8, .ref h_9, .ref h_10, .ref h_11, .ref h_12, .int h_13, .int h_14]))]) hD hS hA [0] rfl
      refine va_calli (va_runV (As := [.int 0]) (rest := []) ⟨hx, hb, hml, hown, hg⟩ (c_accept l D ct h 0 h_0 h_1 h_2 h_3 h_4 h_5 h_6 h_7 h_8 h_9 h_10 h_11 h_12 h_13 h_14 H.size ) (cwV 1 hg (gd_V wd_805 wd_807 wd_5 wd_107 wd_808) rfl rfl rfl (by decide +kernel) ⟨Nat.le_of_ble_eq_true rfl, Nat.le_of_ble_eq_true rfl⟩) (Wd_V hPc hKK hDc (va_recv hK hPc (ci := 11) (q0 := 0) rfl rfl)) rfl rfl hl.1 rfl (lv_room (Nat.le_of_ble_eq_true rfl)) dX11_costs_46 ⟨Nat.le_of_ble_eq_true rfl, Nat.le_of_ble_eq_true rfl⟩) hS (fun q _ h => hFc q h) hFc (fun r_6 u_6 t_6 H1 locs ht_6 hvm_6 hw_6 hB_6 hz_6 hk_6 hS => ?_)
      obtain ⟨hP, hD⟩ := va_join (wr := [(h_12, .inr (9, [.ref h_12_0, .ref h_12_1, .int h_12_2, .ref h_12_3, .ref h_12_4, .int a1, .int a2, .ref h_12_7, .int h_12_8, .int h_12_9, .int h_12_10, .ref h_12_11, .ref h_12_12]))]) (w1 := []) hP hD [0] [1] rfl rfl (by decide) (by decide) hk_6 hFc (fun k q h => by simp at h) ⟨fun i j p q h => by simp at h, fun k q h => by simp at h⟩
      generalize H1 = H at hP hS ⊢
      have hP : va_P D vwCl [(h_12, .inr (9, [.ref h_12_0, .ref h_12_1, .int h_12_2, .ref h_12_3, .ref h_12_4, .int a1, .int a2, .ref h_12_7, .int h_12_8, .int h_12_9, .int h_12_10, .ref h_12_11, .ref h_12_12]))] H := hP
      have hD : va_D A [(h_12, .inr (9, [.ref h_12_0, .ref h_12_1, .int h_12_2, .ref h_12_3, .ref h_12_4, .int a1, .int a2, .ref h_12_7, .int h_12_8, .int h_12_9, .int h_12_10, .ref h_12_11, .ref h_12_12]))] := hD
      subst hw_6
      exact W.iret (v := 0) hx hb hr (fun t ht hW => ⟨⟨0, (), rfl, (by simp [sp_costs, c_2, c_5]), trivial⟩, hS.F ht⟩) hS.2.2 dX11_costs_49
    · refine lv_aload_n hx hb dX11_costs_22 rfl (lv_at hl 0 rfl) ?_
      refine lv_iconst (v := (-1)) hx hb dX11_costs_23 (by decide) ?_
      have hPc := hP.sub (ws' := [(h, .inr (11, [.ref h_0, .ref h_1, .ref h_2, .ref h_3, .ref h_4, .ref h_5, .ref h_6, .ref h_7, .ref h_8, .ref h_9, .ref h_10, .ref h_11, .ref h_12, .int h_13, .int h_14]))]) [0] rfl
      have hDc := hD.sub (ws' := [(h, .inr (11, [.ref h_0, .ref h_1, .ref h_2, .ref h_3, .ref h_4, .ref h_5, .ref h_6, .ref h_7, .ref h_8, .ref h_9, .ref h_10, .ref h_11, .ref h_12, .int h_13, .int h_14]))]) [0] (by decide) rfl
      have hFc := va_free (wc := [(h, .inr (11, [.ref h_0, .ref h_1, .ref h_2, .ref h_3, .ref h_4, .ref h_5, .ref h_6, .ref h_7, .ref h_8, .ref h_9, .ref h_10, .ref h_11, .ref h_12, .int h_13, .int h_14]))]) hD hS hA [0] rfl
      refine va_calli (va_runV (As := [.int (-1)]) (rest := []) ⟨hx, hb, hml, hown, hg⟩ (c_refuse l D ct h (-1) h_0 h_1 h_2 h_3 h_4 h_5 h_6 h_7 h_8 h_9 h_10 h_11 h_12 h_13 h_14 s.heap.size ) (cwV 1 hg (gd_V wd_778 wd_780 wd_3 wd_107 wd_781) rfl rfl rfl (by decide +kernel) ⟨Nat.le_of_ble_eq_true rfl, Nat.le_of_ble_eq_true rfl⟩) (Wd_V hPc hKK hDc (va_recv hK hPc (ci := 11) (q0 := 0) rfl rfl)) rfl rfl hl.1 rfl (lv_room (Nat.le_of_ble_eq_true rfl)) dX11_costs_24 ⟨Nat.le_of_ble_eq_true rfl, Nat.le_of_ble_eq_true rfl⟩) hS (fun q _ h => hFc q h) hFc (fun r_7 u_7 t_7 H1 locs ht_7 hvm_7 hw_7 hB_7 hz_7 hk_7 hS => ?_)
      obtain ⟨hP, hD⟩ := va_join (wr := [(h_12, .inr (9, [.ref h_12_0, .ref h_12_1, .int h_12_2, .ref h_12_3, .ref h_12_4, .int h_12_5, .int h_12_6, .ref h_12_7, .int h_12_8, .int h_12_9, .int h_12_10, .ref h_12_11, .ref h_12_12]))]) (w1 := []) hP hD [0] [1] rfl rfl (by decide) (by decide) hk_7 hFc (fun k q h => by simp at h) ⟨fun i j p q h => by simp at h, fun k q h => by simp at h⟩
      generalize H1 = H at hP hS ⊢
      have hP : va_P D vwCl [(h_12, .inr (9, [.ref h_12_0, .ref h_12_1, .int h_12_2, .ref h_12_3, .ref h_12_4, .int h_12_5, .int h_12_6, .ref h_12_7, .int h_12_8, .int h_12_9, .int h_12_10, .ref h_12_11, .ref h_12_12]))] H := hP
      have hD : va_D A [(h_12, .inr (9, [.ref h_12_0, .ref h_12_1, .int h_12_2, .ref h_12_3, .ref h_12_4, .int h_12_5, .int h_12_6, .ref h_12_7, .int h_12_8, .int h_12_9, .int h_12_10, .ref h_12_11, .ref h_12_12]))] := hD
      subst hw_7
      exact W.iret (v := (-1)) hx hb hr (fun t ht hW => ⟨⟨(-1), (), rfl, (by simp [sp_costs, c_2, c_5]), trivial⟩, hS.F ht⟩) hS.2.2 dX11_costs_27
def sp_chances (a1 : Int32) (a2 : Int32) (a3 : Int32) : Int32 := if bw a1 0 3 = 0 then (-1) else if bw a2 0 1000 = 0 then (-1) else if bw a3 0 1000 = 0 then (-1) else 0
theorem dX11_chances_0 : decode cX11_chances 0 = .ok (.iload_n 1, 1) := by decide +kernel
theorem dX11_chances_1 : decode cX11_chances 1 = .ok (.iconst 0, 1) := by decide +kernel
theorem dX11_chances_2 : decode cX11_chances 2 = .ok (.iconst 3, 1) := by decide +kernel
theorem dX11_chances_3 : decode cX11_chances 3 = .ok (.invokestatic 150, 3) := by decide +kernel
theorem dX11_chances_6 : decode cX11_chances 6 = .ok (.ifCond .eq 25, 3) := by decide +kernel
theorem dX11_chances_31 : decode cX11_chances 31 = .ok (.aload_n 0, 1) := by decide +kernel
theorem dX11_chances_32 : decode cX11_chances 32 = .ok (.iconst (-1), 1) := by decide +kernel
theorem dX11_chances_33 : decode cX11_chances 33 = .ok (.invokevirtual 118, 3) := by decide +kernel
theorem dX11_chances_36 : decode cX11_chances 36 = .ok (.ireturn, 1) := by decide +kernel
theorem dX11_chances_9 : decode cX11_chances 9 = .ok (.iload_n 2, 1) := by decide +kernel
theorem dX11_chances_10 : decode cX11_chances 10 = .ok (.iconst 0, 1) := by decide +kernel
theorem dX11_chances_11 : decode cX11_chances 11 = .ok (.sipush 1000, 3) := by decide +kernel
theorem dX11_chances_14 : decode cX11_chances 14 = .ok (.invokestatic 150, 3) := by decide +kernel
theorem dX11_chances_17 : decode cX11_chances 17 = .ok (.ifCond .eq 14, 3) := by decide +kernel
theorem dX11_chances_20 : decode cX11_chances 20 = .ok (.iload_n 3, 1) := by decide +kernel
theorem dX11_chances_21 : decode cX11_chances 21 = .ok (.iconst 0, 1) := by decide +kernel
theorem dX11_chances_22 : decode cX11_chances 22 = .ok (.sipush 1000, 3) := by decide +kernel
theorem dX11_chances_25 : decode cX11_chances 25 = .ok (.invokestatic 150, 3) := by decide +kernel
theorem dX11_chances_28 : decode cX11_chances 28 = .ok (.ifCond .ne 9, 3) := by decide +kernel
theorem dX11_chances_37 : decode cX11_chances 37 = .ok (.aload_n 0, 1) := by decide +kernel
theorem dX11_chances_38 : decode cX11_chances 38 = .ok (.getfield 96, 3) := by decide +kernel
theorem dX11_chances_41 : decode cX11_chances 41 = .ok (.getfield 393, 3) := by decide +kernel
theorem wd_639 : (Cond.fieldLink "VoteRoll" 393 "VoteRoll$Plan" "letterChance" "[I") ∈ gl := gl_at 639 (by decide +kernel) (by decide +kernel)
theorem dX11_chances_44 : decode cX11_chances 44 = .ok (.iload_n 1, 1) := by decide +kernel
theorem dX11_chances_45 : decode cX11_chances 45 = .ok (.iload_n 2, 1) := by decide +kernel
theorem dX11_chances_46 : decode cX11_chances 46 = .ok (.iastore, 1) := by decide +kernel
theorem dX11_chances_47 : decode cX11_chances 47 = .ok (.aload_n 0, 1) := by decide +kernel
theorem dX11_chances_48 : decode cX11_chances 48 = .ok (.getfield 96, 3) := by decide +kernel
theorem dX11_chances_51 : decode cX11_chances 51 = .ok (.getfield 396, 3) := by decide +kernel
theorem wd_641 : (Cond.fieldLink "VoteRoll" 396 "VoteRoll$Plan" "knockChance" "[I") ∈ gl := gl_at 641 (by decide +kernel) (by decide +kernel)
theorem dX11_chances_54 : decode cX11_chances 54 = .ok (.iload_n 1, 1) := by decide +kernel
theorem dX11_chances_55 : decode cX11_chances 55 = .ok (.iload_n 3, 1) := by decide +kernel
theorem dX11_chances_56 : decode cX11_chances 56 = .ok (.iastore, 1) := by decide +kernel
theorem dX11_chances_57 : decode cX11_chances 57 = .ok (.aload_n 0, 1) := by decide +kernel
theorem dX11_chances_58 : decode cX11_chances 58 = .ok (.iconst 0, 1) := by decide +kernel
theorem dX11_chances_59 : decode cX11_chances 59 = .ok (.invokevirtual 140, 3) := by decide +kernel
theorem dX11_chances_62 : decode cX11_chances 62 = .ok (.ireturn, 1) := by decide +kernel
set_option maxHeartbeats 4000000 in
set_option maxRecDepth 100000 in
theorem c_chances (l : Launch) (D : va_G) (ct : Nat → ClassId) (h : Nat) (a1 : Int32) (a2 : Int32) (a3 : Int32) (h_0 : Nat) (h_1 : Nat) (h_2 : Nat) (h_3 : Nat) (h_4 : Nat) (h_5 : Nat) (h_6 : Nat) (h_7 : Nat) (h_8 : Nat) (h_9 : Nat) (h_10 : Nat) (h_11 : Nat) (h_12 : Nat) (h_13 : Int32) (h_14 : Int32) (h_12_0 : Nat) (h_12_1 : Nat) (h_12_2 : Int32) (h_12_3 : Nat) (h_12_4 : Nat) (h_12_5 : Int32) (h_12_6 : Int32) (h_12_7 : Nat) (h_12_8 : Int32) (h_12_9 : Int32) (h_12_10 : Int32) (h_12_11 : Nat) (h_12_12 : Nat) (f : Nat → Int32) (g : Nat → Int32) (sz : Nat)  : Met l yX11_chances (wk yX11_chances cX11_chances 4 (some .int)) { frames := 1, cells := 0, slots := 0, locals := 22 } (va_Pc [.ref h, .int a1, .int a2, .int a3] (Wd D [(h, .inr (11, [.ref h_0, .ref h_1, .ref h_2, .ref h_3, .ref h_4, .ref h_5, .ref h_6, .ref h_7, .ref h_8, .ref h_9, .ref h_10, .ref h_11, .ref h_12, .int h_13, .int h_14])), (h_12, .inr (9, [.ref h_12_0, .ref h_12_1, .int h_12_2, .ref h_12_3, .ref h_12_4, .int h_12_5, .int h_12_6, .ref h_12_7, .int h_12_8, .int h_12_9, .int h_12_10, .ref h_12_11, .ref h_12_12])), (h_12_3, .inl (ct 1, 4, .inl f)), (h_12_4, .inl (ct 1, 4, .inl g))] ct sz)) (va_Qi (fun (r : Int32) (u : Unit) => r = sp_chances a1 a2 a3) (fun _ _ => True) (va_A [(h, .inr (11, [.ref h_0, .ref h_1, .ref h_2, .ref h_3, .ref h_4, .ref h_5, .ref h_6, .ref h_7, .ref h_8, .ref h_9, .ref h_10, .ref h_11, .ref h_12, .int h_13, .int h_14])), (h_12, .inr (9, [.ref h_12_0, .ref h_12_1, .int h_12_2, .ref h_12_3, .ref h_12_4, .int h_12_5, .int h_12_6, .ref h_12_7, .int h_12_8, .int h_12_9, .int h_12_10, .ref h_12_11, .ref h_12_12])), (h_12_3, .inl (ct 1, 4, .inl f)), (h_12_4, .inl (ct 1, 4, .inl g))] sz)) 0 0 (va_A [(h, .inr (11, [.ref h_0, .ref h_1, .ref h_2, .ref h_3, .ref h_4, .ref h_5, .ref h_6, .ref h_7, .ref h_8, .ref h_9, .ref h_10, .ref h_11, .ref h_12, .int h_13, .int h_14])), (h_12, .inr (9, [.ref h_12_0, .ref h_12_1, .int h_12_2, .ref h_12_3, .ref h_12_4, .int h_12_5, .int h_12_6, .ref h_12_7, .int h_12_8, .int h_12_9, .int h_12_10, .ref h_12_11, .ref h_12_12])), (h_12_3, .inl (ct 1, 4, .inl f)), (h_12_4, .inl (ct 1, 4, .inl g))] sz) := by
  refine Met.ofW (cc := cX11_chances) (maxL := 4) (ret := (some .int)) (by decide) rfl ?_
  intro p e s m args below meth c s₁ B hml hv
  obtain ⟨rfl, hsz, hP, hKK, hD0⟩ := hv
  have hK := hKK.1
  have hx := B.exec
  have hb := B.bytes
  have hr := B.returns
  have hg : ∀ w ∈ gl, w.before _ s = true := fun w h => atoms_spec (ws := wk yX11_chances cX11_chances 4 (some .int)) B.pre w (List.mem_cons_of_mem _ h)
  have hown : s.vm.findClass RX11 = some m.cls := findClass_of_methodNamed B.named
  have hlocks := B.notSynchronized
  subst hsz
  have hD := hD0.self (sz := s.heap.size)
  generalize hAe : va_A [(h, .inr (11, [.ref h_0, .ref h_1, .ref h_2, .ref h_3, .ref h_4, .ref h_5, .ref h_6, .ref h_7, .ref h_8, .ref h_9, .ref h_10, .ref h_11, .ref h_12, .int h_13, .int h_14])), (h_12, .inr (9, [.ref h_12_0, .ref h_12_1, .int h_12_2, .ref h_12_3, .ref h_12_4, .int h_12_5, .int h_12_6, .ref h_12_7, .int h_12_8, .int h_12_9, .int h_12_10, .ref h_12_11, .ref h_12_12])), (h_12_3, .inl (ct 1, 4, .inl f)), (h_12_4, .inl (ct 1, 4, .inl g))] s.heap.size = A at hD ⊢
  have hA : ∀ q : Nat, s.heap.size ≤ q → A q := fun q h => by rw [← hAe]; exact Or.inr h
  have hS : va_S A s.heap s.heap [] := va_S.rf
  have hl := lv_entry ([.ref h, .int a1, .int a2, .int a3]) (n := 4) (Nat.le_of_ble_eq_true rfl)
  rw [lg_entry_eq]
  generalize (lg_sl ([.ref h, .int a1, .int a2, .int a3]) ++ List.replicate (4 - (lg_sl ([.ref h, .int a1, .int a2, .int a3])).length) Slot.unset).toArray = ls at hl ⊢
  have hl : lv_has ls 4 [(0, .ref h), (1, .int a1), (2, .int a2), (3, .int a3)] := hl
  refine lv_iload_n hx hb dX11_chances_0 rfl (lv_at hl 1 rfl) ?_
  refine lv_iconst (v := 0) hx hb dX11_chances_1 (by decide) ?_
  refine lv_iconst (v := 3) hx hb dX11_chances_2 (by decide) ?_
  have hPc := hP.sub (ws' := []) [] rfl
  refine z_calli (va_runS (As := [.int a1, .int 0, .int 3]) (rest := []) ⟨hx, hb, hml, hown, hg⟩ (c_within l D ct a1 0 3 ) (va_cwS 3 hg (gd_S wd_959 wd_917 wd_107 wd_918) rfl rfl rfl (by decide +kernel) ⟨Nat.le_of_ble_eq_true rfl, Nat.le_of_ble_eq_true rfl⟩) (Wr_S hPc hKK) rfl rfl hl.1 rfl (lv_room (Nat.le_of_ble_eq_true rfl)) dX11_chances_3 ⟨Nat.le_of_ble_eq_true rfl, Nat.le_of_ble_eq_true rfl⟩) (fun r_1 hw_1 => ?_)
  subst hw_1
  refine lv_if_eq (tgt := 31) hx hb dX11_chances_6 (by decide) (fun c_2 => ?_) (fun c_2 => ?_)
  · refine lv_aload_n hx hb dX11_chances_31 rfl (lv_at hl 0 rfl) ?_
    refine lv_iconst (v := (-1)) hx hb dX11_chances_32 (by decide) ?_
    have hPc := hP.sub (ws' := [(h, .inr (11, [.ref h_0, .ref h_1, .ref h_2, .ref h_3, .ref h_4, .ref h_5, .ref h_6, .ref h_7, .ref h_8, .ref h_9, .ref h_10, .ref h_11, .ref h_12, .int h_13, .int h_14]))]) [0] rfl
    have hDc := hD.sub (ws' := [(h, .inr (11, [.ref h_0, .ref h_1, .ref h_2, .ref h_3, .ref h_4, .ref h_5, .ref h_6, .ref h_7, .ref h_8, .ref h_9, .ref h_10, .ref h_11, .ref h_12, .int h_13, .int h_14]))]) [0] (by decide) rfl
    have hFc := va_free (wc := [(h, .inr (11, [.ref h_0, .ref h_1, .ref h_2, .ref h_3, .ref h_4, .ref h_5, .ref h_6, .ref h_7, .ref h_8, .ref h_9, .ref h_10, .ref h_11, .ref h_12, .int h_13, .int h_14]))]) hD hS hA [0] rfl
    refine va_calli (va_runV (As := [.int (-1)]) (rest := []) ⟨hx, hb, hml, hown, hg⟩ (c_refuse l D ct h (-1) h_0 h_1 h_2 h_3 h_4 h_5 h_6 h_7 h_8 h_9 h_10 h_11 h_12 h_13 h_14 s.heap.size ) (cwV 1 hg (gd_V wd_778 wd_780 wd_3 wd_107 wd_781) rfl rfl rfl (by decide +kernel) ⟨Nat.le_of_ble_eq_true rfl, Nat.le_of_ble_eq_true rfl⟩) (Wd_V hPc hKK hDc (va_recv hK hPc (ci := 11) (q0 := 0) rfl rfl)) rfl rfl hl.1 rfl (lv_room (Nat.le_of_ble_eq_true rfl)) dX11_chances_33 ⟨Nat.le_of_ble_eq_true rfl, Nat.le_of_ble_eq_true rfl⟩) hS (fun q _ h => hFc q h) hFc (fun r_3 u_3 t_3 H1 locs ht_3 hvm_3 hw_3 hB_3 hz_3 hk_3 hS => ?_)
    obtain ⟨hP, hD⟩ := va_join (wr := [(h_12, .inr (9, [.ref h_12_0, .ref h_12_1, .int h_12_2, .ref h_12_3, .ref h_12_4, .int h_12_5, .int h_12_6, .ref h_12_7, .int h_12_8, .int h_12_9, .int h_12_10, .ref h_12_11, .ref h_12_12])), (h_12_3, .inl (ct 1, 4, .inl f)), (h_12_4, .inl (ct 1, 4, .inl g))]) (w1 := []) hP hD [0] [1, 2, 3] rfl rfl (by decide) (by decide) hk_3 hFc (fun k q h => by simp at h) ⟨fun i j p q h => by simp at h, fun k q h => by simp at h⟩
    generalize H1 = H at hP hS ⊢
    have hP : va_P D vwCl [(h_12, .inr (9, [.ref h_12_0, .ref h_12_1, .int h_12_2, .ref h_12_3, .ref h_12_4, .int h_12_5, .int h_12_6, .ref h_12_7, .int h_12_8, .int h_12_9, .int h_12_10, .ref h_12_11, .ref h_12_12])), (h_12_3, .inl (ct 1, 4, .inl f)), (h_12_4, .inl (ct 1, 4, .inl g))] H := hP
    have hD : va_D A [(h_12, .inr (9, [.ref h_12_0, .ref h_12_1, .int h_12_2, .ref h_12_3, .ref h_12_4, .int h_12_5, .int h_12_6, .ref h_12_7, .int h_12_8, .int h_12_9, .int h_12_10, .ref h_12_11, .ref h_12_12])), (h_12_3, .inl (ct 1, 4, .inl f)), (h_12_4, .inl (ct 1, 4, .inl g))] := hD
    subst hw_3
    exact W.iret (v := (-1)) hx hb hr (fun t ht hW => ⟨⟨(-1), (), rfl, (by simp [sp_chances, c_2]), trivial⟩, hS.F ht⟩) hS.2.2 dX11_chances_36
  · refine lv_iload_n hx hb dX11_chances_9 rfl (lv_at hl 2 rfl) ?_
    refine lv_iconst (v := 0) hx hb dX11_chances_10 (by decide) ?_
    refine lv_sipush (v := 1000) hx hb dX11_chances_11 (by decide) ?_
    have hPc := hP.sub (ws' := []) [] rfl
    refine z_calli (va_runS (As := [.int a2, .int 0, .int 1000]) (rest := []) ⟨hx, hb, hml, hown, hg⟩ (c_within l D ct a2 0 1000 ) (va_cwS 3 hg (gd_S wd_959 wd_917 wd_107 wd_918) rfl rfl rfl (by decide +kernel) ⟨Nat.le_of_ble_eq_true rfl, Nat.le_of_ble_eq_true rfl⟩) (Wr_S hPc hKK) rfl rfl hl.1 rfl (lv_room (Nat.le_of_ble_eq_true rfl)) dX11_chances_14 ⟨Nat.le_of_ble_eq_true rfl, Nat.le_of_ble_eq_true rfl⟩) (fun r_4 hw_4 => ?_)
    subst hw_4
    refine lv_if_eq (tgt := 31) hx hb dX11_chances_17 (by decide) (fun c_5 => ?_) (fun c_5 => ?_)
    · refine lv_aload_n hx hb dX11_chances_31 rfl (lv_at hl 0 rfl) ?_
      refine lv_iconst (v := (-1)) hx hb dX11_chances_32 (by decide) ?_
      have hPc := hP.sub (ws' := [(h, .inr (11, [.ref h_0, .ref h_1, .ref h_2, .ref h_3, .ref h_4, .ref h_5, .ref h_6, .ref h_7, .ref h_8, .ref h_9, .ref h_10, .ref h_11, .ref h_12, .int h_13, .int h_14]))]) [0] rfl
      have hDc := hD.sub (ws' := [(h, .inr (11, [.ref h_0, .ref h_1, .ref h_2, .ref h_3, .ref h_4, .ref h_5, .ref h_6, .ref h_7, .ref h_8, .ref h_9, .ref h_10, .ref h_11, .ref h_12, .int h_13, .int h_14]))]) [0] (by decide) rfl
      have hFc := va_free (wc := [(h, .inr (11, [.ref h_0, .ref h_1, .ref h_2, .ref h_3, .ref h_4, .ref h_5, .ref h_6, .ref h_7, .ref h_8, .ref h_9, .ref h_10, .ref h_11, .ref h_12, .int h_13, .int h_14]))]) hD hS hA [0] rfl
      refine va_calli (va_runV (As := [.int (-1)]) (rest := []) ⟨hx, hb, hml, hown, hg⟩ (c_refuse l D ct h (-1) h_0 h_1 h_2 h_3 h_4 h_5 h_6 h_7 h_8 h_9 h_10 h_11 h_12 h_13 h_14 s.heap.size ) (cwV 1 hg (gd_V wd_778 wd_780 wd_3 wd_107 wd_781) rfl rfl rfl (by decide +kernel) ⟨Nat.le_of_ble_eq_true rfl, Nat.le_of_ble_eq_true rfl⟩) (Wd_V hPc hKK hDc (va_recv hK hPc (ci := 11) (q0 := 0) rfl rfl)) rfl rfl hl.1 rfl (lv_room (Nat.le_of_ble_eq_true rfl)) dX11_chances_33 ⟨Nat.le_of_ble_eq_true rfl, Nat.le_of_ble_eq_true rfl⟩) hS (fun q _ h => hFc q h) hFc (fun r_6 u_6 t_6 H1 locs ht_6 hvm_6 hw_6 hB_6 hz_6 hk_6 hS => ?_)
      obtain ⟨hP, hD⟩ := va_join (wr := [(h_12, .inr (9, [.ref h_12_0, .ref h_12_1, .int h_12_2, .ref h_12_3, .ref h_12_4, .int h_12_5, .int h_12_6, .ref h_12_7, .int h_12_8, .int h_12_9, .int h_12_10, .ref h_12_11, .ref h_12_12])), (h_12_3, .inl (ct 1, 4, .inl f)), (h_12_4, .inl (ct 1, 4, .inl g))]) (w1 := []) hP hD [0] [1, 2, 3] rfl rfl (by decide) (by decide) hk_6 hFc (fun k q h => by simp at h) ⟨fun i j p q h => by simp at h, fun k q h => by simp at h⟩
      generalize H1 = H at hP hS ⊢
      have hP : va_P D vwCl [(h_12, .inr (9, [.ref h_12_0, .ref h_12_1, .int h_12_2, .ref h_12_3, .ref h_12_4, .int h_12_5, .int h_12_6, .ref h_12_7, .int h_12_8, .int h_12_9, .int h_12_10, .ref h_12_11, .ref h_12_12])), (h_12_3, .inl (ct 1, 4, .inl f)), (h_12_4, .inl (ct 1, 4, .inl g))] H := hP
      have hD : va_D A [(h_12, .inr (9, [.ref h_12_0, .ref h_12_1, .int h_12_2, .ref h_12_3, .ref h_12_4, .int h_12_5, .int h_12_6, .ref h_12_7, .int h_12_8, .int h_12_9, .int h_12_10, .ref h_12_11, .ref h_12_12])), (h_12_3, .inl (ct 1, 4, .inl f)), (h_12_4, .inl (ct 1, 4, .inl g))] := hD
      subst hw_6
      exact W.iret (v := (-1)) hx hb hr (fun t ht hW => ⟨⟨(-1), (), rfl, (by simp [sp_chances, c_2, c_5]), trivial⟩, hS.F ht⟩) hS.2.2 dX11_chances_36
    · refine lv_iload_n hx hb dX11_chances_20 rfl (lv_at hl 3 rfl) ?_
      refine lv_iconst (v := 0) hx hb dX11_chances_21 (by decide) ?_
      refine lv_sipush (v := 1000) hx hb dX11_chances_22 (by decide) ?_
      have hPc := hP.sub (ws' := []) [] rfl
      refine z_calli (va_runS (As := [.int a3, .int 0, .int 1000]) (rest := []) ⟨hx, hb, hml, hown, hg⟩ (c_within l D ct a3 0 1000 ) (va_cwS 3 hg (gd_S wd_959 wd_917 wd_107 wd_918) rfl rfl rfl (by decide +kernel) ⟨Nat.le_of_ble_eq_true rfl, Nat.le_of_ble_eq_true rfl⟩) (Wr_S hPc hKK) rfl rfl hl.1 rfl (lv_room (Nat.le_of_ble_eq_true rfl)) dX11_chances_25 ⟨Nat.le_of_ble_eq_true rfl, Nat.le_of_ble_eq_true rfl⟩) (fun r_7 hw_7 => ?_)
      subst hw_7
      refine lv_if_ne (tgt := 37) hx hb dX11_chances_28 (by decide) (fun c_8 => ?_) (fun c_8 => ?_)
      · refine lv_aload_n hx hb dX11_chances_37 rfl (lv_at hl 0 rfl) ?_
        refine va_get (D := D) (ci := 11) (v := .ref h_12) (C := RX11) (T := TX11) (N := 15) hx hb hg inX11 hown hK hP 0 rfl rfl 12 (by decide) (hg _ wd_695) (fun _ h9 => h9) rfl dX11_chances_38 ?_
        refine va_get (D := D) (ci := 9) (v := .ref h_12_3) (C := RX9) (T := TX9) (N := 13) hx hb hg inX9 hown hK hP 1 rfl rfl 3 (by decide) (hg _ wd_639) (fun _ h9 => h9) rfl dX11_chances_41 ?_
        refine lv_iload_n hx hb dX11_chances_44 rfl (lv_at hl 1 rfl) ?_
        refine lv_iload_n hx hb dX11_chances_45 rfl (lv_at hl 2 rfl) ?_
        refine va_iast hx hb hK hP hD hS 2 1 rfl rfl (bw_in (by assumption) (by decide)) dX11_chances_46 (fun H locs hP hD hS => ?_)
        obtain ⟨f_9, ef_9⟩ : ∃ z : Nat → Int32, z = upd f a1.toNatClampNeg a2 := ⟨_, rfl⟩
        have hP : va_P D vwCl [(h, .inr (11, [.ref h_0, .ref h_1, .ref h_2, .ref h_3, .ref h_4, .ref h_5, .ref h_6, .ref h_7, .ref h_8, .ref h_9, .ref h_10, .ref h_11, .ref h_12, .int h_13, .int h_14])), (h_12, .inr (9, [.ref h_12_0, .ref h_12_1, .int h_12_2, .ref h_12_3, .ref h_12_4, .int h_12_5, .int h_12_6, .ref h_12_7, .int h_12_8, .int h_12_9, .int h_12_10, .ref h_12_11, .ref h_12_12])), (h_12_3, .inl (ct 1, 4, .inl f_9)), (h_12_4, .inl (ct 1, 4, .inl g))] H := by rw [ef_9]; exact hP
        have hD : va_D A [(h, .inr (11, [.ref h_0, .ref h_1, .ref h_2, .ref h_3, .ref h_4, .ref h_5, .ref h_6, .ref h_7, .ref h_8, .ref h_9, .ref h_10, .ref h_11, .ref h_12, .int h_13, .int h_14])), (h_12, .inr (9, [.ref h_12_0, .ref h_12_1, .int h_12_2, .ref h_12_3, .ref h_12_4, .int h_12_5, .int h_12_6, .ref h_12_7, .int h_12_8, .int h_12_9, .int h_12_10, .ref h_12_11, .ref h_12_12])), (h_12_3, .inl (ct 1, 4, .inl f_9)), (h_12_4, .inl (ct 1, 4, .inl g))] := by rw [ef_9]; exact hD
        refine lv_aload_n hx hb dX11_chances_47 rfl (lv_at hl 0 rfl) ?_
        refine va_get (D := D) (ci := 11) (v := .ref h_12) (C := RX11) (T := TX11) (N := 15) hx hb hg inX11 hown hK hP 0 rfl rfl 12 (by decide) (hg _ wd_695) (fun _ h9 => h9) rfl dX11_chances_48 ?_
        refine va_get (D := D) (ci := 9) (v := .ref h_12_4) (C := RX9) (T := TX9) (N := 13) hx hb hg inX9 hown hK hP 1 rfl rfl 4 (by decide) (hg _ wd_641) (fun _ h9 => h9) rfl dX11_chances_51 ?_
        refine lv_iload_n hx hb dX11_chances_54 rfl (lv_at hl 1 rfl) ?_
        refine lv_iload_n hx hb dX11_chances_55 rfl (lv_at hl 3 rfl) ?_
        refine va_iast hx hb hK hP hD hS 3 1 rfl rfl (bw_in (by assumption) (by decide)) dX11_chances_56 (fun H locs hP hD hS => ?_)
        obtain ⟨f_10, ef_10⟩ : ∃ z : Nat → Int32, z = upd g a1.toNatClampNeg a3 := ⟨_, rfl⟩
        have hP : va_P D vwCl [(h, .inr (11, [.ref h_0, .ref h_1, .ref h_2, .ref h_3, .ref h_4, .ref h_5, .ref h_6, .ref h_7, .ref h_8, .ref h_9, .ref h_10, .ref h_11, .ref h_12, .int h_13, .int h_14])), (h_12, .inr (9, [.ref h_12_0, .ref h_12_1, .int h_12_2, .ref h_12_3, .ref h_12_4, .int h_12_5, .int h_12_6, .ref h_12_7, .int h_12_8, .int h_12_9, .int h_12_10, .ref h_12_11, .ref h_12_12])), (h_12_3, .inl (ct 1, 4, .inl f_9)), (h_12_4, .inl (ct 1, 4, .inl f_10))] H := by rw [ef_10]; exact hP
        have hD : va_D A [(h, .inr (11, [.ref h_0, .ref h_1, .ref h_2, .ref h_3, .ref h_4, .ref h_5, .ref h_6, .ref h_7, .ref h_8, .ref h_9, .ref h_10, .ref h_11, .ref h_12, .int h_13, .int h_14])), (h_12, .inr (9, [.ref h_12_0, .ref h_12_1, .int h_12_2, .ref h_12_3, .ref h_12_4, .int h_12_5, .int h_12_6, .ref h_12_7, .int h_12_8, .int h_12_9, .int h_12_10, .ref h_12_11, .ref h_12_12])), (h_12_3, .inl (ct 1, 4, .inl f_9)), (h_12_4, .inl (ct 1, 4, .inl f_10))] := by rw [ef_10]; exact hD
        refine lv_aload_n hx hb dX11_chances_57 rfl (lv_at hl 0 rfl) ?_
        refine lv_iconst (v := 0) hx hb dX11_chances_58 (by decide) ?_
        have hPc := hP.sub (ws' := [(h, .inr (11, [.ref h_0, .ref h_1, .ref h_2, .ref h_3, .ref h_4, .ref h_5, .ref h_6, .ref h_7, .ref h_8, .ref h_9, .ref h_10, .ref h_11, .ref h_12, .int h_13, .int h_14]))]) [0] rfl
        have hDc := hD.sub (ws' := [(h, .inr (11, [.ref h_0, .ref h_1, .ref h_2, .ref h_3, .ref h_4, .ref h_5, .ref h_6, .ref h_7, .ref h_8, .ref h_9, .ref h_10, .ref h_11, .ref h_12, .int h_13, .int h_14]))]) [0] (by decide) rfl
        have hFc := va_free (wc := [(h, .inr (11, [.ref h_0, .ref h_1, .ref h_2, .ref h_3, .ref h_4, .ref h_5, .ref h_6, .ref h_7, .ref h_8, .ref h_9, .ref h_10, .ref h_11, .ref h_12, .int h_13, .int h_14]))]) hD hS hA [0] rfl
        refine va_calli (va_runV (As := [.int 0]) (rest := []) ⟨hx, hb, hml, hown, hg⟩ (c_accept l D ct h 0 h_0 h_1 h_2 h_3 h_4 h_5 h_6 h_7 h_8 h_9 h_10 h_11 h_12 h_13 h_14 H.size ) (cwV 1 hg (gd_V wd_805 wd_807 wd_5 wd_107 wd_808) rfl rfl rfl (by decide +kernel) ⟨Nat.le_of_ble_eq_true rfl, Nat.le_of_ble_eq_true rfl⟩) (Wd_V hPc hKK hDc (va_recv hK hPc (ci := 11) (q0 := 0) rfl rfl)) rfl rfl hl.1 rfl (lv_room (Nat.le_of_ble_eq_true rfl)) dX11_chances_59 ⟨Nat.le_of_ble_eq_true rfl, Nat.le_of_ble_eq_true rfl⟩) hS (fun q _ h => hFc q h) hFc (fun r_11 u_11 t_11 H1 locs ht_11 hvm_11 hw_11 hB_11 hz_11 hk_11 hS => ?_)
        obtain ⟨hP, hD⟩ := va_join (wr := [(h_12, .inr (9, [.ref h_12_0, .ref h_12_1, .int h_12_2, .ref h_12_3, .ref h_12_4, .int h_12_5, .int h_12_6, .ref h_12_7, .int h_12_8, .int h_12_9, .int h_12_10, .ref h_12_11, .ref h_12_12])), (h_12_3, .inl (ct 1, 4, .inl f_9)), (h_12_4, .inl (ct 1, 4, .inl f_10))]) (w1 := []) hP hD [0] [1, 2, 3] rfl rfl (by decide) (by decide) hk_11 hFc (fun k q h => by simp at h) ⟨fun i j p q h => by simp at h, fun k q h => by simp at h⟩
        generalize H1 = H at hP hS ⊢
        have hP : va_P D vwCl [(h_12, .inr (9, [.ref h_12_0, .ref h_12_1, .int h_12_2, .ref h_12_3, .ref h_12_4, .int h_12_5, .int h_12_6, .ref h_12_7, .int h_12_8, .int h_12_9, .int h_12_10, .ref h_12_11, .ref h_12_12])), (h_12_3, .inl (ct 1, 4, .inl f_9)), (h_12_4, .inl (ct 1, 4, .inl f_10))] H := hP
        have hD : va_D A [(h_12, .inr (9, [.ref h_12_0, .ref h_12_1, .int h_12_2, .ref h_12_3, .ref h_12_4, .int h_12_5, .int h_12_6, .ref h_12_7, .int h_12_8, .int h_12_9, .int h_12_10, .ref h_12_11, .ref h_12_12])), (h_12_3, .inl (ct 1, 4, .inl f_9)), (h_12_4, .inl (ct 1, 4, .inl f_10))] := hD
        subst hw_11
        exact W.iret (v := 0) hx hb hr (fun t ht hW => ⟨⟨0, (), rfl, (by simp [sp_chances, c_2, c_5, c_8]), trivial⟩, hS.F ht⟩) hS.2.2 dX11_chances_62
      · refine lv_aload_n hx hb dX11_chances_31 rfl (lv_at hl 0 rfl) ?_
        refine lv_iconst (v := (-1)) hx hb dX11_chances_32 (by decide) ?_
        have hPc := hP.sub (ws' := [(h, .inr (11, [.ref h_0, .ref h_1, .ref h_2, .ref h_3, .ref h_4, .ref h_5, .ref h_6, .ref h_7, .ref h_8, .ref h_9, .ref h_10, .ref h_11, .ref h_12, .int h_13, .int h_14]))]) [0] rfl
        have hDc := hD.sub (ws' := [(h, .inr (11, [.ref h_0, .ref h_1, .ref h_2, .ref h_3, .ref h_4, .ref h_5, .ref h_6, .ref h_7, .ref h_8, .ref h_9, .ref h_10, .ref h_11, .ref h_12, .int h_13, .int h_14]))]) [0] (by decide) rfl
        have hFc := va_free (wc := [(h, .inr (11, [.ref h_0, .ref h_1, .ref h_2, .ref h_3, .ref h_4, .ref h_5, .ref h_6, .ref h_7, .ref h_8, .ref h_9, .ref h_10, .ref h_11, .ref h_12, .int h_13, .int h_14]))]) hD hS hA [0] rfl
        refine va_calli (va_runV (As := [.int (-1)]) (rest := []) ⟨hx, hb, hml, hown, hg⟩ (c_refuse l D ct h (-1) h_0 h_1 h_2 h_3 h_4 h_5 h_6 h_7 h_8 h_9 h_10 h_11 h_12 h_13 h_14 s.heap.size ) (cwV 1 hg (gd_V wd_778 wd_780 wd_3 wd_107 wd_781) rfl rfl rfl (by decide +kernel) ⟨Nat.le_of_ble_eq_true rfl, Nat.le_of_ble_eq_true rfl⟩) (Wd_V hPc hKK hDc (va_recv hK hPc (ci := 11) (q0 := 0) rfl rfl)) rfl rfl hl.1 rfl (lv_room (Nat.le_of_ble_eq_true rfl)) dX11_chances_33 ⟨Nat.le_of_ble_eq_true rfl, Nat.le_of_ble_eq_true rfl⟩) hS (fun q _ h => hFc q h) hFc (fun r_12 u_12 t_12 H1 locs ht_12 hvm_12 hw_12 hB_12 hz_12 hk_12 hS => ?_)
        obtain ⟨hP, hD⟩ := va_join (wr := [(h_12, .inr (9, [.ref h_12_0, .ref h_12_1, .int h_12_2, .ref h_12_3, .ref h_12_4, .int h_12_5, .int h_12_6, .ref h_12_7, .int h_12_8, .int h_12_9, .int h_12_10, .ref h_12_11, .ref h_12_12])), (h_12_3, .inl (ct 1, 4, .inl f)), (h_12_4, .inl (ct 1, 4, .inl g))]) (w1 := []) hP hD [0] [1, 2, 3] rfl rfl (by decide) (by decide) hk_12 hFc (fun k q h => by simp at h) ⟨fun i j p q h => by simp at h, fun k q h => by simp at h⟩
        generalize H1 = H at hP hS ⊢
        have hP : va_P D vwCl [(h_12, .inr (9, [.ref h_12_0, .ref h_12_1, .int h_12_2, .ref h_12_3, .ref h_12_4, .int h_12_5, .int h_12_6, .ref h_12_7, .int h_12_8, .int h_12_9, .int h_12_10, .ref h_12_11, .ref h_12_12])), (h_12_3, .inl (ct 1, 4, .inl f)), (h_12_4, .inl (ct 1, 4, .inl g))] H := hP
        have hD : va_D A [(h_12, .inr (9, [.ref h_12_0, .ref h_12_1, .int h_12_2, .ref h_12_3, .ref h_12_4, .int h_12_5, .int h_12_6, .ref h_12_7, .int h_12_8, .int h_12_9, .int h_12_10, .ref h_12_11, .ref h_12_12])), (h_12_3, .inl (ct 1, 4, .inl f)), (h_12_4, .inl (ct 1, 4, .inl g))] := hD
        subst hw_12
        exact W.iret (v := (-1)) hx hb hr (fun t ht hW => ⟨⟨(-1), (), rfl, (by simp [sp_chances, c_2, c_5, c_8]), trivial⟩, hS.F ht⟩) hS.2.2 dX11_chances_36
def sp_field (a1 : Int32) (a2 : Int32) (a3 : Int32) : Int32 := if bw a1 0 4 = 0 then (-1) else if bw a2 1 99 = 0 then (-1) else if bw a3 1 99 = 0 then (-1) else 0
theorem dX8_forget_0 : decode cX8_forget 0 = .ok (.aload_n 0, 1) := by decide +kernel
theorem dX8_forget_1 : decode cX8_forget 1 = .ok (.iconst 0, 1) := by decide +kernel
theorem dX8_forget_2 : decode cX8_forget 2 = .ok (.putfield 53, 3) := by decide +kernel
theorem wd_438 : (Cond.fieldLink "VoteRoll$Persons" 53 "VoteRoll$Persons" "pairsStand" "Z") ∈ gl := gl_at 438 (by decide +kernel) (by decide +kernel)
theorem dX8_forget_5 : decode cX8_forget 5 = .ok (.aload_n 0, 1) := by decide +kernel
theorem dX8_forget_6 : decode cX8_forget 6 = .ok (.iconst (-1), 1) := by decide +kernel
theorem dX8_forget_7 : decode cX8_forget 7 = .ok (.putfield 49, 3) := by decide +kernel
theorem wd_439 : (Cond.fieldLink "VoteRoll$Persons" 49 "VoteRoll$Persons" "dividedOn" "I") ∈ gl := gl_at 439 (by decide +kernel) (by decide +kernel)
theorem dX8_forget_10 : decode cX8_forget 10 = .ok (.return_, 1) := by decide +kernel
set_option maxHeartbeats 4000000 in
set_option maxRecDepth 100000 in
theorem c_forget (l : Launch) (D : va_G) (ct : Nat → ClassId) (q : Nat) (q_0 : Nat) (q_1 : Nat) (q_2 : Nat) (q_3 : Nat) (q_4 : Nat) (q_5 : Nat) (q_6 : Nat) (q_7 : Nat) (q_8 : Int32) (q_9 : Int32) (q_10 : Int32) (q_11 : Int32) (q_12 : Nat) (q_13 : Int32) (q_14 : Nat) (q_15 : Int32) (q_16 : Int32) (sz : Nat)  : Met l yX8_forget (wk yX8_forget cX8_forget 1 none) { frames := 0, cells := 0, slots := 0, locals := 0 } (va_Pc [.ref q] (Wd D [(q, .inr (8, [.ref q_0, .ref q_1, .ref q_2, .ref q_3, .ref q_4, .ref q_5, .ref q_6, .ref q_7, .int q_8, .int q_9, .int q_10, .int q_11, .ref q_12, .int q_13, .ref q_14, .int q_15, .int q_16]))] ct sz)) (va_Qv (fun (u : Unit) => True) (fun _ _ => True) (va_A [(q, .inr (8, [.ref q_0, .ref q_1, .ref q_2, .ref q_3, .ref q_4, .ref q_5, .ref q_6, .ref q_7, .int q_8, .int q_9, .int q_10, .int q_11, .ref q_12, .int q_13, .ref q_14, .int q_15, .int q_16]))] sz)) 0 0 (va_A [(q, .inr (8, [.ref q_0, .ref q_1, .ref q_2, .ref q_3, .ref q_4, .ref q_5, .ref q_6, .ref q_7, .int q_8, .int q_9, .int q_10, .int q_11, .ref q_12, .int q_13, .ref q_14, .int q_15, .int q_16]))] sz) := by
  refine Met.ofW (cc := cX8_forget) (maxL := 1) (ret := none) (by decide) rfl ?_
  intro p e s m args below meth c s₁ B hml hv
  obtain ⟨rfl, hsz, hP, hKK, hD0⟩ := hv
  have hK := hKK.1
  have hx := B.exec
  have hb := B.bytes
  have hr := B.returns
  have hg : ∀ w ∈ gl, w.before _ s = true := fun w h => atoms_spec (ws := wk yX8_forget cX8_forget 1 none) B.pre w (List.mem_cons_of_mem _ h)
  have hown : s.vm.findClass RX8 = some m.cls := findClass_of_methodNamed B.named
  have hlocks := B.notSynchronized
  subst hsz
  have hD := hD0.self (sz := s.heap.size)
  generalize hAe : va_A [(q, .inr (8, [.ref q_0, .ref q_1, .ref q_2, .ref q_3, .ref q_4, .ref q_5, .ref q_6, .ref q_7, .int q_8, .int q_9, .int q_10, .int q_11, .ref q_12, .int q_13, .ref q_14, .int q_15, .int q_16]))] s.heap.size = A at hD ⊢
  have hA : ∀ q : Nat, s.heap.size ≤ q → A q := fun q h => by rw [← hAe]; exact Or.inr h
  have hS : va_S A s.heap s.heap [] := va_S.rf
  have hl := lv_entry ([.ref q]) (n := 1) (Nat.le_of_ble_eq_true rfl)
  rw [lg_entry_eq]
  generalize (lg_sl ([.ref q]) ++ List.replicate (1 - (lg_sl ([.ref q])).length) Slot.unset).toArray = ls at hl ⊢
  have hl : lv_has ls 1 [(0, .ref q)] := hl
  refine lv_aload_n hx hb dX8_forget_0 rfl (lv_at hl 0 rfl) ?_
  refine lv_iconst (v := 0) hx hb dX8_forget_1 (by decide) ?_
  refine va_put (D := D) (ci := 8) (v := .int 0) (ty := .boolean) (C := RX8) (T := TX8) (N := 17) hx hb hg inX8 tyX8 tyX8_ok nmX8 hown hK hP hD hS 0 rfl rfl 10 (by decide) (hg _ wd_438) (fun _ h9 => h9) rfl (by decide +kernel) rfl rfl (Nat.le_of_ble_eq_true rfl) dX8_forget_2 (fun H locs hP hD hS => ?_)
  have hP : va_P D vwCl [(q, .inr (8, [.ref q_0, .ref q_1, .ref q_2, .ref q_3, .ref q_4, .ref q_5, .ref q_6, .ref q_7, .int q_8, .int q_9, .int 0, .int q_11, .ref q_12, .int q_13, .ref q_14, .int q_15, .int q_16]))] H := hP
  have hD : va_D A [(q, .inr (8, [.ref q_0, .ref q_1, .ref q_2, .ref q_3, .ref q_4, .ref q_5, .ref q_6, .ref q_7, .int q_8, .int q_9, .int 0, .int q_11, .ref q_12, .int q_13, .ref q_14, .int q_15, .int q_16]))] := hD
  refine lv_aload_n hx hb dX8_forget_5 rfl (lv_at hl 0 rfl) ?_
  refine lv_iconst (v := (-1)) hx hb dX8_forget_6 (by decide) ?_
  refine va_put (D := D) (ci := 8) (v := .int (-1)) (ty := .int) (C := RX8) (T := TX8) (N := 17) hx hb hg inX8 tyX8 tyX8_ok nmX8 hown hK hP hD hS 0 rfl rfl 11 (by decide) (hg _ wd_439) (fun _ h9 => h9) rfl (by decide +kernel) rfl rfl (Nat.le_of_ble_eq_true rfl) dX8_forget_7 (fun H locs hP hD hS => ?_)
  have hP : va_P D vwCl [(q, .inr (8, [.ref q_0, .ref q_1, .ref q_2, .ref q_3, .ref q_4, .ref q_5, .ref q_6, .ref q_7, .int q_8, .int q_9, .int 0, .int (-1), .ref q_12, .int q_13, .ref q_14, .int q_15, .int q_16]))] H := hP
  have hD : va_D A [(q, .inr (8, [.ref q_0, .ref q_1, .ref q_2, .ref q_3, .ref q_4, .ref q_5, .ref q_6, .ref q_7, .int q_8, .int q_9, .int 0, .int (-1), .ref q_12, .int q_13, .ref q_14, .int q_15, .int q_16]))] := hD
  exact W.vret hx hb hr (fun t ht hW => ⟨⟨(), rfl, trivial, trivial⟩, hS.F ht⟩) hS.2.2 dX8_forget_10
theorem dX11_field_0 : decode cX11_field 0 = .ok (.iload_n 1, 1) := by decide +kernel
theorem dX11_field_1 : decode cX11_field 1 = .ok (.iconst 0, 1) := by decide +kernel
theorem dX11_field_2 : decode cX11_field 2 = .ok (.iconst 4, 1) := by decide +kernel
theorem dX11_field_3 : decode cX11_field 3 = .ok (.invokestatic 150, 3) := by decide +kernel
theorem dX11_field_6 : decode cX11_field 6 = .ok (.ifCond .eq 23, 3) := by decide +kernel
theorem dX11_field_29 : decode cX11_field 29 = .ok (.aload_n 0, 1) := by decide +kernel
theorem dX11_field_30 : decode cX11_field 30 = .ok (.iconst (-1), 1) := by decide +kernel
theorem dX11_field_31 : decode cX11_field 31 = .ok (.invokevirtual 118, 3) := by decide +kernel
theorem dX11_field_34 : decode cX11_field 34 = .ok (.ireturn, 1) := by decide +kernel
theorem dX11_field_9 : decode cX11_field 9 = .ok (.iload_n 2, 1) := by decide +kernel
theorem dX11_field_10 : decode cX11_field 10 = .ok (.iconst 1, 1) := by decide +kernel
theorem dX11_field_11 : decode cX11_field 11 = .ok (.bipush 99, 2) := by decide +kernel
theorem dX11_field_13 : decode cX11_field 13 = .ok (.invokestatic 150, 3) := by decide +kernel
theorem dX11_field_16 : decode cX11_field 16 = .ok (.ifCond .eq 13, 3) := by decide +kernel
theorem dX11_field_19 : decode cX11_field 19 = .ok (.iload_n 3, 1) := by decide +kernel
theorem dX11_field_20 : decode cX11_field 20 = .ok (.iconst 1, 1) := by decide +kernel
theorem dX11_field_21 : decode cX11_field 21 = .ok (.bipush 99, 2) := by decide +kernel
theorem dX11_field_23 : decode cX11_field 23 = .ok (.invokestatic 150, 3) := by decide +kernel
theorem dX11_field_26 : decode cX11_field 26 = .ok (.ifCond .ne 9, 3) := by decide +kernel
theorem dX11_field_35 : decode cX11_field 35 = .ok (.aload_n 0, 1) := by decide +kernel
theorem dX11_field_36 : decode cX11_field 36 = .ok (.getfield 55, 3) := by decide +kernel
theorem wd_690 : (Cond.fieldLink "VoteRoll" 55 "VoteRoll" "chancesOfPairs" "LVoteRoll$Odds;") ∈ gl := gl_at 690 (by decide +kernel) (by decide +kernel)
theorem dX11_field_39 : decode cX11_field 39 = .ok (.getfield 204, 3) := by decide +kernel
theorem wd_368 : (Cond.fieldLink "VoteRoll" 204 "VoteRoll$Odds" "sameAgree" "[I") ∈ gl := gl_at 368 (by decide +kernel) (by decide +kernel)
theorem dX11_field_42 : decode cX11_field 42 = .ok (.iload_n 1, 1) := by decide +kernel
theorem dX11_field_43 : decode cX11_field 43 = .ok (.iload_n 2, 1) := by decide +kernel
theorem dX11_field_44 : decode cX11_field 44 = .ok (.iastore, 1) := by decide +kernel
theorem dX11_field_45 : decode cX11_field 45 = .ok (.aload_n 0, 1) := by decide +kernel
theorem dX11_field_46 : decode cX11_field 46 = .ok (.getfield 55, 3) := by decide +kernel
theorem dX11_field_49 : decode cX11_field 49 = .ok (.getfield 207, 3) := by decide +kernel
theorem wd_370 : (Cond.fieldLink "VoteRoll" 207 "VoteRoll$Odds" "otherAgree" "[I") ∈ gl := gl_at 370 (by decide +kernel) (by decide +kernel)
theorem dX11_field_52 : decode cX11_field 52 = .ok (.iload_n 1, 1) := by decide +kernel
theorem dX11_field_53 : decode cX11_field 53 = .ok (.iload_n 3, 1) := by decide +kernel
theorem dX11_field_54 : decode cX11_field 54 = .ok (.iastore, 1) := by decide +kernel
theorem dX11_field_55 : decode cX11_field 55 = .ok (.aload_n 0, 1) := by decide +kernel
theorem dX11_field_56 : decode cX11_field 56 = .ok (.getfield 64, 3) := by decide +kernel
theorem wd_691 : (Cond.fieldLink "VoteRoll" 64 "VoteRoll" "persons" "LVoteRoll$Persons;") ∈ gl := gl_at 691 (by decide +kernel) (by decide +kernel)
theorem dX11_field_59 : decode cX11_field 59 = .ok (.invokevirtual 134, 3) := by decide +kernel
theorem wd_804 : (Cond.code yX8_forget cX8_forget 1 none) ∈ gl := gl_at 804 (by decide +kernel) (by decide +kernel)
theorem wd_801 : (Cond.methodLink "VoteRoll" 134 yX8_forget) ∈ gl := gl_at 801 (by decide +kernel) (by decide +kernel)
theorem wd_114 : (Cond.initialized "VoteRoll$Persons") ∈ gl := gl_at 114 (by decide +kernel) (by decide +kernel)
theorem wd_802 : (Cond.instanceMethod yX8_forget) ∈ gl := gl_at 802 (by decide +kernel) (by decide +kernel)
theorem wd_803 : (Cond.selects "VoteRoll$Persons" yX8_forget yX8_forget) ∈ gl := gl_at 803 (by decide +kernel) (by decide +kernel)
theorem dX11_field_62 : decode cX11_field 62 = .ok (.aload_n 0, 1) := by decide +kernel
theorem dX11_field_63 : decode cX11_field 63 = .ok (.iconst 0, 1) := by decide +kernel
theorem dX11_field_64 : decode cX11_field 64 = .ok (.invokevirtual 140, 3) := by decide +kernel
theorem dX11_field_67 : decode cX11_field 67 = .ok (.ireturn, 1) := by decide +kernel
set_option maxHeartbeats 4000000 in
set_option maxRecDepth 100000 in
theorem c_field (l : Launch) (D : va_G) (ct : Nat → ClassId) (h : Nat) (a1 : Int32) (a2 : Int32) (a3 : Int32) (h_0 : Nat) (h_1 : Nat) (h_2 : Nat) (h_3 : Nat) (h_4 : Nat) (h_5 : Nat) (h_6 : Nat) (h_7 : Nat) (h_8 : Nat) (h_9 : Nat) (h_10 : Nat) (h_11 : Nat) (h_12 : Nat) (h_13 : Int32) (h_14 : Int32) (h_7_0 : Nat) (h_7_1 : Nat) (h_7_2 : Nat) (h_7_3 : Int32) (h_7_4 : Int32) (h_7_5 : Int32) (h_7_6 : Int32) (h_7_7 : Int32) (h_7_8 : Int64) (h_7_9 : Int64) (h_7_10 : Int32) (h_7_11 : Nat) (h_7_12 : Nat) (h_7_13 : Nat) (f : Nat → Int32) (g : Nat → Int32) (h_8_0 : Nat) (h_8_1 : Nat) (h_8_2 : Nat) (h_8_3 : Nat) (h_8_4 : Nat) (h_8_5 : Nat) (h_8_6 : Nat) (h_8_7 : Nat) (h_8_8 : Int32) (h_8_9 : Int32) (h_8_10 : Int32) (h_8_11 : Int32) (h_8_12 : Nat) (h_8_13 : Int32) (h_8_14 : Nat) (h_8_15 : Int32) (h_8_16 : Int32) (sz : Nat)  : Met l yX11_field (wk yX11_field cX11_field 4 (some .int)) { frames := 1, cells := 0, slots := 0, locals := 22 } (va_Pc [.ref h, .int a1, .int a2, .int a3] (Wd D [(h, .inr (11, [.ref h_0, .ref h_1, .ref h_2, .ref h_3, .ref h_4, .ref h_5, .ref h_6, .ref h_7, .ref h_8, .ref h_9, .ref h_10, .ref h_11, .ref h_12, .int h_13, .int h_14])), (h_7, .inr (7, [.ref h_7_0, .ref h_7_1, .ref h_7_2, .int h_7_3, .int h_7_4, .int h_7_5, .int h_7_6, .int h_7_7, .long h_7_8, .long h_7_9, .int h_7_10, .ref h_7_11, .ref h_7_12, .ref h_7_13])), (h_7_1, .inl (ct 1, 5, .inl f)), (h_7_2, .inl (ct 1, 5, .inl g)), (h_8, .inr (8, [.ref h_8_0, .ref h_8_1, .ref h_8_2, .ref h_8_3, .ref h_8_4, .ref h_8_5, .ref h_8_6, .ref h_8_7, .int h_8_8, .int h_8_9, .int h_8_10, .int h_8_11, .ref h_8_12, .int h_8_13, .ref h_8_14, .int h_8_15, .int h_8_16]))] ct sz)) (va_Qi (fun (r : Int32) (u : Unit) => r = sp_field a1 a2 a3) (fun _ _ => True) (va_A [(h, .inr (11, [.ref h_0, .ref h_1, .ref h_2, .ref h_3, .ref h_4, .ref h_5, .ref h_6, .ref h_7, .ref h_8, .ref h_9, .ref h_10, .ref h_11, .ref h_12, .int h_13, .int h_14])), (h_7, .inr (7, [.ref h_7_0, .ref h_7_1, .ref h_7_2, .int h_7_3, .int h_7_4, .int h_7_5, .int h_7_6, .int h_7_7, .long h_7_8, .long h_7_9, .int h_7_10, .ref h_7_11, .ref h_7_12, .ref h_7_13])), (h_7_1, .inl (ct 1, 5, .inl f)), (h_7_2, .inl (ct 1, 5, .inl g)), (h_8, .inr (8, [.ref h_8_0, .ref h_8_1, .ref h_8_2, .ref h_8_3, .ref h_8_4, .ref h_8_5, .ref h_8_6, .ref h_8_7, .int h_8_8, .int h_8_9, .int h_8_10, .int h_8_11, .ref h_8_12, .int h_8_13, .ref h_8_14, .int h_8_15, .int h_8_16]))] sz)) 0 0 (va_A [(h, .inr (11, [.ref h_0, .ref h_1, .ref h_2, .ref h_3, .ref h_4, .ref h_5, .ref h_6, .ref h_7, .ref h_8, .ref h_9, .ref h_10, .ref h_11, .ref h_12, .int h_13, .int h_14])), (h_7, .inr (7, [.ref h_7_0, .ref h_7_1, .ref h_7_2, .int h_7_3, .int h_7_4, .int h_7_5, .int h_7_6, .int h_7_7, .long h_7_8, .long h_7_9, .int h_7_10, .ref h_7_11, .ref h_7_12, .ref h_7_13])), (h_7_1, .inl (ct 1, 5, .inl f)), (h_7_2, .inl (ct 1, 5, .inl g)), (h_8, .inr (8, [.ref h_8_0, .ref h_8_1, .ref h_8_2, .ref h_8_3, .ref h_8_4, .ref h_8_5, .ref h_8_6, .ref h_8_7, .int h_8_8, .int h_8_9, .int h_8_10, .int h_8_11, .ref h_8_12, .int h_8_13, .ref h_8_14, .int h_8_15, .int h_8_16]))] sz) := by
  refine Met.ofW (cc := cX11_field) (maxL := 4) (ret := (some .int)) (by decide) rfl ?_
  intro p e s m args below meth c s₁ B hml hv
  obtain ⟨rfl, hsz, hP, hKK, hD0⟩ := hv
  have hK := hKK.1
  have hx := B.exec
  have hb := B.bytes
  have hr := B.returns
  have hg : ∀ w ∈ gl, w.before _ s = true := fun w h => atoms_spec (ws := wk yX11_field cX11_field 4 (some .int)) B.pre w (List.mem_cons_of_mem _ h)
  have hown : s.vm.findClass RX11 = some m.cls := findClass_of_methodNamed B.named
  have hlocks := B.notSynchronized
  subst hsz
  have hD := hD0.self (sz := s.heap.size)
  generalize hAe : va_A [(h, .inr (11, [.ref h_0, .ref h_1, .ref h_2, .ref h_3, .ref h_4, .ref h_5, .ref h_6, .ref h_7, .ref h_8, .ref h_9, .ref h_10, .ref h_11, .ref h_12, .int h_13, .int h_14])), (h_7, .inr (7, [.ref h_7_0, .ref h_7_1, .ref h_7_2, .int h_7_3, .int h_7_4, .int h_7_5, .int h_7_6, .int h_7_7, .long h_7_8, .long h_7_9, .int h_7_10, .ref h_7_11, .ref h_7_12, .ref h_7_13])), (h_7_1, .inl (ct 1, 5, .inl f)), (h_7_2, .inl (ct 1, 5, .inl g)), (h_8, .inr (8, [.ref h_8_0, .ref h_8_1, .ref h_8_2, .ref h_8_3, .ref h_8_4, .ref h_8_5, .ref h_8_6, .ref h_8_7, .int h_8_8, .int h_8_9, .int h_8_10, .int h_8_11, .ref h_8_12, .int h_8_13, .ref h_8_14, .int h_8_15, .int h_8_16]))] s.heap.size = A at hD ⊢
  have hA : ∀ q : Nat, s.heap.size ≤ q → A q := fun q h => by rw [← hAe]; exact Or.inr h
  have hS : va_S A s.heap s.heap [] := va_S.rf
  have hl := lv_entry ([.ref h, .int a1, .int a2, .int a3]) (n := 4) (Nat.le_of_ble_eq_true rfl)
  rw [lg_entry_eq]
  generalize (lg_sl ([.ref h, .int a1, .int a2, .int a3]) ++ List.replicate (4 - (lg_sl ([.ref h, .int a1, .int a2, .int a3])).length) Slot.unset).toArray = ls at hl ⊢
  have hl : lv_has ls 4 [(0, .ref h), (1, .int a1), (2, .int a2), (3, .int a3)] := hl
  refine lv_iload_n hx hb dX11_field_0 rfl (lv_at hl 1 rfl) ?_
  refine lv_iconst (v := 0) hx hb dX11_field_1 (by decide) ?_
  refine lv_iconst (v := 4) hx hb dX11_field_2 (by decide) ?_
  have hPc := hP.sub (ws' := []) [] rfl
  refine z_calli (va_runS (As := [.int a1, .int 0, .int 4]) (rest := []) ⟨hx, hb, hml, hown, hg⟩ (c_within l D ct a1 0 4 ) (va_cwS 3 hg (gd_S wd_959 wd_917 wd_107 wd_918) rfl rfl rfl (by decide +kernel) ⟨Nat.le_of_ble_eq_true rfl, Nat.le_of_ble_eq_true rfl⟩) (Wr_S hPc hKK) rfl rfl hl.1 rfl (lv_room (Nat.le_of_ble_eq_true rfl)) dX11_field_3 ⟨Nat.le_of_ble_eq_true rfl, Nat.le_of_ble_eq_true rfl⟩) (fun r_1 hw_1 => ?_)
  subst hw_1
  refine lv_if_eq (tgt := 29) hx hb dX11_field_6 (by decide) (fun c_2 => ?_) (fun c_2 => ?_)
  · refine lv_aload_n hx hb dX11_field_29 rfl (lv_at hl 0 rfl) ?_
    refine lv_iconst (v := (-1)) hx hb dX11_field_30 (by decide) ?_
    have hPc := hP.sub (ws' := [(h, .inr (11, [.ref h_0, .ref h_1, .ref h_2, .ref h_3, .ref h_4, .ref h_5, .ref h_6, .ref h_7, .ref h_8, .ref h_9, .ref h_10, .ref h_11, .ref h_12, .int h_13, .int h_14]))]) [0] rfl
    have hDc := hD.sub (ws' := [(h, .inr (11, [.ref h_0, .ref h_1, .ref h_2, .ref h_3, .ref h_4, .ref h_5, .ref h_6, .ref h_7, .ref h_8, .ref h_9, .ref h_10, .ref h_11, .ref h_12, .int h_13, .int h_14]))]) [0] (by decide) rfl
    have hFc := va_free (wc := [(h, .inr (11, [.ref h_0, .ref h_1, .ref h_2, .ref h_3, .ref h_4, .ref h_5, .ref h_6, .ref h_7, .ref h_8, .ref h_9, .ref h_10, .ref h_11, .ref h_12, .int h_13, .int h_14]))]) hD hS hA [0] rfl
    refine va_calli (va_runV (As := [.int (-1)]) (rest := []) ⟨hx, hb, hml, hown, hg⟩ (c_refuse l D ct h (-1) h_0 h_1 h_2 h_3 h_4 h_5 h_6 h_7 h_8 h_9 h_10 h_11 h_12 h_13 h_14 s.heap.size ) (cwV 1 hg (gd_V wd_778 wd_780 wd_3 wd_107 wd_781) rfl rfl rfl (by decide +kernel) ⟨Nat.le_of_ble_eq_true rfl, Nat.le_of_ble_eq_true rfl⟩) (Wd_V hPc hKK hDc (va_recv hK hPc (ci := 11) (q0 := 0) rfl rfl)) rfl rfl hl.1 rfl (lv_room (Nat.le_of_ble_eq_true rfl)) dX11_field_31 ⟨Nat.le_of_ble_eq_true rfl, Nat.le_of_ble_eq_true rfl⟩) hS (fun q _ h => hFc q h) hFc (fun r_3 u_3 t_3 H1 locs ht_3 hvm_3 hw_3 hB_3 hz_3 hk_3 hS => ?_)
    obtain ⟨hP, hD⟩ := va_join (wr := [(h_7, .inr (7, [.ref h_7_0, .ref h_7_1, .ref h_7_2, .int h_7_3, .int h_7_4, .int h_7_5, .int h_7_6, .int h_7_7, .long h_7_8, .long h_7_9, .int h_7_10, .ref h_7_11, .ref h_7_12, .ref h_7_13])), (h_7_1, .inl (ct 1, 5, .inl f)), (h_7_2, .inl (ct 1, 5, .inl g)), (h_8, .inr (8, [.ref h_8_0, .ref h_8_1, .ref h_8_2, .ref h_8_3, .ref h_8_4, .ref h_8_5, .ref h_8_6, .ref h_8_7, .int h_8_8, .int h_8_9, .int h_8_10, .int h_8_11, .ref h_8_12, .int h_8_13, .ref h_8_14, .int h_8_15, .int h_8_16]))]) (w1 := []) hP hD [0] [1, 2, 3, 4] rfl rfl (by decide) (by decide) hk_3 hFc (fun k q h => by simp at h) ⟨fun i j p q h => by simp at h, fun k q h => by simp at h⟩
    generalize H1 = H at hP hS ⊢
    have hP : va_P D vwCl [(h_7, .inr (7, [.ref h_7_0, .ref h_7_1, .ref h_7_2, .int h_7_3, .int h_7_4, .int h_7_5, .int h_7_6, .int h_7_7, .long h_7_8, .long h_7_9, .int h_7_10, .ref h_7_11, .ref h_7_12, .ref h_7_13])), (h_7_1, .inl (ct 1, 5, .inl f)), (h_7_2, .inl (ct 1, 5, .inl g)), (h_8, .inr (8, [.ref h_8_0, .ref h_8_1, .ref h_8_2, .ref h_8_3, .ref h_8_4, .ref h_8_5, .ref h_8_6, .ref h_8_7, .int h_8_8, .int h_8_9, .int h_8_10, .int h_8_11, .ref h_8_12, .int h_8_13, .ref h_8_14, .int h_8_15, .int h_8_16]))] H := hP
    have hD : va_D A [(h_7, .inr (7, [.ref h_7_0, .ref h_7_1, .ref h_7_2, .int h_7_3, .int h_7_4, .int h_7_5, .int h_7_6, .int h_7_7, .long h_7_8, .long h_7_9, .int h_7_10, .ref h_7_11, .ref h_7_12, .ref h_7_13])), (h_7_1, .inl (ct 1, 5, .inl f)), (h_7_2, .inl (ct 1, 5, .inl g)), (h_8, .inr (8, [.ref h_8_0, .ref h_8_1, .ref h_8_2, .ref h_8_3, .ref h_8_4, .ref h_8_5, .ref h_8_6, .ref h_8_7, .int h_8_8, .int h_8_9, .int h_8_10, .int h_8_11, .ref h_8_12, .int h_8_13, .ref h_8_14, .int h_8_15, .int h_8_16]))] := hD
    subst hw_3
    exact W.iret (v := (-1)) hx hb hr (fun t ht hW => ⟨⟨(-1), (), rfl, (by simp [sp_field, c_2]), trivial⟩, hS.F ht⟩) hS.2.2 dX11_field_34
  · refine lv_iload_n hx hb dX11_field_9 rfl (lv_at hl 2 rfl) ?_
    refine lv_iconst (v := 1) hx hb dX11_field_10 (by decide) ?_
    refine lv_bipush (v := 99) hx hb dX11_field_11 (by decide) ?_
    have hPc := hP.sub (ws' := []) [] rfl
    refine z_calli (va_runS (As := [.int a2, .int 1, .int 99]) (rest := []) ⟨hx, hb, hml, hown, hg⟩ (c_within l D ct a2 1 99 ) (va_cwS 3 hg (gd_S wd_959 wd_917 wd_107 wd_918) rfl rfl rfl (by decide +kernel) ⟨Nat.le_of_ble_eq_true rfl, Nat.le_of_ble_eq_true rfl⟩) (Wr_S hPc hKK) rfl rfl hl.1 rfl (lv_room (Nat.le_of_ble_eq_true rfl)) dX11_field_13 ⟨Nat.le_of_ble_eq_true rfl, Nat.le_of_ble_eq_true rfl⟩) (fun r_4 hw_4 => ?_)
    subst hw_4
    refine lv_if_eq (tgt := 29) hx hb dX11_field_16 (by decide) (fun c_5 => ?_) (fun c_5 => ?_)
    · refine lv_aload_n hx hb dX11_field_29 rfl (lv_at hl 0 rfl) ?_
      refine lv_iconst (v := (-1)) hx hb dX11_field_30 (by decide) ?_
      have hPc := hP.sub (ws' := [(h, .inr (11, [.ref h_0, .ref h_1, .ref h_2, .ref h_3, .ref h_4, .ref h_5, .ref h_6, .ref h_7, .ref h_8, .ref h_9, .ref h_10, .ref h_11, .ref h_12, .int h_13, .int h_14]))]) [0] rfl
      have hDc := hD.sub (ws' := [(h, .inr (11, [.ref h_0, .ref h_1, .ref h_2, .ref h_3, .ref h_4, .ref h_5, .ref h_6, .ref h_7, .ref h_8, .ref h_9, .ref h_10, .ref h_11, .ref h_12, .int h_13, .int h_14]))]) [0] (by decide) rfl
      have hFc := va_free (wc := [(h, .inr (11, [.ref h_0, .ref h_1, .ref h_2, .ref h_3, .ref h_4, .ref h_5, .ref h_6, .ref h_7, .ref h_8, .ref h_9, .ref h_10, .ref h_11, .ref h_12, .int h_13, .int h_14]))]) hD hS hA [0] rfl
      refine va_calli (va_runV (As := [.int (-1)]) (rest := []) ⟨hx, hb, hml, hown, hg⟩ (c_refuse l D ct h (-1) h_0 h_1 h_2 h_3 h_4 h_5 h_6 h_7 h_8 h_9 h_10 h_11 h_12 h_13 h_14 s.heap.size ) (cwV 1 hg (gd_V wd_778 wd_780 wd_3 wd_107 wd_781) rfl rfl rfl (by decide +kernel) ⟨Nat.le_of_ble_eq_true rfl, Nat.le_of_ble_eq_true rfl⟩) (Wd_V hPc hKK hDc (va_recv hK hPc (ci := 11) (q0 := 0) rfl rfl)) rfl rfl hl.1 rfl (lv_room (Nat.le_of_ble_eq_true rfl)) dX11_field_31 ⟨Nat.le_of_ble_eq_true rfl, Nat.le_of_ble_eq_true rfl⟩) hS (fun q _ h => hFc q h) hFc (fun r_6 u_6 t_6 H1 locs ht_6 hvm_6 hw_6 hB_6 hz_6 hk_6 hS => ?_)
      obtain ⟨hP, hD⟩ := va_join (wr := [(h_7, .inr (7, [.ref h_7_0, .ref h_7_1, .ref h_7_2, .int h_7_3, .int h_7_4, .int h_7_5, .int h_7_6, .int h_7_7, .long h_7_8, .long h_7_9, .int h_7_10, .ref h_7_11, .ref h_7_12, .ref h_7_13])), (h_7_1, .inl (ct 1, 5, .inl f)), (h_7_2, .inl (ct 1, 5, .inl g)), (h_8, .inr (8, [.ref h_8_0, .ref h_8_1, .ref h_8_2, .ref h_8_3, .ref h_8_4, .ref h_8_5, .ref h_8_6, .ref h_8_7, .int h_8_8, .int h_8_9, .int h_8_10, .int h_8_11, .ref h_8_12, .int h_8_13, .ref h_8_14, .int h_8_15, .int h_8_16]))]) (w1 := []) hP hD [0] [1, 2, 3, 4] rfl rfl (by decide) (by decide) hk_6 hFc (fun k q h => by simp at h) ⟨fun i j p q h => by simp at h, fun k q h => by simp at h⟩
      generalize H1 = H at hP hS ⊢
      have hP : va_P D vwCl [(h_7, .inr (7, [.ref h_7_0, .ref h_7_1, .ref h_7_2, .int h_7_3, .int h_7_4, .int h_7_5, .int h_7_6, .int h_7_7, .long h_7_8, .long h_7_9, .int h_7_10, .ref h_7_11, .ref h_7_12, .ref h_7_13])), (h_7_1, .inl (ct 1, 5, .inl f)), (h_7_2, .inl (ct 1, 5, .inl g)), (h_8, .inr (8, [.ref h_8_0, .ref h_8_1, .ref h_8_2, .ref h_8_3, .ref h_8_4, .ref h_8_5, .ref h_8_6, .ref h_8_7, .int h_8_8, .int h_8_9, .int h_8_10, .int h_8_11, .ref h_8_12, .int h_8_13, .ref h_8_14, .int h_8_15, .int h_8_16]))] H := hP
      have hD : va_D A [(h_7, .inr (7, [.ref h_7_0, .ref h_7_1, .ref h_7_2, .int h_7_3, .int h_7_4, .int h_7_5, .int h_7_6, .int h_7_7, .long h_7_8, .long h_7_9, .int h_7_10, .ref h_7_11, .ref h_7_12, .ref h_7_13])), (h_7_1, .inl (ct 1, 5, .inl f)), (h_7_2, .inl (ct 1, 5, .inl g)), (h_8, .inr (8, [.ref h_8_0, .ref h_8_1, .ref h_8_2, .ref h_8_3, .ref h_8_4, .ref h_8_5, .ref h_8_6, .ref h_8_7, .int h_8_8, .int h_8_9, .int h_8_10, .int h_8_11, .ref h_8_12, .int h_8_13, .ref h_8_14, .int h_8_15, .int h_8_16]))] := hD
      subst hw_6
      exact W.iret (v := (-1)) hx hb hr (fun t ht hW => ⟨⟨(-1), (), rfl, (by simp [sp_field, c_2, c_5]), trivial⟩, hS.F ht⟩) hS.2.2 dX11_field_34
    · refine lv_iload_n hx hb dX11_field_19 rfl (lv_at hl 3 rfl) ?_
      refine lv_iconst (v := 1) hx hb dX11_field_20 (by decide) ?_
      refine lv_bipush (v := 99) hx hb dX11_field_21 (by decide) ?_
      have hPc := hP.sub (ws' := []) [] rfl
      refine z_calli (va_runS (As := [.int a3, .int 1, .int 99]) (rest := []) ⟨hx, hb, hml, hown, hg⟩ (c_within l D ct a3 1 99 ) (va_cwS 3 hg (gd_S wd_959 wd_917 wd_107 wd_918) rfl rfl rfl (by decide +kernel) ⟨Nat.le_of_ble_eq_true rfl, Nat.le_of_ble_eq_true rfl⟩) (Wr_S hPc hKK) rfl rfl hl.1 rfl (lv_room (Nat.le_of_ble_eq_true rfl)) dX11_field_23 ⟨Nat.le_of_ble_eq_true rfl, Nat.le_of_ble_eq_true rfl⟩) (fun r_7 hw_7 => ?_)
      subst hw_7
      refine lv_if_ne (tgt := 35) hx hb dX11_field_26 (by decide) (fun c_8 => ?_) (fun c_8 => ?_)
      · refine lv_aload_n hx hb dX11_field_35 rfl (lv_at hl 0 rfl) ?_
        refine va_get (D := D) (ci := 11) (v := .ref h_7) (C := RX11) (T := TX11) (N := 15) hx hb hg inX11 hown hK hP 0 rfl rfl 7 (by decide) (hg _ wd_690) (fun _ h9 => h9) rfl dX11_field_36 ?_
        refine va_get (D := D) (ci := 7) (v := .ref h_7_1) (C := RX7) (T := TX7) (N := 14) hx hb hg inX7 hown hK hP 1 rfl rfl 1 (by decide) (hg _ wd_368) (fun _ h9 => h9) rfl dX11_field_39 ?_
        refine lv_iload_n hx hb dX11_field_42 rfl (lv_at hl 1 rfl) ?_
        refine lv_iload_n hx hb dX11_field_43 rfl (lv_at hl 2 rfl) ?_
        refine va_iast hx hb hK hP hD hS 2 1 rfl rfl (bw_in (by assumption) (by decide)) dX11_field_44 (fun H locs hP hD hS => ?_)
        obtain ⟨f_9, ef_9⟩ : ∃ z : Nat → Int32, z = upd f a1.toNatClampNeg a2 := ⟨_, rfl⟩
        have hP : va_P D vwCl [(h, .inr (11, [.ref h_0, .ref h_1, .ref h_2, .ref h_3, .ref h_4, .ref h_5, .ref h_6, .ref h_7, .ref h_8, .ref h_9, .ref h_10, .ref h_11, .ref h_12, .int h_13, .int h_14])), (h_7, .inr (7, [.ref h_7_0, .ref h_7_1, .ref h_7_2, .int h_7_3, .int h_7_4, .int h_7_5, .int h_7_6, .int h_7_7, .long h_7_8, .long h_7_9, .int h_7_10, .ref h_7_11, .ref h_7_12, .ref h_7_13])), (h_7_1, .inl (ct 1, 5, .inl f_9)), (h_7_2, .inl (ct 1, 5, .inl g)), (h_8, .inr (8, [.ref h_8_0, .ref h_8_1, .ref h_8_2, .ref h_8_3, .ref h_8_4, .ref h_8_5, .ref h_8_6, .ref h_8_7, .int h_8_8, .int h_8_9, .int h_8_10, .int h_8_11, .ref h_8_12, .int h_8_13, .ref h_8_14, .int h_8_15, .int h_8_16]))] H := by rw [ef_9]; exact hP
        have hD : va_D A [(h, .inr (11, [.ref h_0, .ref h_1, .ref h_2, .ref h_3, .ref h_4, .ref h_5, .ref h_6, .ref h_7, .ref h_8, .ref h_9, .ref h_10, .ref h_11, .ref h_12, .int h_13, .int h_14])), (h_7, .inr (7, [.ref h_7_0, .ref h_7_1, .ref h_7_2, .int h_7_3, .int h_7_4, .int h_7_5, .int h_7_6, .int h_7_7, .long h_7_8, .long h_7_9, .int h_7_10, .ref h_7_11, .ref h_7_12, .ref h_7_13])), (h_7_1, .inl (ct 1, 5, .inl f_9)), (h_7_2, .inl (ct 1, 5, .inl g)), (h_8, .inr (8, [.ref h_8_0, .ref h_8_1, .ref h_8_2, .ref h_8_3, .ref h_8_4, .ref h_8_5, .ref h_8_6, .ref h_8_7, .int h_8_8, .int h_8_9, .int h_8_10, .int h_8_11, .ref h_8_12, .int h_8_13, .ref h_8_14, .int h_8_15, .int h_8_16]))] := by rw [ef_9]; exact hD
        refine lv_aload_n hx hb dX11_field_45 rfl (lv_at hl 0 rfl) ?_
        refine va_get (D := D) (ci := 11) (v := .ref h_7) (C := RX11) (T := TX11) (N := 15) hx hb hg inX11 hown hK hP 0 rfl rfl 7 (by decide) (hg _ wd_690) (fun _ h9 => h9) rfl dX11_field_46 ?_
        refine va_get (D := D) (ci := 7) (v := .ref h_7_2) (C := RX7) (T := TX7) (N := 14) hx hb hg inX7 hown hK hP 1 rfl rfl 2 (by decide) (hg _ wd_370) (fun _ h9 => h9) rfl dX11_field_49 ?_
        refine lv_iload_n hx hb dX11_field_52 rfl (lv_at hl 1 rfl) ?_
        refine lv_iload_n hx hb dX11_field_53 rfl (lv_at hl 3 rfl) ?_
        refine va_iast hx hb hK hP hD hS 3 1 rfl rfl (bw_in (by assumption) (by decide)) dX11_field_54 (fun H locs hP hD hS => ?_)
        obtain ⟨f_10, ef_10⟩ : ∃ z : Nat → Int32, z = upd g a1.toNatClampNeg a3 := ⟨_, rfl⟩
        have hP : va_P D vwCl [(h, .inr (11, [.ref h_0, .ref h_1, .ref h_2, .ref h_3, .ref h_4, .ref h_5, .ref h_6, .ref h_7, .ref h_8, .ref h_9, .ref h_10, .ref h_11, .ref h_12, .int h_13, .int h_14])), (h_7, .inr (7, [.ref h_7_0, .ref h_7_1, .ref h_7_2, .int h_7_3, .int h_7_4, .int h_7_5, .int h_7_6, .int h_7_7, .long h_7_8, .long h_7_9, .int h_7_10, .ref h_7_11, .ref h_7_12, .ref h_7_13])), (h_7_1, .inl (ct 1, 5, .inl f_9)), (h_7_2, .inl (ct 1, 5, .inl f_10)), (h_8, .inr (8, [.ref h_8_0, .ref h_8_1, .ref h_8_2, .ref h_8_3, .ref h_8_4, .ref h_8_5, .ref h_8_6, .ref h_8_7, .int h_8_8, .int h_8_9, .int h_8_10, .int h_8_11, .ref h_8_12, .int h_8_13, .ref h_8_14, .int h_8_15, .int h_8_16]))] H := by rw [ef_10]; exact hP
        have hD : va_D A [(h, .inr (11, [.ref h_0, .ref h_1, .ref h_2, .ref h_3, .ref h_4, .ref h_5, .ref h_6, .ref h_7, .ref h_8, .ref h_9, .ref h_10, .ref h_11, .ref h_12, .int h_13, .int h_14])), (h_7, .inr (7, [.ref h_7_0, .ref h_7_1, .ref h_7_2, .int h_7_3, .int h_7_4, .int h_7_5, .int h_7_6, .int h_7_7, .long h_7_8, .long h_7_9, .int h_7_10, .ref h_7_11, .ref h_7_12, .ref h_7_13])), (h_7_1, .inl (ct 1, 5, .inl f_9)), (h_7_2, .inl (ct 1, 5, .inl f_10)), (h_8, .inr (8, [.ref h_8_0, .ref h_8_1, .ref h_8_2, .ref h_8_3, .ref h_8_4, .ref h_8_5, .ref h_8_6, .ref h_8_7, .int h_8_8, .int h_8_9, .int h_8_10, .int h_8_11, .ref h_8_12, .int h_8_13, .ref h_8_14, .int h_8_15, .int h_8_16]))] := by rw [ef_10]; exact hD
        refine lv_aload_n hx hb dX11_field_55 rfl (lv_at hl 0 rfl) ?_
        refine va_get (D := D) (ci := 11) (v := .ref h_8) (C := RX11) (T := TX11) (N := 15) hx hb hg inX11 hown hK hP 0 rfl rfl 8 (by decide) (hg _ wd_691) (fun _ h9 => h9) rfl dX11_field_56 ?_
        have hPc := hP.sub (ws' := [(h_8, .inr (8, [.ref h_8_0, .ref h_8_1, .ref h_8_2, .ref h_8_3, .ref h_8_4, .ref h_8_5, .ref h_8_6, .ref h_8_7, .int h_8_8, .int h_8_9, .int h_8_10, .int h_8_11, .ref h_8_12, .int h_8_13, .ref h_8_14, .int h_8_15, .int h_8_16]))]) [4] rfl
        have hDc := hD.sub (ws' := [(h_8, .inr (8, [.ref h_8_0, .ref h_8_1, .ref h_8_2, .ref h_8_3, .ref h_8_4, .ref h_8_5, .ref h_8_6, .ref h_8_7, .int h_8_8, .int h_8_9, .int h_8_10, .int h_8_11, .ref h_8_12, .int h_8_13, .ref h_8_14, .int h_8_15, .int h_8_16]))]) [4] (by decide) rfl
        have hFc := va_free (wc := [(h_8, .inr (8, [.ref h_8_0, .ref h_8_1, .ref h_8_2, .ref h_8_3, .ref h_8_4, .ref h_8_5, .ref h_8_6, .ref h_8_7, .int h_8_8, .int h_8_9, .int h_8_10, .int h_8_11, .ref h_8_12, .int h_8_13, .ref h_8_14, .int h_8_15, .int h_8_16]))]) hD hS hA [4] rfl
        refine va_callv (va_runV (As := []) (rest := []) ⟨hx, hb, hml, hown, hg⟩ (c_forget l D ct h_8 h_8_0 h_8_1 h_8_2 h_8_3 h_8_4 h_8_5 h_8_6 h_8_7 h_8_8 h_8_9 h_8_10 h_8_11 h_8_12 h_8_13 h_8_14 h_8_15 h_8_16 H.size ) (cwV 0 hg (gd_V wd_801 wd_802 wd_803 wd_114 wd_804) rfl rfl rfl (by decide +kernel) ⟨Nat.le_of_ble_eq_true rfl, Nat.le_of_ble_eq_true rfl⟩) (Wd_V hPc hKK hDc (va_recv hK hPc (ci := 8) (q0 := 0) rfl rfl)) rfl rfl hl.1 rfl (lv_room (Nat.le_of_ble_eq_true rfl)) dX11_field_59 ⟨Nat.le_of_ble_eq_true rfl, Nat.le_of_ble_eq_true rfl⟩) hS (fun q _ h => hFc q h) hFc (fun u_11 t_11 H1 locs ht_11 hvm_11 hw_11 hB_11 hz_11 hk_11 hS => ?_)
        obtain ⟨hP, hD⟩ := va_join (wr := [(h, .inr (11, [.ref h_0, .ref h_1, .ref h_2, .ref h_3, .ref h_4, .ref h_5, .ref h_6, .ref h_7, .ref h_8, .ref h_9, .ref h_10, .ref h_11, .ref h_12, .int h_13, .int h_14])), (h_7, .inr (7, [.ref h_7_0, .ref h_7_1, .ref h_7_2, .int h_7_3, .int h_7_4, .int h_7_5, .int h_7_6, .int h_7_7, .long h_7_8, .long h_7_9, .int h_7_10, .ref h_7_11, .ref h_7_12, .ref h_7_13])), (h_7_1, .inl (ct 1, 5, .inl f_9)), (h_7_2, .inl (ct 1, 5, .inl f_10))]) (w1 := []) hP hD [4] [0, 1, 2, 3] rfl rfl (by decide) (by decide) hk_11 hFc (fun k q h => by simp at h) ⟨fun i j p q h => by simp at h, fun k q h => by simp at h⟩
        generalize H1 = H at hP hS ⊢
        have hP : va_P D vwCl [(h, .inr (11, [.ref h_0, .ref h_1, .ref h_2, .ref h_3, .ref h_4, .ref h_5, .ref h_6, .ref h_7, .ref h_8, .ref h_9, .ref h_10, .ref h_11, .ref h_12, .int h_13, .int h_14])), (h_7, .inr (7, [.ref h_7_0, .ref h_7_1, .ref h_7_2, .int h_7_3, .int h_7_4, .int h_7_5, .int h_7_6, .int h_7_7, .long h_7_8, .long h_7_9, .int h_7_10, .ref h_7_11, .ref h_7_12, .ref h_7_13])), (h_7_1, .inl (ct 1, 5, .inl f_9)), (h_7_2, .inl (ct 1, 5, .inl f_10))] H := hP
        have hD : va_D A [(h, .inr (11, [.ref h_0, .ref h_1, .ref h_2, .ref h_3, .ref h_4, .ref h_5, .ref h_6, .ref h_7, .ref h_8, .ref h_9, .ref h_10, .ref h_11, .ref h_12, .int h_13, .int h_14])), (h_7, .inr (7, [.ref h_7_0, .ref h_7_1, .ref h_7_2, .int h_7_3, .int h_7_4, .int h_7_5, .int h_7_6, .int h_7_7, .long h_7_8, .long h_7_9, .int h_7_10, .ref h_7_11, .ref h_7_12, .ref h_7_13])), (h_7_1, .inl (ct 1, 5, .inl f_9)), (h_7_2, .inl (ct 1, 5, .inl f_10))] := hD
        refine lv_aload_n hx hb dX11_field_62 rfl (lv_at hl 0 rfl) ?_
        refine lv_iconst (v := 0) hx hb dX11_field_63 (by decide) ?_
        have hPc := hP.sub (ws' := [(h, .inr (11, [.ref h_0, .ref h_1, .ref h_2, .ref h_3, .ref h_4, .ref h_5, .ref h_6, .ref h_7, .ref h_8, .ref h_9, .ref h_10, .ref h_11, .ref h_12, .int h_13, .int h_14]))]) [0] rfl
        have hDc := hD.sub (ws' := [(h, .inr (11, [.ref h_0, .ref h_1, .ref h_2, .ref h_3, .ref h_4, .ref h_5, .ref h_6, .ref h_7, .ref h_8, .ref h_9, .ref h_10, .ref h_11, .ref h_12, .int h_13, .int h_14]))]) [0] (by decide) rfl
        have hFc := va_free (wc := [(h, .inr (11, [.ref h_0, .ref h_1, .ref h_2, .ref h_3, .ref h_4, .ref h_5, .ref h_6, .ref h_7, .ref h_8, .ref h_9, .ref h_10, .ref h_11, .ref h_12, .int h_13, .int h_14]))]) hD hS hA [0] rfl
        refine va_calli (va_runV (As := [.int 0]) (rest := []) ⟨hx, hb, hml, hown, hg⟩ (c_accept l D ct h 0 h_0 h_1 h_2 h_3 h_4 h_5 h_6 h_7 h_8 h_9 h_10 h_11 h_12 h_13 h_14 H.size ) (cwV 1 hg (gd_V wd_805 wd_807 wd_5 wd_107 wd_808) rfl rfl rfl (by decide +kernel) ⟨Nat.le_of_ble_eq_true rfl, Nat.le_of_ble_eq_true rfl⟩) (Wd_V hPc hKK hDc (va_recv hK hPc (ci := 11) (q0 := 0) rfl rfl)) rfl rfl hl.1 rfl (lv_room (Nat.le_of_ble_eq_true rfl)) dX11_field_64 ⟨Nat.le_of_ble_eq_true rfl, Nat.le_of_ble_eq_true rfl⟩) hS (fun q _ h => hFc q h) hFc (fun r_12 u_12 t_12 H1 locs ht_12 hvm_12 hw_12 hB_12 hz_12 hk_12 hS => ?_)
        obtain ⟨hP, hD⟩ := va_join (wr := [(h_7, .inr (7, [.ref h_7_0, .ref h_7_1, .ref h_7_2, .int h_7_3, .int h_7_4, .int h_7_5, .int h_7_6, .int h_7_7, .long h_7_8, .long h_7_9, .int h_7_10, .ref h_7_11, .ref h_7_12, .ref h_7_13])), (h_7_1, .inl (ct 1, 5, .inl f_9)), (h_7_2, .inl (ct 1, 5, .inl f_10))]) (w1 := []) hP hD [0] [1, 2, 3] rfl rfl (by decide) (by decide) hk_12 hFc (fun k q h => by simp at h) ⟨fun i j p q h => by simp at h, fun k q h => by simp at h⟩
        generalize H1 = H at hP hS ⊢
        have hP : va_P D vwCl [(h_7, .inr (7, [.ref h_7_0, .ref h_7_1, .ref h_7_2, .int h_7_3, .int h_7_4, .int h_7_5, .int h_7_6, .int h_7_7, .long h_7_8, .long h_7_9, .int h_7_10, .ref h_7_11, .ref h_7_12, .ref h_7_13])), (h_7_1, .inl (ct 1, 5, .inl f_9)), (h_7_2, .inl (ct 1, 5, .inl f_10))] H := hP
        have hD : va_D A [(h_7, .inr (7, [.ref h_7_0, .ref h_7_1, .ref h_7_2, .int h_7_3, .int h_7_4, .int h_7_5, .int h_7_6, .int h_7_7, .long h_7_8, .long h_7_9, .int h_7_10, .ref h_7_11, .ref h_7_12, .ref h_7_13])), (h_7_1, .inl (ct 1, 5, .inl f_9)), (h_7_2, .inl (ct 1, 5, .inl f_10))] := hD
        subst hw_12
        exact W.iret (v := 0) hx hb hr (fun t ht hW => ⟨⟨0, (), rfl, (by simp [sp_field, c_2, c_5, c_8]), trivial⟩, hS.F ht⟩) hS.2.2 dX11_field_67
      · refine lv_aload_n hx hb dX11_field_29 rfl (lv_at hl 0 rfl) ?_
        refine lv_iconst (v := (-1)) hx hb dX11_field_30 (by decide) ?_
        have hPc := hP.sub (ws' := [(h, .inr (11, [.ref h_0, .ref h_1, .ref h_2, .ref h_3, .ref h_4, .ref h_5, .ref h_6, .ref h_7, .ref h_8, .ref h_9, .ref h_10, .ref h_11, .ref h_12, .int h_13, .int h_14]))]) [0] rfl
        have hDc := hD.sub (ws' := [(h, .inr (11, [.ref h_0, .ref h_1, .ref h_2, .ref h_3, .ref h_4, .ref h_5, .ref h_6, .ref h_7, .ref h_8, .ref h_9, .ref h_10, .ref h_11, .ref h_12, .int h_13, .int h_14]))]) [0] (by decide) rfl
        have hFc := va_free (wc := [(h, .inr (11, [.ref h_0, .ref h_1, .ref h_2, .ref h_3, .ref h_4, .ref h_5, .ref h_6, .ref h_7, .ref h_8, .ref h_9, .ref h_10, .ref h_11, .ref h_12, .int h_13, .int h_14]))]) hD hS hA [0] rfl
        refine va_calli (va_runV (As := [.int (-1)]) (rest := []) ⟨hx, hb, hml, hown, hg⟩ (c_refuse l D ct h (-1) h_0 h_1 h_2 h_3 h_4 h_5 h_6 h_7 h_8 h_9 h_10 h_11 h_12 h_13 h_14 s.heap.size ) (cwV 1 hg (gd_V wd_778 wd_780 wd_3 wd_107 wd_781) rfl rfl rfl (by decide +kernel) ⟨Nat.le_of_ble_eq_true rfl, Nat.le_of_ble_eq_true rfl⟩) (Wd_V hPc hKK hDc (va_recv hK hPc (ci := 11) (q0 := 0) rfl rfl)) rfl rfl hl.1 rfl (lv_room (Nat.le_of_ble_eq_true rfl)) dX11_field_31 ⟨Nat.le_of_ble_eq_true rfl, Nat.le_of_ble_eq_true rfl⟩) hS (fun q _ h => hFc q h) hFc (fun r_13 u_13 t_13 H1 locs ht_13 hvm_13 hw_13 hB_13 hz_13 hk_13 hS => ?_)
        obtain ⟨hP, hD⟩ := va_join (wr := [(h_7, .inr (7, [.ref h_7_0, .ref h_7_1, .ref h_7_2, .int h_7_3, .int h_7_4, .int h_7_5, .int h_7_6, .int h_7_7, .long h_7_8, .long h_7_9, .int h_7_10, .ref h_7_11, .ref h_7_12, .ref h_7_13])), (h_7_1, .inl (ct 1, 5, .inl f)), (h_7_2, .inl (ct 1, 5, .inl g)), (h_8, .inr (8, [.ref h_8_0, .ref h_8_1, .ref h_8_2, .ref h_8_3, .ref h_8_4, .ref h_8_5, .ref h_8_6, .ref h_8_7, .int h_8_8, .int h_8_9, .int h_8_10, .int h_8_11, .ref h_8_12, .int h_8_13, .ref h_8_14, .int h_8_15, .int h_8_16]))]) (w1 := []) hP hD [0] [1, 2, 3, 4] rfl rfl (by decide) (by decide) hk_13 hFc (fun k q h => by simp at h) ⟨fun i j p q h => by simp at h, fun k q h => by simp at h⟩
        generalize H1 = H at hP hS ⊢
        have hP : va_P D vwCl [(h_7, .inr (7, [.ref h_7_0, .ref h_7_1, .ref h_7_2, .int h_7_3, .int h_7_4, .int h_7_5, .int h_7_6, .int h_7_7, .long h_7_8, .long h_7_9, .int h_7_10, .ref h_7_11, .ref h_7_12, .ref h_7_13])), (h_7_1, .inl (ct 1, 5, .inl f)), (h_7_2, .inl (ct 1, 5, .inl g)), (h_8, .inr (8, [.ref h_8_0, .ref h_8_1, .ref h_8_2, .ref h_8_3, .ref h_8_4, .ref h_8_5, .ref h_8_6, .ref h_8_7, .int h_8_8, .int h_8_9, .int h_8_10, .int h_8_11, .ref h_8_12, .int h_8_13, .ref h_8_14, .int h_8_15, .int h_8_16]))] H := hP
        have hD : va_D A [(h_7, .inr (7, [.ref h_7_0, .ref h_7_1, .ref h_7_2, .int h_7_3, .int h_7_4, .int h_7_5, .int h_7_6, .int h_7_7, .long h_7_8, .long h_7_9, .int h_7_10, .ref h_7_11, .ref h_7_12, .ref h_7_13])), (h_7_1, .inl (ct 1, 5, .inl f)), (h_7_2, .inl (ct 1, 5, .inl g)), (h_8, .inr (8, [.ref h_8_0, .ref h_8_1, .ref h_8_2, .ref h_8_3, .ref h_8_4, .ref h_8_5, .ref h_8_6, .ref h_8_7, .int h_8_8, .int h_8_9, .int h_8_10, .int h_8_11, .ref h_8_12, .int h_8_13, .ref h_8_14, .int h_8_15, .int h_8_16]))] := hD
        subst hw_13
        exact W.iret (v := (-1)) hx hb hr (fun t ht hW => ⟨⟨(-1), (), rfl, (by simp [sp_field, c_2, c_5, c_8]), trivial⟩, hS.F ht⟩) hS.2.2 dX11_field_34
end
section
def sp_terms (a1 : Int32) (a2 : Int32) (a3 : Int32) (a4 : Int32) (a5 : Int32) (a6 : Int32) : Int32 := if bw a2 1 1000 = 0 then (-1) else if bw a3 1 1000 = 0 then (-1) else if bw a4 1 1000 = 0 then (-1) else if bw a5 1 1000 = 0 then (-1) else if bw a1 0 3 = 0 then (-1) else if bw a6 0 255 = 0 then (-1) else 0
theorem dX11_terms_0 : decode cX11_terms 0 = .ok (.iload_n 2, 1) := by decide +kernel
theorem dX11_terms_1 : decode cX11_terms 1 = .ok (.iconst 1, 1) := by decide +kernel
theorem dX11_terms_2 : decode cX11_terms 2 = .ok (.sipush 1000, 3) := by decide +kernel
theorem dX11_terms_5 : decode cX11_terms 5 = .ok (.invokestatic 150, 3) := by decide +kernel
theorem dX11_terms_8 : decode cX11_terms 8 = .ok (.ifCond .eq 18, 3) := by decide +kernel
theorem dX11_terms_26 : decode cX11_terms 26 = .ok (.iconst 0, 1) := by decide +kernel
theorem dX11_terms_27 : decode cX11_terms 27 = .ok (.istore 7, 2) := by decide +kernel
theorem dX11_terms_29 : decode cX11_terms 29 = .ok (.iload 4, 2) := by decide +kernel
theorem dX11_terms_31 : decode cX11_terms 31 = .ok (.iconst 1, 1) := by decide +kernel
theorem dX11_terms_32 : decode cX11_terms 32 = .ok (.sipush 1000, 3) := by decide +kernel
theorem dX11_terms_35 : decode cX11_terms 35 = .ok (.invokestatic 150, 3) := by decide +kernel
theorem dX11_terms_38 : decode cX11_terms 38 = .ok (.ifCond .eq 19, 3) := by decide +kernel
theorem dX11_terms_57 : decode cX11_terms 57 = .ok (.iconst 0, 1) := by decide +kernel
theorem dX11_terms_58 : decode cX11_terms 58 = .ok (.istore 8, 2) := by decide +kernel
theorem dX11_terms_60 : decode cX11_terms 60 = .ok (.iload_n 1, 1) := by decide +kernel
theorem dX11_terms_61 : decode cX11_terms 61 = .ok (.iconst 0, 1) := by decide +kernel
theorem dX11_terms_62 : decode cX11_terms 62 = .ok (.iconst 3, 1) := by decide +kernel
theorem dX11_terms_63 : decode cX11_terms 63 = .ok (.invokestatic 150, 3) := by decide +kernel
theorem dX11_terms_66 : decode cX11_terms 66 = .ok (.ifCond .eq 25, 3) := by decide +kernel
theorem dX11_terms_91 : decode cX11_terms 91 = .ok (.aload_n 0, 1) := by decide +kernel
theorem dX11_terms_92 : decode cX11_terms 92 = .ok (.iconst (-1), 1) := by decide +kernel
theorem dX11_terms_93 : decode cX11_terms 93 = .ok (.invokevirtual 118, 3) := by decide +kernel
theorem dX11_terms_96 : decode cX11_terms 96 = .ok (.ireturn, 1) := by decide +kernel
theorem dX11_terms_69 : decode cX11_terms 69 = .ok (.iload 7, 2) := by decide +kernel
theorem dX11_terms_71 : decode cX11_terms 71 = .ok (.ifCond .eq 20, 3) := by decide +kernel
theorem dX11_terms_41 : decode cX11_terms 41 = .ok (.iload 5, 2) := by decide +kernel
theorem dX11_terms_43 : decode cX11_terms 43 = .ok (.iconst 1, 1) := by decide +kernel
theorem dX11_terms_44 : decode cX11_terms 44 = .ok (.sipush 1000, 3) := by decide +kernel
theorem dX11_terms_47 : decode cX11_terms 47 = .ok (.invokestatic 150, 3) := by decide +kernel
theorem dX11_terms_50 : decode cX11_terms 50 = .ok (.ifCond .eq 7, 3) := by decide +kernel
theorem dX11_terms_53 : decode cX11_terms 53 = .ok (.iconst 1, 1) := by decide +kernel
theorem dX11_terms_54 : decode cX11_terms 54 = .ok (.goto 4, 3) := by decide +kernel
theorem dX11_terms_11 : decode cX11_terms 11 = .ok (.iload_n 3, 1) := by decide +kernel
theorem dX11_terms_12 : decode cX11_terms 12 = .ok (.iconst 1, 1) := by decide +kernel
theorem dX11_terms_13 : decode cX11_terms 13 = .ok (.sipush 1000, 3) := by decide +kernel
theorem dX11_terms_16 : decode cX11_terms 16 = .ok (.invokestatic 150, 3) := by decide +kernel
theorem dX11_terms_19 : decode cX11_terms 19 = .ok (.ifCond .eq 7, 3) := by decide +kernel
theorem dX11_terms_22 : decode cX11_terms 22 = .ok (.iconst 1, 1) := by decide +kernel
theorem dX11_terms_23 : decode cX11_terms 23 = .ok (.goto 4, 3) := by decide +kernel
theorem dX11_terms_74 : decode cX11_terms 74 = .ok (.iload 8, 2) := by decide +kernel
theorem dX11_terms_76 : decode cX11_terms 76 = .ok (.ifCond .eq 15, 3) := by decide +kernel
theorem dX11_terms_79 : decode cX11_terms 79 = .ok (.iload 6, 2) := by decide +kernel
theorem dX11_terms_81 : decode cX11_terms 81 = .ok (.iconst 0, 1) := by decide +kernel
theorem dX11_terms_82 : decode cX11_terms 82 = .ok (.sipush 255, 3) := by decide +kernel
theorem dX11_terms_85 : decode cX11_terms 85 = .ok (.invokestatic 150, 3) := by decide +kernel
theorem dX11_terms_88 : decode cX11_terms 88 = .ok (.ifCond .ne 9, 3) := by decide +kernel
theorem dX11_terms_97 : decode cX11_terms 97 = .ok (.aload_n 0, 1) := by decide +kernel
theorem dX11_terms_98 : decode cX11_terms 98 = .ok (.getfield 55, 3) := by decide +kernel
theorem dX11_terms_101 : decode cX11_terms 101 = .ok (.iload_n 1, 1) := by decide +kernel
theorem dX11_terms_102 : decode cX11_terms 102 = .ok (.putfield 210, 3) := by decide +kernel
theorem wd_372 : (Cond.fieldLink "VoteRoll" 210 "VoteRoll$Odds" "slack" "I") ∈ gl := gl_at 372 (by decide +kernel) (by decide +kernel)
theorem dX11_terms_105 : decode cX11_terms 105 = .ok (.aload_n 0, 1) := by decide +kernel
theorem dX11_terms_106 : decode cX11_terms 106 = .ok (.getfield 55, 3) := by decide +kernel
theorem dX11_terms_109 : decode cX11_terms 109 = .ok (.iload_n 2, 1) := by decide +kernel
theorem dX11_terms_110 : decode cX11_terms 110 = .ok (.putfield 213, 3) := by decide +kernel
theorem wd_374 : (Cond.fieldLink "VoteRoll" 213 "VoteRoll$Odds" "priorUpper" "I") ∈ gl := gl_at 374 (by decide +kernel) (by decide +kernel)
theorem dX11_terms_113 : decode cX11_terms 113 = .ok (.aload_n 0, 1) := by decide +kernel
theorem dX11_terms_114 : decode cX11_terms 114 = .ok (.getfield 55, 3) := by decide +kernel
theorem dX11_terms_117 : decode cX11_terms 117 = .ok (.iload_n 3, 1) := by decide +kernel
theorem dX11_terms_118 : decode cX11_terms 118 = .ok (.putfield 216, 3) := by decide +kernel
theorem wd_376 : (Cond.fieldLink "VoteRoll" 216 "VoteRoll$Odds" "priorLower" "I") ∈ gl := gl_at 376 (by decide +kernel) (by decide +kernel)
theorem dX11_terms_121 : decode cX11_terms 121 = .ok (.aload_n 0, 1) := by decide +kernel
theorem dX11_terms_122 : decode cX11_terms 122 = .ok (.getfield 55, 3) := by decide +kernel
theorem dX11_terms_125 : decode cX11_terms 125 = .ok (.iload 4, 2) := by decide +kernel
theorem dX11_terms_127 : decode cX11_terms 127 = .ok (.putfield 219, 3) := by decide +kernel
theorem wd_378 : (Cond.fieldLink "VoteRoll" 219 "VoteRoll$Odds" "boundUpper" "I") ∈ gl := gl_at 378 (by decide +kernel) (by decide +kernel)
theorem dX11_terms_130 : decode cX11_terms 130 = .ok (.aload_n 0, 1) := by decide +kernel
theorem dX11_terms_131 : decode cX11_terms 131 = .ok (.getfield 55, 3) := by decide +kernel
theorem dX11_terms_134 : decode cX11_terms 134 = .ok (.iload 5, 2) := by decide +kernel
theorem dX11_terms_136 : decode cX11_terms 136 = .ok (.putfield 222, 3) := by decide +kernel
theorem wd_380 : (Cond.fieldLink "VoteRoll" 222 "VoteRoll$Odds" "boundLower" "I") ∈ gl := gl_at 380 (by decide +kernel) (by decide +kernel)
theorem dX11_terms_139 : decode cX11_terms 139 = .ok (.aload_n 0, 1) := by decide +kernel
theorem dX11_terms_140 : decode cX11_terms 140 = .ok (.getfield 64, 3) := by decide +kernel
theorem dX11_terms_143 : decode cX11_terms 143 = .ok (.iload 6, 2) := by decide +kernel
theorem dX11_terms_145 : decode cX11_terms 145 = .ok (.putfield 225, 3) := by decide +kernel
theorem wd_442 : (Cond.fieldLink "VoteRoll" 225 "VoteRoll$Persons" "once" "I") ∈ gl := gl_at 442 (by decide +kernel) (by decide +kernel)
theorem dX11_terms_148 : decode cX11_terms 148 = .ok (.aload_n 0, 1) := by decide +kernel
theorem dX11_terms_149 : decode cX11_terms 149 = .ok (.getfield 64, 3) := by decide +kernel
theorem dX11_terms_152 : decode cX11_terms 152 = .ok (.invokevirtual 134, 3) := by decide +kernel
theorem dX11_terms_155 : decode cX11_terms 155 = .ok (.aload_n 0, 1) := by decide +kernel
theorem dX11_terms_156 : decode cX11_terms 156 = .ok (.iconst 0, 1) := by decide +kernel
theorem dX11_terms_157 : decode cX11_terms 157 = .ok (.invokevirtual 140, 3) := by decide +kernel
theorem dX11_terms_160 : decode cX11_terms 160 = .ok (.ireturn, 1) := by decide +kernel
set_option maxHeartbeats 4000000 in
set_option maxRecDepth 100000 in
theorem c_terms (l : Launch) (D : va_G) (ct : Nat → ClassId) (h : Nat) (a1 : Int32) (a2 : Int32) (a3 : Int32) (a4 : Int32) (a5 : Int32) (a6 : Int32) (h_0 : Nat) (h_1 : Nat) (h_2 : Nat) (h_3 : Nat) (h_4 : Nat) (h_5 : Nat) (h_6 : Nat) (h_7 : Nat) (h_8 : Nat) (h_9 : Nat) (h_10 : Nat) (h_11 : Nat) (h_12 : Nat) (h_13 : Int32) (h_14 : Int32) (h_7_0 : Nat) (h_7_1 : Nat) (h_7_2 : Nat) (h_7_3 : Int32) (h_7_4 : Int32) (h_7_5 : Int32) (h_7_6 : Int32) (h_7_7 : Int32) (h_7_8 : Int64) (h_7_9 : Int64) (h_7_10 : Int32) (h_7_11 : Nat) (h_7_12 : Nat) (h_7_13 : Nat) (h_8_0 : Nat) (h_8_1 : Nat) (h_8_2 : Nat) (h_8_3 : Nat) (h_8_4 : Nat) (h_8_5 : Nat) (h_8_6 : Nat) (h_8_7 : Nat) (h_8_8 : Int32) (h_8_9 : Int32) (h_8_10 : Int32) (h_8_11 : Int32) (h_8_12 : Nat) (h_8_13 : Int32) (h_8_14 : Nat) (h_8_15 : Int32) (h_8_16 : Int32) (sz : Nat)  : Met l yX11_terms (wk yX11_terms cX11_terms 9 (some .int)) { frames := 1, cells := 0, slots := 0, locals := 22 } (va_Pc [.ref h, .int a1, .int a2, .int a3, .int a4, .int a5, .int a6] (Wd D [(h, .inr (11, [.ref h_0, .ref h_1, .ref h_2, .ref h_3, .ref h_4, .ref h_5, .ref h_6, .ref h_7, .ref h_8, .ref h_9, .ref h_10, .ref h_11, .ref h_12, .int h_13, .int h_14])), (h_7, .inr (7, [.ref h_7_0, .ref h_7_1, .ref h_7_2, .int h_7_3, .int h_7_4, .int h_7_5, .int h_7_6, .int h_7_7, .long h_7_8, .long h_7_9, .int h_7_10, .ref h_7_11, .ref h_7_12, .ref h_7_13])), (h_8, .inr (8, [.ref h_8_0, .ref h_8_1, .ref h_8_2, .ref h_8_3, .ref h_8_4, .ref h_8_5, .ref h_8_6, .ref h_8_7, .int h_8_8, .int h_8_9, .int h_8_10, .int h_8_11, .ref h_8_12, .int h_8_13, .ref h_8_14, .int h_8_15, .int h_8_16]))] ct sz)) (va_Qi (fun (r : Int32) (u : Unit) => r = sp_terms a1 a2 a3 a4 a5 a6) (fun _ _ => True) (va_A [(h, .inr (11, [.ref h_0, .ref h_1, .ref h_2, .ref h_3, .ref h_4, .ref h_5, .ref h_6, .ref h_7, .ref h_8, .ref h_9, .ref h_10, .ref h_11, .ref h_12, .int h_13, .int h_14])), (h_7, .inr (7, [.ref h_7_0, .ref h_7_1, .ref h_7_2, .int h_7_3, .int h_7_4, .int h_7_5, .int h_7_6, .int h_7_7, .long h_7_8, .long h_7_9, .int h_7_10, .ref h_7_11, .ref h_7_12, .ref h_7_13])), (h_8, .inr (8, [.ref h_8_0, .ref h_8_1, .ref h_8_2, .ref h_8_3, .ref h_8_4, .ref h_8_5, .ref h_8_6, .ref h_8_7, .int h_8_8, .int h_8_9, .int h_8_10, .int h_8_11, .ref h_8_12, .int h_8_13, .ref h_8_14, .int h_8_15, .int h_8_16]))] sz)) 0 0 (va_A [(h, .inr (11, [.ref h_0, .ref h_1, .ref h_2, .ref h_3, .ref h_4, .ref h_5, .ref h_6, .ref h_7, .ref h_8, .ref h_9, .ref h_10, .ref h_11, .ref h_12, .int h_13, .int h_14])), (h_7, .inr (7, [.ref h_7_0, .ref h_7_1, .ref h_7_2, .int h_7_3, .int h_7_4, .int h_7_5, .int h_7_6, .int h_7_7, .long h_7_8, .long h_7_9, .int h_7_10, .ref h_7_11, .ref h_7_12, .ref h_7_13])), (h_8, .inr (8, [.ref h_8_0, .ref h_8_1, .ref h_8_2, .ref h_8_3, .ref h_8_4, .ref h_8_5, .ref h_8_6, .ref h_8_7, .int h_8_8, .int h_8_9, .int h_8_10, .int h_8_11, .ref h_8_12, .int h_8_13, .ref h_8_14, .int h_8_15, .int h_8_16]))] sz) := by
  refine Met.ofW (cc := cX11_terms) (maxL := 9) (ret := (some .int)) (by decide) rfl ?_
  intro p e s m args below meth c s₁ B hml hv
  obtain ⟨rfl, hsz, hP, hKK, hD0⟩ := hv
  have hK := hKK.1
  have hx := B.exec
  have hb := B.bytes
  have hr := B.returns
  have hg : ∀ w ∈ gl, w.before _ s = true := fun w h => atoms_spec (ws := wk yX11_terms cX11_terms 9 (some .int)) B.pre w (List.mem_cons_of_mem _ h)
  have hown : s.vm.findClass RX11 = some m.cls := findClass_of_methodNamed B.named
  have hlocks := B.notSynchronized
  subst hsz
  have hD := hD0.self (sz := s.heap.size)
  generalize hAe : va_A [(h, .inr (11, [.ref h_0, .ref h_1, .ref h_2, .ref h_3, .ref h_4, .ref h_5, .ref h_6, .ref h_7, .ref h_8, .ref h_9, .ref h_10, .ref h_11, .ref h_12, .int h_13, .int h_14])), (h_7, .inr (7, [.ref h_7_0, .ref h_7_1, .ref h_7_2, .int h_7_3, .int h_7_4, .int h_7_5, .int h_7_6, .int h_7_7, .long h_7_8, .long h_7_9, .int h_7_10, .ref h_7_11, .ref h_7_12, .ref h_7_13])), (h_8, .inr (8, [.ref h_8_0, .ref h_8_1, .ref h_8_2, .ref h_8_3, .ref h_8_4, .ref h_8_5, .ref h_8_6, .ref h_8_7, .int h_8_8, .int h_8_9, .int h_8_10, .int h_8_11, .ref h_8_12, .int h_8_13, .ref h_8_14, .int h_8_15, .int h_8_16]))] s.heap.size = A at hD ⊢
  have hA : ∀ q : Nat, s.heap.size ≤ q → A q := fun q h => by rw [← hAe]; exact Or.inr h
  have hS : va_S A s.heap s.heap [] := va_S.rf
  have hl := lv_entry ([.ref h, .int a1, .int a2, .int a3, .int a4, .int a5, .int a6]) (n := 9) (Nat.le_of_ble_eq_true rfl)
  rw [lg_entry_eq]
  generalize (lg_sl ([.ref h, .int a1, .int a2, .int a3, .int a4, .int a5, .int a6]) ++ List.replicate (9 - (lg_sl ([.ref h, .int a1, .int a2, .int a3, .int a4, .int a5, .int a6])).length) Slot.unset).toArray = ls at hl ⊢
  have hl : lv_has ls 9 [(0, .ref h), (1, .int a1), (2, .int a2), (3, .int a3), (4, .int a4), (5, .int a5), (6, .int a6)] := hl
  refine lv_iload_n hx hb dX11_terms_0 rfl (lv_at hl 2 rfl) ?_
  refine lv_iconst (v := 1) hx hb dX11_terms_1 (by decide) ?_
  refine lv_sipush (v := 1000) hx hb dX11_terms_2 (by decide) ?_
  have hPc := hP.sub (ws' := []) [] rfl
  refine z_calli (va_runS (As := [.int a2, .int 1, .int 1000]) (rest := []) ⟨hx, hb, hml, hown, hg⟩ (c_within l D ct a2 1 1000 ) (va_cwS 3 hg (gd_S wd_959 wd_917 wd_107 wd_918) rfl rfl rfl (by decide +kernel) ⟨Nat.le_of_ble_eq_true rfl, Nat.le_of_ble_eq_true rfl⟩) (Wr_S hPc hKK) rfl rfl hl.1 rfl (lv_room (Nat.le_of_ble_eq_true rfl)) dX11_terms_5 ⟨Nat.le_of_ble_eq_true rfl, Nat.le_of_ble_eq_true rfl⟩) (fun r_1 hw_1 => ?_)
  subst hw_1
  refine lv_if_eq (tgt := 26) hx hb dX11_terms_8 (by decide) (fun c_2 => ?_) (fun c_2 => ?_)
  · refine lv_iconst (v := 0) hx hb dX11_terms_26 (by decide) ?_
    refine lv_istore (lv' := [(7, .int 0), (0, .ref h), (1, .int a1), (2, .int a2), (3, .int a3), (4, .int a4), (5, .int a5), (6, .int a6)]) hx hb dX11_terms_27 hl (by decide) rfl (fun ls hl => ?_)
    refine lv_iload hx hb dX11_terms_29 (lv_at hl 5 rfl) ?_
    refine lv_iconst (v := 1) hx hb dX11_terms_31 (by decide) ?_
    refine lv_sipush (v := 1000) hx hb dX11_terms_32 (by decide) ?_
    have hPc := hP.sub (ws' := []) [] rfl
    refine z_calli (va_runS (As := [.int a4, .int 1, .int 1000]) (rest := []) ⟨hx, hb, hml, hown, hg⟩ (c_within l D ct a4 1 1000 ) (va_cwS 3 hg (gd_S wd_959 wd_917 wd_107 wd_918) rfl rfl rfl (by decide +kernel) ⟨Nat.le_of_ble_eq_true rfl, Nat.le_of_ble_eq_true rfl⟩) (Wr_S hPc hKK) rfl rfl hl.1 rfl (lv_room (Nat.le_of_ble_eq_true rfl)) dX11_terms_35 ⟨Nat.le_of_ble_eq_true rfl, Nat.le_of_ble_eq_true rfl⟩) (fun r_3 hw_3 => ?_)
    subst hw_3
    refine lv_if_eq (tgt := 57) hx hb dX11_terms_38 (by decide) (fun c_4 => ?_) (fun c_4 => ?_)
    · refine lv_iconst (v := 0) hx hb dX11_terms_57 (by decide) ?_
      refine lv_istore (lv' := [(8, .int 0), (7, .int 0), (0, .ref h), (1, .int a1), (2, .int a2), (3, .int a3), (4, .int a4), (5, .int a5), (6, .int a6)]) hx hb dX11_terms_58 hl (by decide) rfl (fun ls hl => ?_)
      refine lv_iload_n hx hb dX11_terms_60 rfl (lv_at hl 3 rfl) ?_
      refine lv_iconst (v := 0) hx hb dX11_terms_61 (by decide) ?_
      refine lv_iconst (v := 3) hx hb dX11_terms_62 (by decide) ?_
      have hPc := hP.sub (ws' := []) [] rfl
      refine z_calli (va_runS (As := [.int a1, .int 0, .int 3]) (rest := []) ⟨hx, hb, hml, hown, hg⟩ (c_within l D ct a1 0 3 ) (va_cwS 3 hg (gd_S wd_959 wd_917 wd_107 wd_918) rfl rfl rfl (by decide +kernel) ⟨Nat.le_of_ble_eq_true rfl, Nat.le_of_ble_eq_true rfl⟩) (Wr_S hPc hKK) rfl rfl hl.1 rfl (lv_room (Nat.le_of_ble_eq_true rfl)) dX11_terms_63 ⟨Nat.le_of_ble_eq_true rfl, Nat.le_of_ble_eq_true rfl⟩) (fun r_5 hw_5 => ?_)
      subst hw_5
      refine lv_if_eq (tgt := 91) hx hb dX11_terms_66 (by decide) (fun c_6 => ?_) (fun c_6 => ?_)
      · refine lv_aload_n hx hb dX11_terms_91 rfl (lv_at hl 2 rfl) ?_
        refine lv_iconst (v := (-1)) hx hb dX11_terms_92 (by decide) ?_
        have hPc := hP.sub (ws' := [(h, .inr (11, [.ref h_0, .ref h_1, .ref h_2, .ref h_3, .ref h_4, .ref h_5, .ref h_6, .ref h_7, .ref h_8, .ref h_9, .ref h_10, .ref h_11, .ref h_12, .int h_13, .int h_14]))]) [0] rfl
        have hDc := hD.sub (ws' := [(h, .inr (11, [.ref h_0, .ref h_1, .ref h_2, .ref h_3, .ref h_4, .ref h_5, .ref h_6, .ref h_7, .ref h_8, .ref h_9, .ref h_10, .ref h_11, .ref h_12, .int h_13, .int h_14]))]) [0] (by decide) rfl
        have hFc := va_free (wc := [(h, .inr (11, [.ref h_0, .ref h_1, .ref h_2, .ref h_3, .ref h_4, .ref h_5, .ref h_6, .ref h_7, .ref h_8, .ref h_9, .ref h_10, .ref h_11, .ref h_12, .int h_13, .int h_14]))]) hD hS hA [0] rfl
        refine va_calli (va_runV (As := [.int (-1)]) (rest := []) ⟨hx, hb, hml, hown, hg⟩ (c_refuse l D ct h (-1) h_0 h_1 h_2 h_3 h_4 h_5 h_6 h_7 h_8 h_9 h_10 h_11 h_12 h_13 h_14 s.heap.size ) (cwV 1 hg (gd_V wd_778 wd_780 wd_3 wd_107 wd_781) rfl rfl rfl (by decide +kernel) ⟨Nat.le_of_ble_eq_true rfl, Nat.le_of_ble_eq_true rfl⟩) (Wd_V hPc hKK hDc (va_recv hK hPc (ci := 11) (q0 := 0) rfl rfl)) rfl rfl hl.1 rfl (lv_room (Nat.le_of_ble_eq_true rfl)) dX11_terms_93 ⟨Nat.le_of_ble_eq_true rfl, Nat.le_of_ble_eq_true rfl⟩) hS (fun q _ h => hFc q h) hFc (fun r_7 u_7 t_7 H1 locs ht_7 hvm_7 hw_7 hB_7 hz_7 hk_7 hS => ?_)
        obtain ⟨hP, hD⟩ := va_join (wr := [(h_7, .inr (7, [.ref h_7_0, .ref h_7_1, .ref h_7_2, .int h_7_3, .int h_7_4, .int h_7_5, .int h_7_6, .int h_7_7, .long h_7_8, .long h_7_9, .int h_7_10, .ref h_7_11, .ref h_7_12, .ref h_7_13])), (h_8, .inr (8, [.ref h_8_0, .ref h_8_1, .ref h_8_2, .ref h_8_3, .ref h_8_4, .ref h_8_5, .ref h_8_6, .ref h_8_7, .int h_8_8, .int h_8_9, .int h_8_10, .int h_8_11, .ref h_8_12, .int h_8_13, .ref h_8_14, .int h_8_15, .int h_8_16]))]) (w1 := []) hP hD [0] [1, 2] rfl rfl (by decide) (by decide) hk_7 hFc (fun k q h => by simp at h) ⟨fun i j p q h => by simp at h, fun k q h => by simp at h⟩
        generalize H1 = H at hP hS ⊢
        have hP : va_P D vwCl [(h_7, .inr (7, [.ref h_7_0, .ref h_7_1, .ref h_7_2, .int h_7_3, .int h_7_4, .int h_7_5, .int h_7_6, .int h_7_7, .long h_7_8, .long h_7_9, .int h_7_10, .ref h_7_11, .ref h_7_12, .ref h_7_13])), (h_8, .inr (8, [.ref h_8_0, .ref h_8_1, .ref h_8_2, .ref h_8_3, .ref h_8_4, .ref h_8_5, .ref h_8_6, .ref h_8_7, .int h_8_8, .int h_8_9, .int h_8_10, .int h_8_11, .ref h_8_12, .int h_8_13, .ref h_8_14, .int h_8_15, .int h_8_16]))] H := hP
        have hD : va_D A [(h_7, .inr (7, [.ref h_7_0, .ref h_7_1, .ref h_7_2, .int h_7_3, .int h_7_4, .int h_7_5, .int h_7_6, .int h_7_7, .long h_7_8, .long h_7_9, .int h_7_10, .ref h_7_11, .ref h_7_12, .ref h_7_13])), (h_8, .inr (8, [.ref h_8_0, .ref h_8_1, .ref h_8_2, .ref h_8_3, .ref h_8_4, .ref h_8_5, .ref h_8_6, .ref h_8_7, .int h_8_8, .int h_8_9, .int h_8_10, .int h_8_11, .ref h_8_12, .int h_8_13, .ref h_8_14, .int h_8_15, .int h_8_16]))] := hD
        subst hw_7
        exact W.iret (v := (-1)) hx hb hr (fun t ht hW => ⟨⟨(-1), (), rfl, (by simp [sp_terms, c_2, c_4, c_6]), trivial⟩, hS.F ht⟩) hS.2.2 dX11_terms_96
      · refine lv_iload hx hb dX11_terms_69 (lv_at hl 1 rfl) ?_
        refine lv_if_eq (tgt := 91) hx hb dX11_terms_71 (by decide) (fun _ => ?_) (fun h => absurd (by decide) h)
        refine lv_aload_n hx hb dX11_terms_91 rfl (lv_at hl 2 rfl) ?_
        refine lv_iconst (v := (-1)) hx hb dX11_terms_92 (by decide) ?_
        have hPc := hP.sub (ws' := [(h, .inr (11, [.ref h_0, .ref h_1, .ref h_2, .ref h_3, .ref h_4, .ref h_5, .ref h_6, .ref h_7, .ref h_8, .ref h_9, .ref h_10, .ref h_11, .ref h_12, .int h_13, .int h_14]))]) [0] rfl
        have hDc := hD.sub (ws' := [(h, .inr (11, [.ref h_0, .ref h_1, .ref h_2, .ref h_3, .ref h_4, .ref h_5, .ref h_6, .ref h_7, .ref h_8, .ref h_9, .ref h_10, .ref h_11, .ref h_12, .int h_13, .int h_14]))]) [0] (by decide) rfl
        have hFc := va_free (wc := [(h, .inr (11, [.ref h_0, .ref h_1, .ref h_2, .ref h_3, .ref h_4, .ref h_5, .ref h_6, .ref h_7, .ref h_8, .ref h_9, .ref h_10, .ref h_11, .ref h_12, .int h_13, .int h_14]))]) hD hS hA [0] rfl
        refine va_calli (va_runV (As := [.int (-1)]) (rest := []) ⟨hx, hb, hml, hown, hg⟩ (c_refuse l D ct h (-1) h_0 h_1 h_2 h_3 h_4 h_5 h_6 h_7 h_8 h_9 h_10 h_11 h_12 h_13 h_14 s.heap.size ) (cwV 1 hg (gd_V wd_778 wd_780 wd_3 wd_107 wd_781) rfl rfl rfl (by decide +kernel) ⟨Nat.le_of_ble_eq_true rfl, Nat.le_of_ble_eq_true rfl⟩) (Wd_V hPc hKK hDc (va_recv hK hPc (ci := 11) (q0 := 0) rfl rfl)) rfl rfl hl.1 rfl (lv_room (Nat.le_of_ble_eq_true rfl)) dX11_terms_93 ⟨Nat.le_of_ble_eq_true rfl, Nat.le_of_ble_eq_true rfl⟩) hS (fun q _ h => hFc q h) hFc (fun r_9 u_9 t_9 H1 locs ht_9 hvm_9 hw_9 hB_9 hz_9 hk_9 hS => ?_)
        obtain ⟨hP, hD⟩ := va_join (wr := [(h_7, .inr (7, [.ref h_7_0, .ref h_7_1, .ref h_7_2, .int h_7_3, .int h_7_4, .int h_7_5, .int h_7_6, .int h_7_7, .long h_7_8, .long h_7_9, .int h_7_10, .ref h_7_11, .ref h_7_12, .ref h_7_13])), (h_8, .inr (8, [.ref h_8_0, .ref h_8_1, .ref h_8_2, .ref h_8_3, .ref h_8_4, .ref h_8_5, .ref h_8_6, .ref h_8_7, .int h_8_8, .int h_8_9, .int h_8_10, .int h_8_11, .ref h_8_12, .int h_8_13, .ref h_8_14, .int h_8_15, .int h_8_16]))]) (w1 := []) hP hD [0] [1, 2] rfl rfl (by decide) (by decide) hk_9 hFc (fun k q h => by simp at h) ⟨fun i j p q h => by simp at h, fun k q h => by simp at h⟩
        generalize H1 = H at hP hS ⊢
        have hP : va_P D vwCl [(h_7, .inr (7, [.ref h_7_0, .ref h_7_1, .ref h_7_2, .int h_7_3, .int h_7_4, .int h_7_5, .int h_7_6, .int h_7_7, .long h_7_8, .long h_7_9, .int h_7_10, .ref h_7_11, .ref h_7_12, .ref h_7_13])), (h_8, .inr (8, [.ref h_8_0, .ref h_8_1, .ref h_8_2, .ref h_8_3, .ref h_8_4, .ref h_8_5, .ref h_8_6, .ref h_8_7, .int h_8_8, .int h_8_9, .int h_8_10, .int h_8_11, .ref h_8_12, .int h_8_13, .ref h_8_14, .int h_8_15, .int h_8_16]))] H := hP
        have hD : va_D A [(h_7, .inr (7, [.ref h_7_0, .ref h_7_1, .ref h_7_2, .int h_7_3, .int h_7_4, .int h_7_5, .int h_7_6, .int h_7_7, .long h_7_8, .long h_7_9, .int h_7_10, .ref h_7_11, .ref h_7_12, .ref h_7_13])), (h_8, .inr (8, [.ref h_8_0, .ref h_8_1, .ref h_8_2, .ref h_8_3, .ref h_8_4, .ref h_8_5, .ref h_8_6, .ref h_8_7, .int h_8_8, .int h_8_9, .int h_8_10, .int h_8_11, .ref h_8_12, .int h_8_13, .ref h_8_14, .int h_8_15, .int h_8_16]))] := hD
        subst hw_9
        exact W.iret (v := (-1)) hx hb hr (fun t ht hW => ⟨⟨(-1), (), rfl, (by simp [sp_terms, c_2, c_4, c_6]), trivial⟩, hS.F ht⟩) hS.2.2 dX11_terms_96
    · refine lv_iload hx hb dX11_terms_41 (lv_at hl 6 rfl) ?_
      refine lv_iconst (v := 1) hx hb dX11_terms_43 (by decide) ?_
      refine lv_sipush (v := 1000) hx hb dX11_terms_44 (by decide) ?_
      have hPc := hP.sub (ws' := []) [] rfl
      refine z_calli (va_runS (As := [.int a5, .int 1, .int 1000]) (rest := []) ⟨hx, hb, hml, hown, hg⟩ (c_within l D ct a5 1 1000 ) (va_cwS 3 hg (gd_S wd_959 wd_917 wd_107 wd_918) rfl rfl rfl (by decide +kernel) ⟨Nat.le_of_ble_eq_true rfl, Nat.le_of_ble_eq_true rfl⟩) (Wr_S hPc hKK) rfl rfl hl.1 rfl (lv_room (Nat.le_of_ble_eq_true rfl)) dX11_terms_47 ⟨Nat.le_of_ble_eq_true rfl, Nat.le_of_ble_eq_true rfl⟩) (fun r_10 hw_10 => ?_)
      subst hw_10
      refine lv_if_eq (tgt := 57) hx hb dX11_terms_50 (by decide) (fun c_11 => ?_) (fun c_11 => ?_)
      · refine lv_iconst (v := 0) hx hb dX11_terms_57 (by decide) ?_
        refine lv_istore (lv' := [(8, .int 0), (7, .int 0), (0, .ref h), (1, .int a1), (2, .int a2), (3, .int a3), (4, .int a4), (5, .int a5), (6, .int a6)]) hx hb dX11_terms_58 hl (by decide) rfl (fun ls hl => ?_)
        refine lv_iload_n hx hb dX11_terms_60 rfl (lv_at hl 3 rfl) ?_
        refine lv_iconst (v := 0) hx hb dX11_terms_61 (by decide) ?_
        refine lv_iconst (v := 3) hx hb dX11_terms_62 (by decide) ?_
        have hPc := hP.sub (ws' := []) [] rfl
        refine z_calli (va_runS (As := [.int a1, .int 0, .int 3]) (rest := []) ⟨hx, hb, hml, hown, hg⟩ (c_within l D ct a1 0 3 ) (va_cwS 3 hg (gd_S wd_959 wd_917 wd_107 wd_918) rfl rfl rfl (by decide +kernel) ⟨Nat.le_of_ble_eq_true rfl, Nat.le_of_ble_eq_true rfl⟩) (Wr_S hPc hKK) rfl rfl hl.1 rfl (lv_room (Nat.le_of_ble_eq_true rfl)) dX11_terms_63 ⟨Nat.le_of_ble_eq_true rfl, Nat.le_of_ble_eq_true rfl⟩) (fun r_12 hw_12 => ?_)
        subst hw_12
        refine lv_if_eq (tgt := 91) hx hb dX11_terms_66 (by decide) (fun c_13 => ?_) (fun c_13 => ?_)
        · refine lv_aload_n hx hb dX11_terms_91 rfl (lv_at hl 2 rfl) ?_
          refine lv_iconst (v := (-1)) hx hb dX11_terms_92 (by decide) ?_
          have hPc := hP.sub (ws' := [(h, .inr (11, [.ref h_0, .ref h_1, .ref h_2, .ref h_3, .ref h_4, .ref h_5, .ref h_6, .ref h_7, .ref h_8, .ref h_9, .ref h_10, .ref h_11, .ref h_12, .int h_13, .int h_14]))]) [0] rfl
          have hDc := hD.sub (ws' := [(h, .inr (11, [.ref h_0, .ref h_1, .ref h_2, .ref h_3, .ref h_4, .ref h_5, .ref h_6, .ref h_7, .ref h_8, .ref h_9, .ref h_10, .ref h_11, .ref h_12, .int h_13, .int h_14]))]) [0] (by decide) rfl
          have hFc := va_free (wc := [(h, .inr (11, [.ref h_0, .ref h_1, .ref h_2, .ref h_3, .ref h_4, .ref h_5, .ref h_6, .ref h_7, .ref h_8, .ref h_9, .ref h_10, .ref h_11, .ref h_12, .int h_13, .int h_14]))]) hD hS hA [0] rfl
          refine va_calli (va_runV (As := [.int (-1)]) (rest := []) ⟨hx, hb, hml, hown, hg⟩ (c_refuse l D ct h (-1) h_0 h_1 h_2 h_3 h_4 h_5 h_6 h_7 h_8 h_9 h_10 h_11 h_12 h_13 h_14 s.heap.size ) (cwV 1 hg (gd_V wd_778 wd_780 wd_3 wd_107 wd_781) rfl rfl rfl (by decide +kernel) ⟨Nat.le_of_ble_eq_true rfl, Nat.le_of_ble_eq_true rfl⟩) (Wd_V hPc hKK hDc (va_recv hK hPc (ci := 11) (q0 := 0) rfl rfl)) rfl rfl hl.1 rfl (lv_room (Nat.le_of_ble_eq_true rfl)) dX11_terms_93 ⟨Nat.le_of_ble_eq_true rfl, Nat.le_of_ble_eq_true rfl⟩) hS (fun q _ h => hFc q h) hFc (fun r_14 u_14 t_14 H1 locs ht_14 hvm_14 hw_14 hB_14 hz_14 hk_14 hS => ?_)
          obtain ⟨hP, hD⟩ := va_join (wr := [(h_7, .inr (7, [.ref h_7_0, .ref h_7_1, .ref h_7_2, .int h_7_3, .int h_7_4, .int h_7_5, .int h_7_6, .int h_7_7, .long h_7_8, .long h_7_9, .int h_7_10, .ref h_7_11, .ref h_7_12, .ref h_7_13])), (h_8, .inr (8, [.ref h_8_0, .ref h_8_1, .ref h_8_2, .ref h_8_3, .ref h_8_4, .ref h_8_5, .ref h_8_6, .ref h_8_7, .int h_8_8, .int h_8_9, .int h_8_10, .int h_8_11, .ref h_8_12, .int h_8_13, .ref h_8_14, .int h_8_15, .int h_8_16]))]) (w1 := []) hP hD [0] [1, 2] rfl rfl (by decide) (by decide) hk_14 hFc (fun k q h => by simp at h) ⟨fun i j p q h => by simp at h, fun k q h => by simp at h⟩
          generalize H1 = H at hP hS ⊢
          have hP : va_P D vwCl [(h_7, .inr (7, [.ref h_7_0, .ref h_7_1, .ref h_7_2, .int h_7_3, .int h_7_4, .int h_7_5, .int h_7_6, .int h_7_7, .long h_7_8, .long h_7_9, .int h_7_10, .ref h_7_11, .ref h_7_12, .ref h_7_13])), (h_8, .inr (8, [.ref h_8_0, .ref h_8_1, .ref h_8_2, .ref h_8_3, .ref h_8_4, .ref h_8_5, .ref h_8_6, .ref h_8_7, .int h_8_8, .int h_8_9, .int h_8_10, .int h_8_11, .ref h_8_12, .int h_8_13, .ref h_8_14, .int h_8_15, .int h_8_16]))] H := hP
          have hD : va_D A [(h_7, .inr (7, [.ref h_7_0, .ref h_7_1, .ref h_7_2, .int h_7_3, .int h_7_4, .int h_7_5, .int h_7_6, .int h_7_7, .long h_7_8, .long h_7_9, .int h_7_10, .ref h_7_11, .ref h_7_12, .ref h_7_13])), (h_8, .inr (8, [.ref h_8_0, .ref h_8_1, .ref h_8_2, .ref h_8_3, .ref h_8_4, .ref h_8_5, .ref h_8_6, .ref h_8_7, .int h_8_8, .int h_8_9, .int h_8_10, .int h_8_11, .ref h_8_12, .int h_8_13, .ref h_8_14, .int h_8_15, .int h_8_16]))] := hD
          subst hw_14
          exact W.iret (v := (-1)) hx hb hr (fun t ht hW => ⟨⟨(-1), (), rfl, (by simp [sp_terms, c_2, c_4, c_11, c_13]), trivial⟩, hS.F ht⟩) hS.2.2 dX11_terms_96
        · refine lv_iload hx hb dX11_terms_69 (lv_at hl 1 rfl) ?_
          refine lv_if_eq (tgt := 91) hx hb dX11_terms_71 (by decide) (fun _ => ?_) (fun h => absurd (by decide) h)
          refine lv_aload_n hx hb dX11_terms_91 rfl (lv_at hl 2 rfl) ?_
          refine lv_iconst (v := (-1)) hx hb dX11_terms_92 (by decide) ?_
          have hPc := hP.sub (ws' := [(h, .inr (11, [.ref h_0, .ref h_1, .ref h_2, .ref h_3, .ref h_4, .ref h_5, .ref h_6, .ref h_7, .ref h_8, .ref h_9, .ref h_10, .ref h_11, .ref h_12, .int h_13, .int h_14]))]) [0] rfl
          have hDc := hD.sub (ws' := [(h, .inr (11, [.ref h_0, .ref h_1, .ref h_2, .ref h_3, .ref h_4, .ref h_5, .ref h_6, .ref h_7, .ref h_8, .ref h_9, .ref h_10, .ref h_11, .ref h_12, .int h_13, .int h_14]))]) [0] (by decide) rfl
          have hFc := va_free (wc := [(h, .inr (11, [.ref h_0, .ref h_1, .ref h_2, .ref h_3, .ref h_4, .ref h_5, .ref h_6, .ref h_7, .ref h_8, .ref h_9, .ref h_10, .ref h_11, .ref h_12, .int h_13, .int h_14]))]) hD hS hA [0] rfl
          refine va_calli (va_runV (As := [.int (-1)]) (rest := []) ⟨hx, hb, hml, hown, hg⟩ (c_refuse l D ct h (-1) h_0 h_1 h_2 h_3 h_4 h_5 h_6 h_7 h_8 h_9 h_10 h_11 h_12 h_13 h_14 s.heap.size ) (cwV 1 hg (gd_V wd_778 wd_780 wd_3 wd_107 wd_781) rfl rfl rfl (by decide +kernel) ⟨Nat.le_of_ble_eq_true rfl, Nat.le_of_ble_eq_true rfl⟩) (Wd_V hPc hKK hDc (va_recv hK hPc (ci := 11) (q0 := 0) rfl rfl)) rfl rfl hl.1 rfl (lv_room (Nat.le_of_ble_eq_true rfl)) dX11_terms_93 ⟨Nat.le_of_ble_eq_true rfl, Nat.le_of_ble_eq_true rfl⟩) hS (fun q _ h => hFc q h) hFc (fun r_16 u_16 t_16 H1 locs ht_16 hvm_16 hw_16 hB_16 hz_16 hk_16 hS => ?_)
          obtain ⟨hP, hD⟩ := va_join (wr := [(h_7, .inr (7, [.ref h_7_0, .ref h_7_1, .ref h_7_2, .int h_7_3, .int h_7_4, .int h_7_5, .int h_7_6, .int h_7_7, .long h_7_8, .long h_7_9, .int h_7_10, .ref h_7_11, .ref h_7_12, .ref h_7_13])), (h_8, .inr (8, [.ref h_8_0, .ref h_8_1, .ref h_8_2, .ref h_8_3, .ref h_8_4, .ref h_8_5, .ref h_8_6, .ref h_8_7, .int h_8_8, .int h_8_9, .int h_8_10, .int h_8_11, .ref h_8_12, .int h_8_13, .ref h_8_14, .int h_8_15, .int h_8_16]))]) (w1 := []) hP hD [0] [1, 2] rfl rfl (by decide) (by decide) hk_16 hFc (fun k q h => by simp at h) ⟨fun i j p q h => by simp at h, fun k q h => by simp at h⟩
          generalize H1 = H at hP hS ⊢
          have hP : va_P D vwCl [(h_7, .inr (7, [.ref h_7_0, .ref h_7_1, .ref h_7_2, .int h_7_3, .int h_7_4, .int h_7_5, .int h_7_6, .int h_7_7, .long h_7_8, .long h_7_9, .int h_7_10, .ref h_7_11, .ref h_7_12, .ref h_7_13])), (h_8, .inr (8, [.ref h_8_0, .ref h_8_1, .ref h_8_2, .ref h_8_3, .ref h_8_4, .ref h_8_5, .ref h_8_6, .ref h_8_7, .int h_8_8, .int h_8_9, .int h_8_10, .int h_8_11, .ref h_8_12, .int h_8_13, .ref h_8_14, .int h_8_15, .int h_8_16]))] H := hP
          have hD : va_D A [(h_7, .inr (7, [.ref h_7_0, .ref h_7_1, .ref h_7_2, .int h_7_3, .int h_7_4, .int h_7_5, .int h_7_6, .int h_7_7, .long h_7_8, .long h_7_9, .int h_7_10, .ref h_7_11, .ref h_7_12, .ref h_7_13])), (h_8, .inr (8, [.ref h_8_0, .ref h_8_1, .ref h_8_2, .ref h_8_3, .ref h_8_4, .ref h_8_5, .ref h_8_6, .ref h_8_7, .int h_8_8, .int h_8_9, .int h_8_10, .int h_8_11, .ref h_8_12, .int h_8_13, .ref h_8_14, .int h_8_15, .int h_8_16]))] := hD
          subst hw_16
          exact W.iret (v := (-1)) hx hb hr (fun t ht hW => ⟨⟨(-1), (), rfl, (by simp [sp_terms, c_2, c_4, c_11, c_13]), trivial⟩, hS.F ht⟩) hS.2.2 dX11_terms_96
      · refine lv_iconst (v := 1) hx hb dX11_terms_53 (by decide) ?_
        refine lv_goto (tgt := 58) hx hb dX11_terms_54 (by decide) ?_
        refine lv_istore (lv' := [(8, .int 1), (7, .int 0), (0, .ref h), (1, .int a1), (2, .int a2), (3, .int a3), (4, .int a4), (5, .int a5), (6, .int a6)]) hx hb dX11_terms_58 hl (by decide) rfl (fun ls hl => ?_)
        refine lv_iload_n hx hb dX11_terms_60 rfl (lv_at hl 3 rfl) ?_
        refine lv_iconst (v := 0) hx hb dX11_terms_61 (by decide) ?_
        refine lv_iconst (v := 3) hx hb dX11_terms_62 (by decide) ?_
        have hPc := hP.sub (ws' := []) [] rfl
        refine z_calli (va_runS (As := [.int a1, .int 0, .int 3]) (rest := []) ⟨hx, hb, hml, hown, hg⟩ (c_within l D ct a1 0 3 ) (va_cwS 3 hg (gd_S wd_959 wd_917 wd_107 wd_918) rfl rfl rfl (by decide +kernel) ⟨Nat.le_of_ble_eq_true rfl, Nat.le_of_ble_eq_true rfl⟩) (Wr_S hPc hKK) rfl rfl hl.1 rfl (lv_room (Nat.le_of_ble_eq_true rfl)) dX11_terms_63 ⟨Nat.le_of_ble_eq_true rfl, Nat.le_of_ble_eq_true rfl⟩) (fun r_17 hw_17 => ?_)
        subst hw_17
        refine lv_if_eq (tgt := 91) hx hb dX11_terms_66 (by decide) (fun c_18 => ?_) (fun c_18 => ?_)
        · refine lv_aload_n hx hb dX11_terms_91 rfl (lv_at hl 2 rfl) ?_
          refine lv_iconst (v := (-1)) hx hb dX11_terms_92 (by decide) ?_
          have hPc := hP.sub (ws' := [(h, .inr (11, [.ref h_0, .ref h_1, .ref h_2, .ref h_3, .ref h_4, .ref h_5, .ref h_6, .ref h_7, .ref h_8, .ref h_9, .ref h_10, .ref h_11, .ref h_12, .int h_13, .int h_14]))]) [0] rfl
          have hDc := hD.sub (ws' := [(h, .inr (11, [.ref h_0, .ref h_1, .ref h_2, .ref h_3, .ref h_4, .ref h_5, .ref h_6, .ref h_7, .ref h_8, .ref h_9, .ref h_10, .ref h_11, .ref h_12, .int h_13, .int h_14]))]) [0] (by decide) rfl
          have hFc := va_free (wc := [(h, .inr (11, [.ref h_0, .ref h_1, .ref h_2, .ref h_3, .ref h_4, .ref h_5, .ref h_6, .ref h_7, .ref h_8, .ref h_9, .ref h_10, .ref h_11, .ref h_12, .int h_13, .int h_14]))]) hD hS hA [0] rfl
          refine va_calli (va_runV (As := [.int (-1)]) (rest := []) ⟨hx, hb, hml, hown, hg⟩ (c_refuse l D ct h (-1) h_0 h_1 h_2 h_3 h_4 h_5 h_6 h_7 h_8 h_9 h_10 h_11 h_12 h_13 h_14 s.heap.size ) (cwV 1 hg (gd_V wd_778 wd_780 wd_3 wd_107 wd_781) rfl rfl rfl (by decide +kernel) ⟨Nat.le_of_ble_eq_true rfl, Nat.le_of_ble_eq_true rfl⟩) (Wd_V hPc hKK hDc (va_recv hK hPc (ci := 11) (q0 := 0) rfl rfl)) rfl rfl hl.1 rfl (lv_room (Nat.le_of_ble_eq_true rfl)) dX11_terms_93 ⟨Nat.le_of_ble_eq_true rfl, Nat.le_of_ble_eq_true rfl⟩) hS (fun q _ h => hFc q h) hFc (fun r_19 u_19 t_19 H1 locs ht_19 hvm_19 hw_19 hB_19 hz_19 hk_19 hS => ?_)
          obtain ⟨hP, hD⟩ := va_join (wr := [(h_7, .inr (7, [.ref h_7_0, .ref h_7_1, .ref h_7_2, .int h_7_3, .int h_7_4, .int h_7_5, .int h_7_6, .int h_7_7, .long h_7_8, .long h_7_9, .int h_7_10, .ref h_7_11, .ref h_7_12, .ref h_7_13])), (h_8, .inr (8, [.ref h_8_0, .ref h_8_1, .ref h_8_2, .ref h_8_3, .ref h_8_4, .ref h_8_5, .ref h_8_6, .ref h_8_7, .int h_8_8, .int h_8_9, .int h_8_10, .int h_8_11, .ref h_8_12, .int h_8_13, .ref h_8_14, .int h_8_15, .int h_8_16]))]) (w1 := []) hP hD [0] [1, 2] rfl rfl (by decide) (by decide) hk_19 hFc (fun k q h => by simp at h) ⟨fun i j p q h => by simp at h, fun k q h => by simp at h⟩
          generalize H1 = H at hP hS ⊢
          have hP : va_P D vwCl [(h_7, .inr (7, [.ref h_7_0, .ref h_7_1, .ref h_7_2, .int h_7_3, .int h_7_4, .int h_7_5, .int h_7_6, .int h_7_7, .long h_7_8, .long h_7_9, .int h_7_10, .ref h_7_11, .ref h_7_12, .ref h_7_13])), (h_8, .inr (8, [.ref h_8_0, .ref h_8_1, .ref h_8_2, .ref h_8_3, .ref h_8_4, .ref h_8_5, .ref h_8_6, .ref h_8_7, .int h_8_8, .int h_8_9, .int h_8_10, .int h_8_11, .ref h_8_12, .int h_8_13, .ref h_8_14, .int h_8_15, .int h_8_16]))] H := hP
          have hD : va_D A [(h_7, .inr (7, [.ref h_7_0, .ref h_7_1, .ref h_7_2, .int h_7_3, .int h_7_4, .int h_7_5, .int h_7_6, .int h_7_7, .long h_7_8, .long h_7_9, .int h_7_10, .ref h_7_11, .ref h_7_12, .ref h_7_13])), (h_8, .inr (8, [.ref h_8_0, .ref h_8_1, .ref h_8_2, .ref h_8_3, .ref h_8_4, .ref h_8_5, .ref h_8_6, .ref h_8_7, .int h_8_8, .int h_8_9, .int h_8_10, .int h_8_11, .ref h_8_12, .int h_8_13, .ref h_8_14, .int h_8_15, .int h_8_16]))] := hD
          subst hw_19
          exact W.iret (v := (-1)) hx hb hr (fun t ht hW => ⟨⟨(-1), (), rfl, (by simp [sp_terms, c_2, c_4, c_11, c_18]), trivial⟩, hS.F ht⟩) hS.2.2 dX11_terms_96
        · refine lv_iload hx hb dX11_terms_69 (lv_at hl 1 rfl) ?_
          refine lv_if_eq (tgt := 91) hx hb dX11_terms_71 (by decide) (fun _ => ?_) (fun h => absurd (by decide) h)
          refine lv_aload_n hx hb dX11_terms_91 rfl (lv_at hl 2 rfl) ?_
          refine lv_iconst (v := (-1)) hx hb dX11_terms_92 (by decide) ?_
          have hPc := hP.sub (ws' := [(h, .inr (11, [.ref h_0, .ref h_1, .ref h_2, .ref h_3, .ref h_4, .ref h_5, .ref h_6, .ref h_7, .ref h_8, .ref h_9, .ref h_10, .ref h_11, .ref h_12, .int h_13, .int h_14]))]) [0] rfl
          have hDc := hD.sub (ws' := [(h, .inr (11, [.ref h_0, .ref h_1, .ref h_2, .ref h_3, .ref h_4, .ref h_5, .ref h_6, .ref h_7, .ref h_8, .ref h_9, .ref h_10, .ref h_11, .ref h_12, .int h_13, .int h_14]))]) [0] (by decide) rfl
          have hFc := va_free (wc := [(h, .inr (11, [.ref h_0, .ref h_1, .ref h_2, .ref h_3, .ref h_4, .ref h_5, .ref h_6, .ref h_7, .ref h_8, .ref h_9, .ref h_10, .ref h_11, .ref h_12, .int h_13, .int h_14]))]) hD hS hA [0] rfl
          refine va_calli (va_runV (As := [.int (-1)]) (rest := []) ⟨hx, hb, hml, hown, hg⟩ (c_refuse l D ct h (-1) h_0 h_1 h_2 h_3 h_4 h_5 h_6 h_7 h_8 h_9 h_10 h_11 h_12 h_13 h_14 s.heap.size ) (cwV 1 hg (gd_V wd_778 wd_780 wd_3 wd_107 wd_781) rfl rfl rfl (by decide +kernel) ⟨Nat.le_of_ble_eq_true rfl, Nat.le_of_ble_eq_true rfl⟩) (Wd_V hPc hKK hDc (va_recv hK hPc (ci := 11) (q0 := 0) rfl rfl)) rfl rfl hl.1 rfl (lv_room (Nat.le_of_ble_eq_true rfl)) dX11_terms_93 ⟨Nat.le_of_ble_eq_true rfl, Nat.le_of_ble_eq_true rfl⟩) hS (fun q _ h => hFc q h) hFc (fun r_21 u_21 t_21 H1 locs ht_21 hvm_21 hw_21 hB_21 hz_21 hk_21 hS => ?_)
          obtain ⟨hP, hD⟩ := va_join (wr := [(h_7, .inr (7, [.ref h_7_0, .ref h_7_1, .ref h_7_2, .int h_7_3, .int h_7_4, .int h_7_5, .int h_7_6, .int h_7_7, .long h_7_8, .long h_7_9, .int h_7_10, .ref h_7_11, .ref h_7_12, .ref h_7_13])), (h_8, .inr (8, [.ref h_8_0, .ref h_8_1, .ref h_8_2, .ref h_8_3, .ref h_8_4, .ref h_8_5, .ref h_8_6, .ref h_8_7, .int h_8_8, .int h_8_9, .int h_8_10, .int h_8_11, .ref h_8_12, .int h_8_13, .ref h_8_14, .int h_8_15, .int h_8_16]))]) (w1 := []) hP hD [0] [1, 2] rfl rfl (by decide) (by decide) hk_21 hFc (fun k q h => by simp at h) ⟨fun i j p q h => by simp at h, fun k q h => by simp at h⟩
          generalize H1 = H at hP hS ⊢
          have hP : va_P D vwCl [(h_7, .inr (7, [.ref h_7_0, .ref h_7_1, .ref h_7_2, .int h_7_3, .int h_7_4, .int h_7_5, .int h_7_6, .int h_7_7, .long h_7_8, .long h_7_9, .int h_7_10, .ref h_7_11, .ref h_7_12, .ref h_7_13])), (h_8, .inr (8, [.ref h_8_0, .ref h_8_1, .ref h_8_2, .ref h_8_3, .ref h_8_4, .ref h_8_5, .ref h_8_6, .ref h_8_7, .int h_8_8, .int h_8_9, .int h_8_10, .int h_8_11, .ref h_8_12, .int h_8_13, .ref h_8_14, .int h_8_15, .int h_8_16]))] H := hP
          have hD : va_D A [(h_7, .inr (7, [.ref h_7_0, .ref h_7_1, .ref h_7_2, .int h_7_3, .int h_7_4, .int h_7_5, .int h_7_6, .int h_7_7, .long h_7_8, .long h_7_9, .int h_7_10, .ref h_7_11, .ref h_7_12, .ref h_7_13])), (h_8, .inr (8, [.ref h_8_0, .ref h_8_1, .ref h_8_2, .ref h_8_3, .ref h_8_4, .ref h_8_5, .ref h_8_6, .ref h_8_7, .int h_8_8, .int h_8_9, .int h_8_10, .int h_8_11, .ref h_8_12, .int h_8_13, .ref h_8_14, .int h_8_15, .int h_8_16]))] := hD
          subst hw_21
          exact W.iret (v := (-1)) hx hb hr (fun t ht hW => ⟨⟨(-1), (), rfl, (by simp [sp_terms, c_2, c_4, c_11, c_18]), trivial⟩, hS.F ht⟩) hS.2.2 dX11_terms_96
  · refine lv_iload_n hx hb dX11_terms_11 rfl (lv_at hl 3 rfl) ?_
    refine lv_iconst (v := 1) hx hb dX11_terms_12 (by decide) ?_
    refine lv_sipush (v := 1000) hx hb dX11_terms_13 (by decide) ?_
    have hPc := hP.sub (ws' := []) [] rfl
    refine z_calli (va_runS (As := [.int a3, .int 1, .int 1000]) (rest := []) ⟨hx, hb, hml, hown, hg⟩ (c_within l D ct a3 1 1000 ) (va_cwS 3 hg (gd_S wd_959 wd_917 wd_107 wd_918) rfl rfl rfl (by decide +kernel) ⟨Nat.le_of_ble_eq_true rfl, Nat.le_of_ble_eq_true rfl⟩) (Wr_S hPc hKK) rfl rfl hl.1 rfl (lv_room (Nat.le_of_ble_eq_true rfl)) dX11_terms_16 ⟨Nat.le_of_ble_eq_true rfl, Nat.le_of_ble_eq_true rfl⟩) (fun r_22 hw_22 => ?_)
    subst hw_22
    refine lv_if_eq (tgt := 26) hx hb dX11_terms_19 (by decide) (fun c_23 => ?_) (fun c_23 => ?_)
    · refine lv_iconst (v := 0) hx hb dX11_terms_26 (by decide) ?_
      refine lv_istore (lv' := [(7, .int 0), (0, .ref h), (1, .int a1), (2, .int a2), (3, .int a3), (4, .int a4), (5, .int a5), (6, .int a6)]) hx hb dX11_terms_27 hl (by decide) rfl (fun ls hl => ?_)
      refine lv_iload hx hb dX11_terms_29 (lv_at hl 5 rfl) ?_
      refine lv_iconst (v := 1) hx hb dX11_terms_31 (by decide) ?_
      refine lv_sipush (v := 1000) hx hb dX11_terms_32 (by decide) ?_
      have hPc := hP.sub (ws' := []) [] rfl
      refine z_calli (va_runS (As := [.int a4, .int 1, .int 1000]) (rest := []) ⟨hx, hb, hml, hown, hg⟩ (c_within l D ct a4 1 1000 ) (va_cwS 3 hg (gd_S wd_959 wd_917 wd_107 wd_918) rfl rfl rfl (by decide +kernel) ⟨Nat.le_of_ble_eq_true rfl, Nat.le_of_ble_eq_true rfl⟩) (Wr_S hPc hKK) rfl rfl hl.1 rfl (lv_room (Nat.le_of_ble_eq_true rfl)) dX11_terms_35 ⟨Nat.le_of_ble_eq_true rfl, Nat.le_of_ble_eq_true rfl⟩) (fun r_24 hw_24 => ?_)
      subst hw_24
      refine lv_if_eq (tgt := 57) hx hb dX11_terms_38 (by decide) (fun c_25 => ?_) (fun c_25 => ?_)
      · refine lv_iconst (v := 0) hx hb dX11_terms_57 (by decide) ?_
        refine lv_istore (lv' := [(8, .int 0), (7, .int 0), (0, .ref h), (1, .int a1), (2, .int a2), (3, .int a3), (4, .int a4), (5, .int a5), (6, .int a6)]) hx hb dX11_terms_58 hl (by decide) rfl (fun ls hl => ?_)
        refine lv_iload_n hx hb dX11_terms_60 rfl (lv_at hl 3 rfl) ?_
        refine lv_iconst (v := 0) hx hb dX11_terms_61 (by decide) ?_
        refine lv_iconst (v := 3) hx hb dX11_terms_62 (by decide) ?_
        have hPc := hP.sub (ws' := []) [] rfl
        refine z_calli (va_runS (As := [.int a1, .int 0, .int 3]) (rest := []) ⟨hx, hb, hml, hown, hg⟩ (c_within l D ct a1 0 3 ) (va_cwS 3 hg (gd_S wd_959 wd_917 wd_107 wd_918) rfl rfl rfl (by decide +kernel) ⟨Nat.le_of_ble_eq_true rfl, Nat.le_of_ble_eq_true rfl⟩) (Wr_S hPc hKK) rfl rfl hl.1 rfl (lv_room (Nat.le_of_ble_eq_true rfl)) dX11_terms_63 ⟨Nat.le_of_ble_eq_true rfl, Nat.le_of_ble_eq_true rfl⟩) (fun r_26 hw_26 => ?_)
        subst hw_26
        refine lv_if_eq (tgt := 91) hx hb dX11_terms_66 (by decide) (fun c_27 => ?_) (fun c_27 => ?_)
        · refine lv_aload_n hx hb dX11_terms_91 rfl (lv_at hl 2 rfl) ?_
          refine lv_iconst (v := (-1)) hx hb dX11_terms_92 (by decide) ?_
          have hPc := hP.sub (ws' := [(h, .inr (11, [.ref h_0, .ref h_1, .ref h_2, .ref h_3, .ref h_4, .ref h_5, .ref h_6, .ref h_7, .ref h_8, .ref h_9, .ref h_10, .ref h_11, .ref h_12, .int h_13, .int h_14]))]) [0] rfl
          have hDc := hD.sub (ws' := [(h, .inr (11, [.ref h_0, .ref h_1, .ref h_2, .ref h_3, .ref h_4, .ref h_5, .ref h_6, .ref h_7, .ref h_8, .ref h_9, .ref h_10, .ref h_11, .ref h_12, .int h_13, .int h_14]))]) [0] (by decide) rfl
          have hFc := va_free (wc := [(h, .inr (11, [.ref h_0, .ref h_1, .ref h_2, .ref h_3, .ref h_4, .ref h_5, .ref h_6, .ref h_7, .ref h_8, .ref h_9, .ref h_10, .ref h_11, .ref h_12, .int h_13, .int h_14]))]) hD hS hA [0] rfl
          refine va_calli (va_runV (As := [.int (-1)]) (rest := []) ⟨hx, hb, hml, hown, hg⟩ (c_refuse l D ct h (-1) h_0 h_1 h_2 h_3 h_4 h_5 h_6 h_7 h_8 h_9 h_10 h_11 h_12 h_13 h_14 s.heap.size ) (cwV 1 hg (gd_V wd_778 wd_780 wd_3 wd_107 wd_781) rfl rfl rfl (by decide +kernel) ⟨Nat.le_of_ble_eq_true rfl, Nat.le_of_ble_eq_true rfl⟩) (Wd_V hPc hKK hDc (va_recv hK hPc (ci := 11) (q0 := 0) rfl rfl)) rfl rfl hl.1 rfl (lv_room (Nat.le_of_ble_eq_true rfl)) dX11_terms_93 ⟨Nat.le_of_ble_eq_true rfl, Nat.le_of_ble_eq_true rfl⟩) hS (fun q _ h => hFc q h) hFc (fun r_28 u_28 t_28 H1 locs ht_28 hvm_28 hw_28 hB_28 hz_28 hk_28 hS => ?_)
          obtain ⟨hP, hD⟩ := va_join (wr := [(h_7, .inr (7, [.ref h_7_0, .ref h_7_1, .ref h_7_2, .int h_7_3, .int h_7_4, .int h_7_5, .int h_7_6, .int h_7_7, .long h_7_8, .long h_7_9, .int h_7_10, .ref h_7_11, .ref h_7_12, .ref h_7_13])), (h_8, .inr (8, [.ref h_8_0, .ref h_8_1, .ref h_8_2, .ref h_8_3, .ref h_8_4, .ref h_8_5, .ref h_8_6, .ref h_8_7, .int h_8_8, .int h_8_9, .int h_8_10, .int h_8_11, .ref h_8_12, .int h_8_13, .ref h_8_14, .int h_8_15, .int h_8_16]))]) (w1 := []) hP hD [0] [1, 2] rfl rfl (by decide) (by decide) hk_28 hFc (fun k q h => by simp at h) ⟨fun i j p q h => by simp at h, fun k q h => by simp at h⟩
          generalize H1 = H at hP hS ⊢
          have hP : va_P D vwCl [(h_7, .inr (7, [.ref h_7_0, .ref h_7_1, .ref h_7_2, .int h_7_3, .int h_7_4, .int h_7_5, .int h_7_6, .int h_7_7, .long h_7_8, .long h_7_9, .int h_7_10, .ref h_7_11, .ref h_7_12, .ref h_7_13])), (h_8, .inr (8, [.ref h_8_0, .ref h_8_1, .ref h_8_2, .ref h_8_3, .ref h_8_4, .ref h_8_5, .ref h_8_6, .ref h_8_7, .int h_8_8, .int h_8_9, .int h_8_10, .int h_8_11, .ref h_8_12, .int h_8_13, .ref h_8_14, .int h_8_15, .int h_8_16]))] H := hP
          have hD : va_D A [(h_7, .inr (7, [.ref h_7_0, .ref h_7_1, .ref h_7_2, .int h_7_3, .int h_7_4, .int h_7_5, .int h_7_6, .int h_7_7, .long h_7_8, .long h_7_9, .int h_7_10, .ref h_7_11, .ref h_7_12, .ref h_7_13])), (h_8, .inr (8, [.ref h_8_0, .ref h_8_1, .ref h_8_2, .ref h_8_3, .ref h_8_4, .ref h_8_5, .ref h_8_6, .ref h_8_7, .int h_8_8, .int h_8_9, .int h_8_10, .int h_8_11, .ref h_8_12, .int h_8_13, .ref h_8_14, .int h_8_15, .int h_8_16]))] := hD
          subst hw_28
          exact W.iret (v := (-1)) hx hb hr (fun t ht hW => ⟨⟨(-1), (), rfl, (by simp [sp_terms, c_2, c_23, c_25, c_27]), trivial⟩, hS.F ht⟩) hS.2.2 dX11_terms_96
        · refine lv_iload hx hb dX11_terms_69 (lv_at hl 1 rfl) ?_
          refine lv_if_eq (tgt := 91) hx hb dX11_terms_71 (by decide) (fun _ => ?_) (fun h => absurd (by decide) h)
          refine lv_aload_n hx hb dX11_terms_91 rfl (lv_at hl 2 rfl) ?_
          refine lv_iconst (v := (-1)) hx hb dX11_terms_92 (by decide) ?_
          have hPc := hP.sub (ws' := [(h, .inr (11, [.ref h_0, .ref h_1, .ref h_2, .ref h_3, .ref h_4, .ref h_5, .ref h_6, .ref h_7, .ref h_8, .ref h_9, .ref h_10, .ref h_11, .ref h_12, .int h_13, .int h_14]))]) [0] rfl
          have hDc := hD.sub (ws' := [(h, .inr (11, [.ref h_0, .ref h_1, .ref h_2, .ref h_3, .ref h_4, .ref h_5, .ref h_6, .ref h_7, .ref h_8, .ref h_9, .ref h_10, .ref h_11, .ref h_12, .int h_13, .int h_14]))]) [0] (by decide) rfl
          have hFc := va_free (wc := [(h, .inr (11, [.ref h_0, .ref h_1, .ref h_2, .ref h_3, .ref h_4, .ref h_5, .ref h_6, .ref h_7, .ref h_8, .ref h_9, .ref h_10, .ref h_11, .ref h_12, .int h_13, .int h_14]))]) hD hS hA [0] rfl
          refine va_calli (va_runV (As := [.int (-1)]) (rest := []) ⟨hx, hb, hml, hown, hg⟩ (c_refuse l D ct h (-1) h_0 h_1 h_2 h_3 h_4 h_5 h_6 h_7 h_8 h_9 h_10 h_11 h_12 h_13 h_14 s.heap.size ) (cwV 1 hg (gd_V wd_778 wd_780 wd_3 wd_107 wd_781) rfl rfl rfl (by decide +kernel) ⟨Nat.le_of_ble_eq_true rfl, Nat.le_of_ble_eq_true rfl⟩) (Wd_V hPc hKK hDc (va_recv hK hPc (ci := 11) (q0 := 0) rfl rfl)) rfl rfl hl.1 rfl (lv_room (Nat.le_of_ble_eq_true rfl)) dX11_terms_93 ⟨Nat.le_of_ble_eq_true rfl, Nat.le_of_ble_eq_true rfl⟩) hS (fun q _ h => hFc q h) hFc (fun r_30 u_30 t_30 H1 locs ht_30 hvm_30 hw_30 hB_30 hz_30 hk_30 hS => ?_)
          obtain ⟨hP, hD⟩ := va_join (wr := [(h_7, .inr (7, [.ref h_7_0, .ref h_7_1, .ref h_7_2, .int h_7_3, .int h_7_4, .int h_7_5, .int h_7_6, .int h_7_7, .long h_7_8, .long h_7_9, .int h_7_10, .ref h_7_11, .ref h_7_12, .ref h_7_13])), (h_8, .inr (8, [.ref h_8_0, .ref h_8_1, .ref h_8_2, .ref h_8_3, .ref h_8_4, .ref h_8_5, .ref h_8_6, .ref h_8_7, .int h_8_8, .int h_8_9, .int h_8_10, .int h_8_11, .ref h_8_12, .int h_8_13, .ref h_8_14, .int h_8_15, .int h_8_16]))]) (w1 := []) hP hD [0] [1, 2] rfl rfl (by decide) (by decide) hk_30 hFc (fun k q h => by simp at h) ⟨fun i j p q h => by simp at h, fun k q h => by simp at h⟩
          generalize H1 = H at hP hS ⊢
          have hP : va_P D vwCl [(h_7, .inr (7, [.ref h_7_0, .ref h_7_1, .ref h_7_2, .int h_7_3, .int h_7_4, .int h_7_5, .int h_7_6, .int h_7_7, .long h_7_8, .long h_7_9, .int h_7_10, .ref h_7_11, .ref h_7_12, .ref h_7_13])), (h_8, .inr (8, [.ref h_8_0, .ref h_8_1, .ref h_8_2, .ref h_8_3, .ref h_8_4, .ref h_8_5, .ref h_8_6, .ref h_8_7, .int h_8_8, .int h_8_9, .int h_8_10, .int h_8_11, .ref h_8_12, .int h_8_13, .ref h_8_14, .int h_8_15, .int h_8_16]))] H := hP
          have hD : va_D A [(h_7, .inr (7, [.ref h_7_0, .ref h_7_1, .ref h_7_2, .int h_7_3, .int h_7_4, .int h_7_5, .int h_7_6, .int h_7_7, .long h_7_8, .long h_7_9, .int h_7_10, .ref h_7_11, .ref h_7_12, .ref h_7_13])), (h_8, .inr (8, [.ref h_8_0, .ref h_8_1, .ref h_8_2, .ref h_8_3, .ref h_8_4, .ref h_8_5, .ref h_8_6, .ref h_8_7, .int h_8_8, .int h_8_9, .int h_8_10, .int h_8_11, .ref h_8_12, .int h_8_13, .ref h_8_14, .int h_8_15, .int h_8_16]))] := hD
          subst hw_30
          exact W.iret (v := (-1)) hx hb hr (fun t ht hW => ⟨⟨(-1), (), rfl, (by simp [sp_terms, c_2, c_23, c_25, c_27]), trivial⟩, hS.F ht⟩) hS.2.2 dX11_terms_96
      · refine lv_iload hx hb dX11_terms_41 (lv_at hl 6 rfl) ?_
        refine lv_iconst (v := 1) hx hb dX11_terms_43 (by decide) ?_
        refine lv_sipush (v := 1000) hx hb dX11_terms_44 (by decide) ?_
        have hPc := hP.sub (ws' := []) [] rfl
        refine z_calli (va_runS (As := [.int a5, .int 1, .int 1000]) (rest := []) ⟨hx, hb, hml, hown, hg⟩ (c_within l D ct a5 1 1000 ) (va_cwS 3 hg (gd_S wd_959 wd_917 wd_107 wd_918) rfl rfl rfl (by decide +kernel) ⟨Nat.le_of_ble_eq_true rfl, Nat.le_of_ble_eq_true rfl⟩) (Wr_S hPc hKK) rfl rfl hl.1 rfl (lv_room (Nat.le_of_ble_eq_true rfl)) dX11_terms_47 ⟨Nat.le_of_ble_eq_true rfl, Nat.le_of_ble_eq_true rfl⟩) (fun r_31 hw_31 => ?_)
        subst hw_31
        refine lv_if_eq (tgt := 57) hx hb dX11_terms_50 (by decide) (fun c_32 => ?_) (fun c_32 => ?_)
        · refine lv_iconst (v := 0) hx hb dX11_terms_57 (by decide) ?_
          refine lv_istore (lv' := [(8, .int 0), (7, .int 0), (0, .ref h), (1, .int a1), (2, .int a2), (3, .int a3), (4, .int a4), (5, .int a5), (6, .int a6)]) hx hb dX11_terms_58 hl (by decide) rfl (fun ls hl => ?_)
          refine lv_iload_n hx hb dX11_terms_60 rfl (lv_at hl 3 rfl) ?_
          refine lv_iconst (v := 0) hx hb dX11_terms_61 (by decide) ?_
          refine lv_iconst (v := 3) hx hb dX11_terms_62 (by decide) ?_
          have hPc := hP.sub (ws' := []) [] rfl
          refine z_calli (va_runS (As := [.int a1, .int 0, .int 3]) (rest := []) ⟨hx, hb, hml, hown, hg⟩ (c_within l D ct a1 0 3 ) (va_cwS 3 hg (gd_S wd_959 wd_917 wd_107 wd_918) rfl rfl rfl (by decide +kernel) ⟨Nat.le_of_ble_eq_true rfl, Nat.le_of_ble_eq_true rfl⟩) (Wr_S hPc hKK) rfl rfl hl.1 rfl (lv_room (Nat.le_of_ble_eq_true rfl)) dX11_terms_63 ⟨Nat.le_of_ble_eq_true rfl, Nat.le_of_ble_eq_true rfl⟩) (fun r_33 hw_33 => ?_)
          subst hw_33
          refine lv_if_eq (tgt := 91) hx hb dX11_terms_66 (by decide) (fun c_34 => ?_) (fun c_34 => ?_)
          · refine lv_aload_n hx hb dX11_terms_91 rfl (lv_at hl 2 rfl) ?_
            refine lv_iconst (v := (-1)) hx hb dX11_terms_92 (by decide) ?_
            have hPc := hP.sub (ws' := [(h, .inr (11, [.ref h_0, .ref h_1, .ref h_2, .ref h_3, .ref h_4, .ref h_5, .ref h_6, .ref h_7, .ref h_8, .ref h_9, .ref h_10, .ref h_11, .ref h_12, .int h_13, .int h_14]))]) [0] rfl
            have hDc := hD.sub (ws' := [(h, .inr (11, [.ref h_0, .ref h_1, .ref h_2, .ref h_3, .ref h_4, .ref h_5, .ref h_6, .ref h_7, .ref h_8, .ref h_9, .ref h_10, .ref h_11, .ref h_12, .int h_13, .int h_14]))]) [0] (by decide) rfl
            have hFc := va_free (wc := [(h, .inr (11, [.ref h_0, .ref h_1, .ref h_2, .ref h_3, .ref h_4, .ref h_5, .ref h_6, .ref h_7, .ref h_8, .ref h_9, .ref h_10, .ref h_11, .ref h_12, .int h_13, .int h_14]))]) hD hS hA [0] rfl
            refine va_calli (va_runV (As := [.int (-1)]) (rest := []) ⟨hx, hb, hml, hown, hg⟩ (c_refuse l D ct h (-1) h_0 h_1 h_2 h_3 h_4 h_5 h_6 h_7 h_8 h_9 h_10 h_11 h_12 h_13 h_14 s.heap.size ) (cwV 1 hg (gd_V wd_778 wd_780 wd_3 wd_107 wd_781) rfl rfl rfl (by decide +kernel) ⟨Nat.le_of_ble_eq_true rfl, Nat.le_of_ble_eq_true rfl⟩) (Wd_V hPc hKK hDc (va_recv hK hPc (ci := 11) (q0 := 0) rfl rfl)) rfl rfl hl.1 rfl (lv_room (Nat.le_of_ble_eq_true rfl)) dX11_terms_93 ⟨Nat.le_of_ble_eq_true rfl, Nat.le_of_ble_eq_true rfl⟩) hS (fun q _ h => hFc q h) hFc (fun r_35 u_35 t_35 H1 locs ht_35 hvm_35 hw_35 hB_35 hz_35 hk_35 hS => ?_)
            obtain ⟨hP, hD⟩ := va_join (wr := [(h_7, .inr (7, [.ref h_7_0, .ref h_7_1, .ref h_7_2, .int h_7_3, .int h_7_4, .int h_7_5, .int h_7_6, .int h_7_7, .long h_7_8, .long h_7_9, .int h_7_10, .ref h_7_11, .ref h_7_12, .ref h_7_13])), (h_8, .inr (8, [.ref h_8_0, .ref h_8_1, .ref h_8_2, .ref h_8_3, .ref h_8_4, .ref h_8_5, .ref h_8_6, .ref h_8_7, .int h_8_8, .int h_8_9, .int h_8_10, .int h_8_11, .ref h_8_12, .int h_8_13, .ref h_8_14, .int h_8_15, .int h_8_16]))]) (w1 := []) hP hD [0] [1, 2] rfl rfl (by decide) (by decide) hk_35 hFc (fun k q h => by simp at h) ⟨fun i j p q h => by simp at h, fun k q h => by simp at h⟩
            generalize H1 = H at hP hS ⊢
            have hP : va_P D vwCl [(h_7, .inr (7, [.ref h_7_0, .ref h_7_1, .ref h_7_2, .int h_7_3, .int h_7_4, .int h_7_5, .int h_7_6, .int h_7_7, .long h_7_8, .long h_7_9, .int h_7_10, .ref h_7_11, .ref h_7_12, .ref h_7_13])), (h_8, .inr (8, [.ref h_8_0, .ref h_8_1, .ref h_8_2, .ref h_8_3, .ref h_8_4, .ref h_8_5, .ref h_8_6, .ref h_8_7, .int h_8_8, .int h_8_9, .int h_8_10, .int h_8_11, .ref h_8_12, .int h_8_13, .ref h_8_14, .int h_8_15, .int h_8_16]))] H := hP
            have hD : va_D A [(h_7, .inr (7, [.ref h_7_0, .ref h_7_1, .ref h_7_2, .int h_7_3, .int h_7_4, .int h_7_5, .int h_7_6, .int h_7_7, .long h_7_8, .long h_7_9, .int h_7_10, .ref h_7_11, .ref h_7_12, .ref h_7_13])), (h_8, .inr (8, [.ref h_8_0, .ref h_8_1, .ref h_8_2, .ref h_8_3, .ref h_8_4, .ref h_8_5, .ref h_8_6, .ref h_8_7, .int h_8_8, .int h_8_9, .int h_8_10, .int h_8_11, .ref h_8_12, .int h_8_13, .ref h_8_14, .int h_8_15, .int h_8_16]))] := hD
            subst hw_35
            exact W.iret (v := (-1)) hx hb hr (fun t ht hW => ⟨⟨(-1), (), rfl, (by simp [sp_terms, c_2, c_23, c_25, c_32, c_34]), trivial⟩, hS.F ht⟩) hS.2.2 dX11_terms_96
          · refine lv_iload hx hb dX11_terms_69 (lv_at hl 1 rfl) ?_
            refine lv_if_eq (tgt := 91) hx hb dX11_terms_71 (by decide) (fun _ => ?_) (fun h => absurd (by decide) h)
            refine lv_aload_n hx hb dX11_terms_91 rfl (lv_at hl 2 rfl) ?_
            refine lv_iconst (v := (-1)) hx hb dX11_terms_92 (by decide) ?_
            have hPc := hP.sub (ws' := [(h, .inr (11, [.ref h_0, .ref h_1, .ref h_2, .ref h_3, .ref h_4, .ref h_5, .ref h_6, .ref h_7, .ref h_8, .ref h_9, .ref h_10, .ref h_11, .ref h_12, .int h_13, .int h_14]))]) [0] rfl
            have hDc := hD.sub (ws' := [(h, .inr (11, [.ref h_0, .ref h_1, .ref h_2, .ref h_3, .ref h_4, .ref h_5, .ref h_6, .ref h_7, .ref h_8, .ref h_9, .ref h_10, .ref h_11, .ref h_12, .int h_13, .int h_14]))]) [0] (by decide) rfl
            have hFc := va_free (wc := [(h, .inr (11, [.ref h_0, .ref h_1, .ref h_2, .ref h_3, .ref h_4, .ref h_5, .ref h_6, .ref h_7, .ref h_8, .ref h_9, .ref h_10, .ref h_11, .ref h_12, .int h_13, .int h_14]))]) hD hS hA [0] rfl
            refine va_calli (va_runV (As := [.int (-1)]) (rest := []) ⟨hx, hb, hml, hown, hg⟩ (c_refuse l D ct h (-1) h_0 h_1 h_2 h_3 h_4 h_5 h_6 h_7 h_8 h_9 h_10 h_11 h_12 h_13 h_14 s.heap.size ) (cwV 1 hg (gd_V wd_778 wd_780 wd_3 wd_107 wd_781) rfl rfl rfl (by decide +kernel) ⟨Nat.le_of_ble_eq_true rfl, Nat.le_of_ble_eq_true rfl⟩) (Wd_V hPc hKK hDc (va_recv hK hPc (ci := 11) (q0 := 0) rfl rfl)) rfl rfl hl.1 rfl (lv_room (Nat.le_of_ble_eq_true rfl)) dX11_terms_93 ⟨Nat.le_of_ble_eq_true rfl, Nat.le_of_ble_eq_true rfl⟩) hS (fun q _ h => hFc q h) hFc (fun r_37 u_37 t_37 H1 locs ht_37 hvm_37 hw_37 hB_37 hz_37 hk_37 hS => ?_)
            obtain ⟨hP, hD⟩ := va_join (wr := [(h_7, .inr (7, [.ref h_7_0, .ref h_7_1, .ref h_7_2, .int h_7_3, .int h_7_4, .int h_7_5, .int h_7_6, .int h_7_7, .long h_7_8, .long h_7_9, .int h_7_10, .ref h_7_11, .ref h_7_12, .ref h_7_13])), (h_8, .inr (8, [.ref h_8_0, .ref h_8_1, .ref h_8_2, .ref h_8_3, .ref h_8_4, .ref h_8_5, .ref h_8_6, .ref h_8_7, .int h_8_8, .int h_8_9, .int h_8_10, .int h_8_11, .ref h_8_12, .int h_8_13, .ref h_8_14, .int h_8_15, .int h_8_16]))]) (w1 := []) hP hD [0] [1, 2] rfl rfl (by decide) (by decide) hk_37 hFc (fun k q h => by simp at h) ⟨fun i j p q h => by simp at h, fun k q h => by simp at h⟩
            generalize H1 = H at hP hS ⊢
            have hP : va_P D vwCl [(h_7, .inr (7, [.ref h_7_0, .ref h_7_1, .ref h_7_2, .int h_7_3, .int h_7_4, .int h_7_5, .int h_7_6, .int h_7_7, .long h_7_8, .long h_7_9, .int h_7_10, .ref h_7_11, .ref h_7_12, .ref h_7_13])), (h_8, .inr (8, [.ref h_8_0, .ref h_8_1, .ref h_8_2, .ref h_8_3, .ref h_8_4, .ref h_8_5, .ref h_8_6, .ref h_8_7, .int h_8_8, .int h_8_9, .int h_8_10, .int h_8_11, .ref h_8_12, .int h_8_13, .ref h_8_14, .int h_8_15, .int h_8_16]))] H := hP
            have hD : va_D A [(h_7, .inr (7, [.ref h_7_0, .ref h_7_1, .ref h_7_2, .int h_7_3, .int h_7_4, .int h_7_5, .int h_7_6, .int h_7_7, .long h_7_8, .long h_7_9, .int h_7_10, .ref h_7_11, .ref h_7_12, .ref h_7_13])), (h_8, .inr (8, [.ref h_8_0, .ref h_8_1, .ref h_8_2, .ref h_8_3, .ref h_8_4, .ref h_8_5, .ref h_8_6, .ref h_8_7, .int h_8_8, .int h_8_9, .int h_8_10, .int h_8_11, .ref h_8_12, .int h_8_13, .ref h_8_14, .int h_8_15, .int h_8_16]))] := hD
            subst hw_37
            exact W.iret (v := (-1)) hx hb hr (fun t ht hW => ⟨⟨(-1), (), rfl, (by simp [sp_terms, c_2, c_23, c_25, c_32, c_34]), trivial⟩, hS.F ht⟩) hS.2.2 dX11_terms_96
        · refine lv_iconst (v := 1) hx hb dX11_terms_53 (by decide) ?_
          refine lv_goto (tgt := 58) hx hb dX11_terms_54 (by decide) ?_
          refine lv_istore (lv' := [(8, .int 1), (7, .int 0), (0, .ref h), (1, .int a1), (2, .int a2), (3, .int a3), (4, .int a4), (5, .int a5), (6, .int a6)]) hx hb dX11_terms_58 hl (by decide) rfl (fun ls hl => ?_)
          refine lv_iload_n hx hb dX11_terms_60 rfl (lv_at hl 3 rfl) ?_
          refine lv_iconst (v := 0) hx hb dX11_terms_61 (by decide) ?_
          refine lv_iconst (v := 3) hx hb dX11_terms_62 (by decide) ?_
          have hPc := hP.sub (ws' := []) [] rfl
          refine z_calli (va_runS (As := [.int a1, .int 0, .int 3]) (rest := []) ⟨hx, hb, hml, hown, hg⟩ (c_within l D ct a1 0 3 ) (va_cwS 3 hg (gd_S wd_959 wd_917 wd_107 wd_918) rfl rfl rfl (by decide +kernel) ⟨Nat.le_of_ble_eq_true rfl, Nat.le_of_ble_eq_true rfl⟩) (Wr_S hPc hKK) rfl rfl hl.1 rfl (lv_room (Nat.le_of_ble_eq_true rfl)) dX11_terms_63 ⟨Nat.le_of_ble_eq_true rfl, Nat.le_of_ble_eq_true rfl⟩) (fun r_38 hw_38 => ?_)
          subst hw_38
          refine lv_if_eq (tgt := 91) hx hb dX11_terms_66 (by decide) (fun c_39 => ?_) (fun c_39 => ?_)
          · refine lv_aload_n hx hb dX11_terms_91 rfl (lv_at hl 2 rfl) ?_
            refine lv_iconst (v := (-1)) hx hb dX11_terms_92 (by decide) ?_
            have hPc := hP.sub (ws' := [(h, .inr (11, [.ref h_0, .ref h_1, .ref h_2, .ref h_3, .ref h_4, .ref h_5, .ref h_6, .ref h_7, .ref h_8, .ref h_9, .ref h_10, .ref h_11, .ref h_12, .int h_13, .int h_14]))]) [0] rfl
            have hDc := hD.sub (ws' := [(h, .inr (11, [.ref h_0, .ref h_1, .ref h_2, .ref h_3, .ref h_4, .ref h_5, .ref h_6, .ref h_7, .ref h_8, .ref h_9, .ref h_10, .ref h_11, .ref h_12, .int h_13, .int h_14]))]) [0] (by decide) rfl
            have hFc := va_free (wc := [(h, .inr (11, [.ref h_0, .ref h_1, .ref h_2, .ref h_3, .ref h_4, .ref h_5, .ref h_6, .ref h_7, .ref h_8, .ref h_9, .ref h_10, .ref h_11, .ref h_12, .int h_13, .int h_14]))]) hD hS hA [0] rfl
            refine va_calli (va_runV (As := [.int (-1)]) (rest := []) ⟨hx, hb, hml, hown, hg⟩ (c_refuse l D ct h (-1) h_0 h_1 h_2 h_3 h_4 h_5 h_6 h_7 h_8 h_9 h_10 h_11 h_12 h_13 h_14 s.heap.size ) (cwV 1 hg (gd_V wd_778 wd_780 wd_3 wd_107 wd_781) rfl rfl rfl (by decide +kernel) ⟨Nat.le_of_ble_eq_true rfl, Nat.le_of_ble_eq_true rfl⟩) (Wd_V hPc hKK hDc (va_recv hK hPc (ci := 11) (q0 := 0) rfl rfl)) rfl rfl hl.1 rfl (lv_room (Nat.le_of_ble_eq_true rfl)) dX11_terms_93 ⟨Nat.le_of_ble_eq_true rfl, Nat.le_of_ble_eq_true rfl⟩) hS (fun q _ h => hFc q h) hFc (fun r_40 u_40 t_40 H1 locs ht_40 hvm_40 hw_40 hB_40 hz_40 hk_40 hS => ?_)
            obtain ⟨hP, hD⟩ := va_join (wr := [(h_7, .inr (7, [.ref h_7_0, .ref h_7_1, .ref h_7_2, .int h_7_3, .int h_7_4, .int h_7_5, .int h_7_6, .int h_7_7, .long h_7_8, .long h_7_9, .int h_7_10, .ref h_7_11, .ref h_7_12, .ref h_7_13])), (h_8, .inr (8, [.ref h_8_0, .ref h_8_1, .ref h_8_2, .ref h_8_3, .ref h_8_4, .ref h_8_5, .ref h_8_6, .ref h_8_7, .int h_8_8, .int h_8_9, .int h_8_10, .int h_8_11, .ref h_8_12, .int h_8_13, .ref h_8_14, .int h_8_15, .int h_8_16]))]) (w1 := []) hP hD [0] [1, 2] rfl rfl (by decide) (by decide) hk_40 hFc (fun k q h => by simp at h) ⟨fun i j p q h => by simp at h, fun k q h => by simp at h⟩
            generalize H1 = H at hP hS ⊢
            have hP : va_P D vwCl [(h_7, .inr (7, [.ref h_7_0, .ref h_7_1, .ref h_7_2, .int h_7_3, .int h_7_4, .int h_7_5, .int h_7_6, .int h_7_7, .long h_7_8, .long h_7_9, .int h_7_10, .ref h_7_11, .ref h_7_12, .ref h_7_13])), (h_8, .inr (8, [.ref h_8_0, .ref h_8_1, .ref h_8_2, .ref h_8_3, .ref h_8_4, .ref h_8_5, .ref h_8_6, .ref h_8_7, .int h_8_8, .int h_8_9, .int h_8_10, .int h_8_11, .ref h_8_12, .int h_8_13, .ref h_8_14, .int h_8_15, .int h_8_16]))] H := hP
            have hD : va_D A [(h_7, .inr (7, [.ref h_7_0, .ref h_7_1, .ref h_7_2, .int h_7_3, .int h_7_4, .int h_7_5, .int h_7_6, .int h_7_7, .long h_7_8, .long h_7_9, .int h_7_10, .ref h_7_11, .ref h_7_12, .ref h_7_13])), (h_8, .inr (8, [.ref h_8_0, .ref h_8_1, .ref h_8_2, .ref h_8_3, .ref h_8_4, .ref h_8_5, .ref h_8_6, .ref h_8_7, .int h_8_8, .int h_8_9, .int h_8_10, .int h_8_11, .ref h_8_12, .int h_8_13, .ref h_8_14, .int h_8_15, .int h_8_16]))] := hD
            subst hw_40
            exact W.iret (v := (-1)) hx hb hr (fun t ht hW => ⟨⟨(-1), (), rfl, (by simp [sp_terms, c_2, c_23, c_25, c_32, c_39]), trivial⟩, hS.F ht⟩) hS.2.2 dX11_terms_96
          · refine lv_iload hx hb dX11_terms_69 (lv_at hl 1 rfl) ?_
            refine lv_if_eq (tgt := 91) hx hb dX11_terms_71 (by decide) (fun _ => ?_) (fun h => absurd (by decide) h)
            refine lv_aload_n hx hb dX11_terms_91 rfl (lv_at hl 2 rfl) ?_
            refine lv_iconst (v := (-1)) hx hb dX11_terms_92 (by decide) ?_
            have hPc := hP.sub (ws' := [(h, .inr (11, [.ref h_0, .ref h_1, .ref h_2, .ref h_3, .ref h_4, .ref h_5, .ref h_6, .ref h_7, .ref h_8, .ref h_9, .ref h_10, .ref h_11, .ref h_12, .int h_13, .int h_14]))]) [0] rfl
            have hDc := hD.sub (ws' := [(h, .inr (11, [.ref h_0, .ref h_1, .ref h_2, .ref h_3, .ref h_4, .ref h_5, .ref h_6, .ref h_7, .ref h_8, .ref h_9, .ref h_10, .ref h_11, .ref h_12, .int h_13, .int h_14]))]) [0] (by decide) rfl
            have hFc := va_free (wc := [(h, .inr (11, [.ref h_0, .ref h_1, .ref h_2, .ref h_3, .ref h_4, .ref h_5, .ref h_6, .ref h_7, .ref h_8, .ref h_9, .ref h_10, .ref h_11, .ref h_12, .int h_13, .int h_14]))]) hD hS hA [0] rfl
            refine va_calli (va_runV (As := [.int (-1)]) (rest := []) ⟨hx, hb, hml, hown, hg⟩ (c_refuse l D ct h (-1) h_0 h_1 h_2 h_3 h_4 h_5 h_6 h_7 h_8 h_9 h_10 h_11 h_12 h_13 h_14 s.heap.size ) (cwV 1 hg (gd_V wd_778 wd_780 wd_3 wd_107 wd_781) rfl rfl rfl (by decide +kernel) ⟨Nat.le_of_ble_eq_true rfl, Nat.le_of_ble_eq_true rfl⟩) (Wd_V hPc hKK hDc (va_recv hK hPc (ci := 11) (q0 := 0) rfl rfl)) rfl rfl hl.1 rfl (lv_room (Nat.le_of_ble_eq_true rfl)) dX11_terms_93 ⟨Nat.le_of_ble_eq_true rfl, Nat.le_of_ble_eq_true rfl⟩) hS (fun q _ h => hFc q h) hFc (fun r_42 u_42 t_42 H1 locs ht_42 hvm_42 hw_42 hB_42 hz_42 hk_42 hS => ?_)
            obtain ⟨hP, hD⟩ := va_join (wr := [(h_7, .inr (7, [.ref h_7_0, .ref h_7_1, .ref h_7_2, .int h_7_3, .int h_7_4, .int h_7_5, .int h_7_6, .int h_7_7, .long h_7_8, .long h_7_9, .int h_7_10, .ref h_7_11, .ref h_7_12, .ref h_7_13])), (h_8, .inr (8, [.ref h_8_0, .ref h_8_1, .ref h_8_2, .ref h_8_3, .ref h_8_4, .ref h_8_5, .ref h_8_6, .ref h_8_7, .int h_8_8, .int h_8_9, .int h_8_10, .int h_8_11, .ref h_8_12, .int h_8_13, .ref h_8_14, .int h_8_15, .int h_8_16]))]) (w1 := []) hP hD [0] [1, 2] rfl rfl (by decide) (by decide) hk_42 hFc (fun k q h => by simp at h) ⟨fun i j p q h => by simp at h, fun k q h => by simp at h⟩
            generalize H1 = H at hP hS ⊢
            have hP : va_P D vwCl [(h_7, .inr (7, [.ref h_7_0, .ref h_7_1, .ref h_7_2, .int h_7_3, .int h_7_4, .int h_7_5, .int h_7_6, .int h_7_7, .long h_7_8, .long h_7_9, .int h_7_10, .ref h_7_11, .ref h_7_12, .ref h_7_13])), (h_8, .inr (8, [.ref h_8_0, .ref h_8_1, .ref h_8_2, .ref h_8_3, .ref h_8_4, .ref h_8_5, .ref h_8_6, .ref h_8_7, .int h_8_8, .int h_8_9, .int h_8_10, .int h_8_11, .ref h_8_12, .int h_8_13, .ref h_8_14, .int h_8_15, .int h_8_16]))] H := hP
            have hD : va_D A [(h_7, .inr (7, [.ref h_7_0, .ref h_7_1, .ref h_7_2, .int h_7_3, .int h_7_4, .int h_7_5, .int h_7_6, .int h_7_7, .long h_7_8, .long h_7_9, .int h_7_10, .ref h_7_11, .ref h_7_12, .ref h_7_13])), (h_8, .inr (8, [.ref h_8_0, .ref h_8_1, .ref h_8_2, .ref h_8_3, .ref h_8_4, .ref h_8_5, .ref h_8_6, .ref h_8_7, .int h_8_8, .int h_8_9, .int h_8_10, .int h_8_11, .ref h_8_12, .int h_8_13, .ref h_8_14, .int h_8_15, .int h_8_16]))] := hD
            subst hw_42
            exact W.iret (v := (-1)) hx hb hr (fun t ht hW => ⟨⟨(-1), (), rfl, (by simp [sp_terms, c_2, c_23, c_25, c_32, c_39]), trivial⟩, hS.F ht⟩) hS.2.2 dX11_terms_96
    · refine lv_iconst (v := 1) hx hb dX11_terms_22 (by decide) ?_
      refine lv_goto (tgt := 27) hx hb dX11_terms_23 (by decide) ?_
      refine lv_istore (lv' := [(7, .int 1), (0, .ref h), (1, .int a1), (2, .int a2), (3, .int a3), (4, .int a4), (5, .int a5), (6, .int a6)]) hx hb dX11_terms_27 hl (by decide) rfl (fun ls hl => ?_)
      refine lv_iload hx hb dX11_terms_29 (lv_at hl 5 rfl) ?_
      refine lv_iconst (v := 1) hx hb dX11_terms_31 (by decide) ?_
      refine lv_sipush (v := 1000) hx hb dX11_terms_32 (by decide) ?_
      have hPc := hP.sub (ws' := []) [] rfl
      refine z_calli (va_runS (As := [.int a4, .int 1, .int 1000]) (rest := []) ⟨hx, hb, hml, hown, hg⟩ (c_within l D ct a4 1 1000 ) (va_cwS 3 hg (gd_S wd_959 wd_917 wd_107 wd_918) rfl rfl rfl (by decide +kernel) ⟨Nat.le_of_ble_eq_true rfl, Nat.le_of_ble_eq_true rfl⟩) (Wr_S hPc hKK) rfl rfl hl.1 rfl (lv_room (Nat.le_of_ble_eq_true rfl)) dX11_terms_35 ⟨Nat.le_of_ble_eq_true rfl, Nat.le_of_ble_eq_true rfl⟩) (fun r_43 hw_43 => ?_)
      subst hw_43
      refine lv_if_eq (tgt := 57) hx hb dX11_terms_38 (by decide) (fun c_44 => ?_) (fun c_44 => ?_)
      · refine lv_iconst (v := 0) hx hb dX11_terms_57 (by decide) ?_
        refine lv_istore (lv' := [(8, .int 0), (7, .int 1), (0, .ref h), (1, .int a1), (2, .int a2), (3, .int a3), (4, .int a4), (5, .int a5), (6, .int a6)]) hx hb dX11_terms_58 hl (by decide) rfl (fun ls hl => ?_)
        refine lv_iload_n hx hb dX11_terms_60 rfl (lv_at hl 3 rfl) ?_
        refine lv_iconst (v := 0) hx hb dX11_terms_61 (by decide) ?_
        refine lv_iconst (v := 3) hx hb dX11_terms_62 (by decide) ?_
        have hPc := hP.sub (ws' := []) [] rfl
        refine z_calli (va_runS (As := [.int a1, .int 0, .int 3]) (rest := []) ⟨hx, hb, hml, hown, hg⟩ (c_within l D ct a1 0 3 ) (va_cwS 3 hg (gd_S wd_959 wd_917 wd_107 wd_918) rfl rfl rfl (by decide +kernel) ⟨Nat.le_of_ble_eq_true rfl, Nat.le_of_ble_eq_true rfl⟩) (Wr_S hPc hKK) rfl rfl hl.1 rfl (lv_room (Nat.le_of_ble_eq_true rfl)) dX11_terms_63 ⟨Nat.le_of_ble_eq_true rfl, Nat.le_of_ble_eq_true rfl⟩) (fun r_45 hw_45 => ?_)
        subst hw_45
        refine lv_if_eq (tgt := 91) hx hb dX11_terms_66 (by decide) (fun c_46 => ?_) (fun c_46 => ?_)
        · refine lv_aload_n hx hb dX11_terms_91 rfl (lv_at hl 2 rfl) ?_
          refine lv_iconst (v := (-1)) hx hb dX11_terms_92 (by decide) ?_
          have hPc := hP.sub (ws' := [(h, .inr (11, [.ref h_0, .ref h_1, .ref h_2, .ref h_3, .ref h_4, .ref h_5, .ref h_6, .ref h_7, .ref h_8, .ref h_9, .ref h_10, .ref h_11, .ref h_12, .int h_13, .int h_14]))]) [0] rfl
          have hDc := hD.sub (ws' := [(h, .inr (11, [.ref h_0, .ref h_1, .ref h_2, .ref h_3, .ref h_4, .ref h_5, .ref h_6, .ref h_7, .ref h_8, .ref h_9, .ref h_10, .ref h_11, .ref h_12, .int h_13, .int h_14]))]) [0] (by decide) rfl
          have hFc := va_free (wc := [(h, .inr (11, [.ref h_0, .ref h_1, .ref h_2, .ref h_3, .ref h_4, .ref h_5, .ref h_6, .ref h_7, .ref h_8, .ref h_9, .ref h_10, .ref h_11, .ref h_12, .int h_13, .int h_14]))]) hD hS hA [0] rfl
          refine va_calli (va_runV (As := [.int (-1)]) (rest := []) ⟨hx, hb, hml, hown, hg⟩ (c_refuse l D ct h (-1) h_0 h_1 h_2 h_3 h_4 h_5 h_6 h_7 h_8 h_9 h_10 h_11 h_12 h_13 h_14 s.heap.size ) (cwV 1 hg (gd_V wd_778 wd_780 wd_3 wd_107 wd_781) rfl rfl rfl (by decide +kernel) ⟨Nat.le_of_ble_eq_true rfl, Nat.le_of_ble_eq_true rfl⟩) (Wd_V hPc hKK hDc (va_recv hK hPc (ci := 11) (q0 := 0) rfl rfl)) rfl rfl hl.1 rfl (lv_room (Nat.le_of_ble_eq_true rfl)) dX11_terms_93 ⟨Nat.le_of_ble_eq_true rfl, Nat.le_of_ble_eq_true rfl⟩) hS (fun q _ h => hFc q h) hFc (fun r_47 u_47 t_47 H1 locs ht_47 hvm_47 hw_47 hB_47 hz_47 hk_47 hS => ?_)
          obtain ⟨hP, hD⟩ := va_join (wr := [(h_7, .inr (7, [.ref h_7_0, .ref h_7_1, .ref h_7_2, .int h_7_3, .int h_7_4, .int h_7_5, .int h_7_6, .int h_7_7, .long h_7_8, .long h_7_9, .int h_7_10, .ref h_7_11, .ref h_7_12, .ref h_7_13])), (h_8, .inr (8, [.ref h_8_0, .ref h_8_1, .ref h_8_2, .ref h_8_3, .ref h_8_4, .ref h_8_5, .ref h_8_6, .ref h_8_7, .int h_8_8, .int h_8_9, .int h_8_10, .int h_8_11, .ref h_8_12, .int h_8_13, .ref h_8_14, .int h_8_15, .int h_8_16]))]) (w1 := []) hP hD [0] [1, 2] rfl rfl (by decide) (by decide) hk_47 hFc (fun k q h => by simp at h) ⟨fun i j p q h => by simp at h, fun k q h => by simp at h⟩
          generalize H1 = H at hP hS ⊢
          have hP : va_P D vwCl [(h_7, .inr (7, [.ref h_7_0, .ref h_7_1, .ref h_7_2, .int h_7_3, .int h_7_4, .int h_7_5, .int h_7_6, .int h_7_7, .long h_7_8, .long h_7_9, .int h_7_10, .ref h_7_11, .ref h_7_12, .ref h_7_13])), (h_8, .inr (8, [.ref h_8_0, .ref h_8_1, .ref h_8_2, .ref h_8_3, .ref h_8_4, .ref h_8_5, .ref h_8_6, .ref h_8_7, .int h_8_8, .int h_8_9, .int h_8_10, .int h_8_11, .ref h_8_12, .int h_8_13, .ref h_8_14, .int h_8_15, .int h_8_16]))] H := hP
          have hD : va_D A [(h_7, .inr (7, [.ref h_7_0, .ref h_7_1, .ref h_7_2, .int h_7_3, .int h_7_4, .int h_7_5, .int h_7_6, .int h_7_7, .long h_7_8, .long h_7_9, .int h_7_10, .ref h_7_11, .ref h_7_12, .ref h_7_13])), (h_8, .inr (8, [.ref h_8_0, .ref h_8_1, .ref h_8_2, .ref h_8_3, .ref h_8_4, .ref h_8_5, .ref h_8_6, .ref h_8_7, .int h_8_8, .int h_8_9, .int h_8_10, .int h_8_11, .ref h_8_12, .int h_8_13, .ref h_8_14, .int h_8_15, .int h_8_16]))] := hD
          subst hw_47
          exact W.iret (v := (-1)) hx hb hr (fun t ht hW => ⟨⟨(-1), (), rfl, (by simp [sp_terms, c_2, c_23, c_44, c_46]), trivial⟩, hS.F ht⟩) hS.2.2 dX11_terms_96
        · refine lv_iload hx hb dX11_terms_69 (lv_at hl 1 rfl) ?_
          refine lv_if_eq (tgt := 91) hx hb dX11_terms_71 (by decide) (fun h => absurd h (by decide)) (fun _ => ?_)
          refine lv_iload hx hb dX11_terms_74 (lv_at hl 0 rfl) ?_
          refine lv_if_eq (tgt := 91) hx hb dX11_terms_76 (by decide) (fun _ => ?_) (fun h => absurd (by decide) h)
          refine lv_aload_n hx hb dX11_terms_91 rfl (lv_at hl 2 rfl) ?_
          refine lv_iconst (v := (-1)) hx hb dX11_terms_92 (by decide) ?_
          have hPc := hP.sub (ws' := [(h, .inr (11, [.ref h_0, .ref h_1, .ref h_2, .ref h_3, .ref h_4, .ref h_5, .ref h_6, .ref h_7, .ref h_8, .ref h_9, .ref h_10, .ref h_11, .ref h_12, .int h_13, .int h_14]))]) [0] rfl
          have hDc := hD.sub (ws' := [(h, .inr (11, [.ref h_0, .ref h_1, .ref h_2, .ref h_3, .ref h_4, .ref h_5, .ref h_6, .ref h_7, .ref h_8, .ref h_9, .ref h_10, .ref h_11, .ref h_12, .int h_13, .int h_14]))]) [0] (by decide) rfl
          have hFc := va_free (wc := [(h, .inr (11, [.ref h_0, .ref h_1, .ref h_2, .ref h_3, .ref h_4, .ref h_5, .ref h_6, .ref h_7, .ref h_8, .ref h_9, .ref h_10, .ref h_11, .ref h_12, .int h_13, .int h_14]))]) hD hS hA [0] rfl
          refine va_calli (va_runV (As := [.int (-1)]) (rest := []) ⟨hx, hb, hml, hown, hg⟩ (c_refuse l D ct h (-1) h_0 h_1 h_2 h_3 h_4 h_5 h_6 h_7 h_8 h_9 h_10 h_11 h_12 h_13 h_14 s.heap.size ) (cwV 1 hg (gd_V wd_778 wd_780 wd_3 wd_107 wd_781) rfl rfl rfl (by decide +kernel) ⟨Nat.le_of_ble_eq_true rfl, Nat.le_of_ble_eq_true rfl⟩) (Wd_V hPc hKK hDc (va_recv hK hPc (ci := 11) (q0 := 0) rfl rfl)) rfl rfl hl.1 rfl (lv_room (Nat.le_of_ble_eq_true rfl)) dX11_terms_93 ⟨Nat.le_of_ble_eq_true rfl, Nat.le_of_ble_eq_true rfl⟩) hS (fun q _ h => hFc q h) hFc (fun r_50 u_50 t_50 H1 locs ht_50 hvm_50 hw_50 hB_50 hz_50 hk_50 hS => ?_)
          obtain ⟨hP, hD⟩ := va_join (wr := [(h_7, .inr (7, [.ref h_7_0, .ref h_7_1, .ref h_7_2, .int h_7_3, .int h_7_4, .int h_7_5, .int h_7_6, .int h_7_7, .long h_7_8, .long h_7_9, .int h_7_10, .ref h_7_11, .ref h_7_12, .ref h_7_13])), (h_8, .inr (8, [.ref h_8_0, .ref h_8_1, .ref h_8_2, .ref h_8_3, .ref h_8_4, .ref h_8_5, .ref h_8_6, .ref h_8_7, .int h_8_8, .int h_8_9, .int h_8_10, .int h_8_11, .ref h_8_12, .int h_8_13, .ref h_8_14, .int h_8_15, .int h_8_16]))]) (w1 := []) hP hD [0] [1, 2] rfl rfl (by decide) (by decide) hk_50 hFc (fun k q h => by simp at h) ⟨fun i j p q h => by simp at h, fun k q h => by simp at h⟩
          generalize H1 = H at hP hS ⊢
          have hP : va_P D vwCl [(h_7, .inr (7, [.ref h_7_0, .ref h_7_1, .ref h_7_2, .int h_7_3, .int h_7_4, .int h_7_5, .int h_7_6, .int h_7_7, .long h_7_8, .long h_7_9, .int h_7_10, .ref h_7_11, .ref h_7_12, .ref h_7_13])), (h_8, .inr (8, [.ref h_8_0, .ref h_8_1, .ref h_8_2, .ref h_8_3, .ref h_8_4, .ref h_8_5, .ref h_8_6, .ref h_8_7, .int h_8_8, .int h_8_9, .int h_8_10, .int h_8_11, .ref h_8_12, .int h_8_13, .ref h_8_14, .int h_8_15, .int h_8_16]))] H := hP
          have hD : va_D A [(h_7, .inr (7, [.ref h_7_0, .ref h_7_1, .ref h_7_2, .int h_7_3, .int h_7_4, .int h_7_5, .int h_7_6, .int h_7_7, .long h_7_8, .long h_7_9, .int h_7_10, .ref h_7_11, .ref h_7_12, .ref h_7_13])), (h_8, .inr (8, [.ref h_8_0, .ref h_8_1, .ref h_8_2, .ref h_8_3, .ref h_8_4, .ref h_8_5, .ref h_8_6, .ref h_8_7, .int h_8_8, .int h_8_9, .int h_8_10, .int h_8_11, .ref h_8_12, .int h_8_13, .ref h_8_14, .int h_8_15, .int h_8_16]))] := hD
          subst hw_50
          exact W.iret (v := (-1)) hx hb hr (fun t ht hW => ⟨⟨(-1), (), rfl, (by simp [sp_terms, c_2, c_23, c_44, c_46]), trivial⟩, hS.F ht⟩) hS.2.2 dX11_terms_96
      · refine lv_iload hx hb dX11_terms_41 (lv_at hl 6 rfl) ?_
        refine lv_iconst (v := 1) hx hb dX11_terms_43 (by decide) ?_
        refine lv_sipush (v := 1000) hx hb dX11_terms_44 (by decide) ?_
        have hPc := hP.sub (ws' := []) [] rfl
        refine z_calli (va_runS (As := [.int a5, .int 1, .int 1000]) (rest := []) ⟨hx, hb, hml, hown, hg⟩ (c_within l D ct a5 1 1000 ) (va_cwS 3 hg (gd_S wd_959 wd_917 wd_107 wd_918) rfl rfl rfl (by decide +kernel) ⟨Nat.le_of_ble_eq_true rfl, Nat.le_of_ble_eq_true rfl⟩) (Wr_S hPc hKK) rfl rfl hl.1 rfl (lv_room (Nat.le_of_ble_eq_true rfl)) dX11_terms_47 ⟨Nat.le_of_ble_eq_true rfl, Nat.le_of_ble_eq_true rfl⟩) (fun r_51 hw_51 => ?_)
        subst hw_51
        refine lv_if_eq (tgt := 57) hx hb dX11_terms_50 (by decide) (fun c_52 => ?_) (fun c_52 => ?_)
        · refine lv_iconst (v := 0) hx hb dX11_terms_57 (by decide) ?_
          refine lv_istore (lv' := [(8, .int 0), (7, .int 1), (0, .ref h), (1, .int a1), (2, .int a2), (3, .int a3), (4, .int a4), (5, .int a5), (6, .int a6)]) hx hb dX11_terms_58 hl (by decide) rfl (fun ls hl => ?_)
          refine lv_iload_n hx hb dX11_terms_60 rfl (lv_at hl 3 rfl) ?_
          refine lv_iconst (v := 0) hx hb dX11_terms_61 (by decide) ?_
          refine lv_iconst (v := 3) hx hb dX11_terms_62 (by decide) ?_
          have hPc := hP.sub (ws' := []) [] rfl
          refine z_calli (va_runS (As := [.int a1, .int 0, .int 3]) (rest := []) ⟨hx, hb, hml, hown, hg⟩ (c_within l D ct a1 0 3 ) (va_cwS 3 hg (gd_S wd_959 wd_917 wd_107 wd_918) rfl rfl rfl (by decide +kernel) ⟨Nat.le_of_ble_eq_true rfl, Nat.le_of_ble_eq_true rfl⟩) (Wr_S hPc hKK) rfl rfl hl.1 rfl (lv_room (Nat.le_of_ble_eq_true rfl)) dX11_terms_63 ⟨Nat.le_of_ble_eq_true rfl, Nat.le_of_ble_eq_true rfl⟩) (fun r_53 hw_53 => ?_)
          subst hw_53
          refine lv_if_eq (tgt := 91) hx hb dX11_terms_66 (by decide) (fun c_54 => ?_) (fun c_54 => ?_)
          · refine lv_aload_n hx hb dX11_terms_91 rfl (lv_at hl 2 rfl) ?_
            refine lv_iconst (v := (-1)) hx hb dX11_terms_92 (by decide) ?_
            have hPc := hP.sub (ws' := [(h, .inr (11, [.ref h_0, .ref h_1, .ref h_2, .ref h_3, .ref h_4, .ref h_5, .ref h_6, .ref h_7, .ref h_8, .ref h_9, .ref h_10, .ref h_11, .ref h_12, .int h_13, .int h_14]))]) [0] rfl
            have hDc := hD.sub (ws' := [(h, .inr (11, [.ref h_0, .ref h_1, .ref h_2, .ref h_3, .ref h_4, .ref h_5, .ref h_6, .ref h_7, .ref h_8, .ref h_9, .ref h_10, .ref h_11, .ref h_12, .int h_13, .int h_14]))]) [0] (by decide) rfl
            have hFc := va_free (wc := [(h, .inr (11, [.ref h_0, .ref h_1, .ref h_2, .ref h_3, .ref h_4, .ref h_5, .ref h_6, .ref h_7, .ref h_8, .ref h_9, .ref h_10, .ref h_11, .ref h_12, .int h_13, .int h_14]))]) hD hS hA [0] rfl
            refine va_calli (va_runV (As := [.int (-1)]) (rest := []) ⟨hx, hb, hml, hown, hg⟩ (c_refuse l D ct h (-1) h_0 h_1 h_2 h_3 h_4 h_5 h_6 h_7 h_8 h_9 h_10 h_11 h_12 h_13 h_14 s.heap.size ) (cwV 1 hg (gd_V wd_778 wd_780 wd_3 wd_107 wd_781) rfl rfl rfl (by decide +kernel) ⟨Nat.le_of_ble_eq_true rfl, Nat.le_of_ble_eq_true rfl⟩) (Wd_V hPc hKK hDc (va_recv hK hPc (ci := 11) (q0 := 0) rfl rfl)) rfl rfl hl.1 rfl (lv_room (Nat.le_of_ble_eq_true rfl)) dX11_terms_93 ⟨Nat.le_of_ble_eq_true rfl, Nat.le_of_ble_eq_true rfl⟩) hS (fun q _ h => hFc q h) hFc (fun r_55 u_55 t_55 H1 locs ht_55 hvm_55 hw_55 hB_55 hz_55 hk_55 hS => ?_)
            obtain ⟨hP, hD⟩ := va_join (wr := [(h_7, .inr (7, [.ref h_7_0, .ref h_7_1, .ref h_7_2, .int h_7_3, .int h_7_4, .int h_7_5, .int h_7_6, .int h_7_7, .long h_7_8, .long h_7_9, .int h_7_10, .ref h_7_11, .ref h_7_12, .ref h_7_13])), (h_8, .inr (8, [.ref h_8_0, .ref h_8_1, .ref h_8_2, .ref h_8_3, .ref h_8_4, .ref h_8_5, .ref h_8_6, .ref h_8_7, .int h_8_8, .int h_8_9, .int h_8_10, .int h_8_11, .ref h_8_12, .int h_8_13, .ref h_8_14, .int h_8_15, .int h_8_16]))]) (w1 := []) hP hD [0] [1, 2] rfl rfl (by decide) (by decide) hk_55 hFc (fun k q h => by simp at h) ⟨fun i j p q h => by simp at h, fun k q h => by simp at h⟩
            generalize H1 = H at hP hS ⊢
            have hP : va_P D vwCl [(h_7, .inr (7, [.ref h_7_0, .ref h_7_1, .ref h_7_2, .int h_7_3, .int h_7_4, .int h_7_5, .int h_7_6, .int h_7_7, .long h_7_8, .long h_7_9, .int h_7_10, .ref h_7_11, .ref h_7_12, .ref h_7_13])), (h_8, .inr (8, [.ref h_8_0, .ref h_8_1, .ref h_8_2, .ref h_8_3, .ref h_8_4, .ref h_8_5, .ref h_8_6, .ref h_8_7, .int h_8_8, .int h_8_9, .int h_8_10, .int h_8_11, .ref h_8_12, .int h_8_13, .ref h_8_14, .int h_8_15, .int h_8_16]))] H := hP
            have hD : va_D A [(h_7, .inr (7, [.ref h_7_0, .ref h_7_1, .ref h_7_2, .int h_7_3, .int h_7_4, .int h_7_5, .int h_7_6, .int h_7_7, .long h_7_8, .long h_7_9, .int h_7_10, .ref h_7_11, .ref h_7_12, .ref h_7_13])), (h_8, .inr (8, [.ref h_8_0, .ref h_8_1, .ref h_8_2, .ref h_8_3, .ref h_8_4, .ref h_8_5, .ref h_8_6, .ref h_8_7, .int h_8_8, .int h_8_9, .int h_8_10, .int h_8_11, .ref h_8_12, .int h_8_13, .ref h_8_14, .int h_8_15, .int h_8_16]))] := hD
            subst hw_55
            exact W.iret (v := (-1)) hx hb hr (fun t ht hW => ⟨⟨(-1), (), rfl, (by simp [sp_terms, c_2, c_23, c_44, c_52, c_54]), trivial⟩, hS.F ht⟩) hS.2.2 dX11_terms_96
          · refine lv_iload hx hb dX11_terms_69 (lv_at hl 1 rfl) ?_
            refine lv_if_eq (tgt := 91) hx hb dX11_terms_71 (by decide) (fun h => absurd h (by decide)) (fun _ => ?_)
            refine lv_iload hx hb dX11_terms_74 (lv_at hl 0 rfl) ?_
            refine lv_if_eq (tgt := 91) hx hb dX11_terms_76 (by decide) (fun _ => ?_) (fun h => absurd (by decide) h)
            refine lv_aload_n hx hb dX11_terms_91 rfl (lv_at hl 2 rfl) ?_
            refine lv_iconst (v := (-1)) hx hb dX11_terms_92 (by decide) ?_
            have hPc := hP.sub (ws' := [(h, .inr (11, [.ref h_0, .ref h_1, .ref h_2, .ref h_3, .ref h_4, .ref h_5, .ref h_6, .ref h_7, .ref h_8, .ref h_9, .ref h_10, .ref h_11, .ref h_12, .int h_13, .int h_14]))]) [0] rfl
            have hDc := hD.sub (ws' := [(h, .inr (11, [.ref h_0, .ref h_1, .ref h_2, .ref h_3, .ref h_4, .ref h_5, .ref h_6, .ref h_7, .ref h_8, .ref h_9, .ref h_10, .ref h_11, .ref h_12, .int h_13, .int h_14]))]) [0] (by decide) rfl
            have hFc := va_free (wc := [(h, .inr (11, [.ref h_0, .ref h_1, .ref h_2, .ref h_3, .ref h_4, .ref h_5, .ref h_6, .ref h_7, .ref h_8, .ref h_9, .ref h_10, .ref h_11, .ref h_12, .int h_13, .int h_14]))]) hD hS hA [0] rfl
            refine va_calli (va_runV (As := [.int (-1)]) (rest := []) ⟨hx, hb, hml, hown, hg⟩ (c_refuse l D ct h (-1) h_0 h_1 h_2 h_3 h_4 h_5 h_6 h_7 h_8 h_9 h_10 h_11 h_12 h_13 h_14 s.heap.size ) (cwV 1 hg (gd_V wd_778 wd_780 wd_3 wd_107 wd_781) rfl rfl rfl (by decide +kernel) ⟨Nat.le_of_ble_eq_true rfl, Nat.le_of_ble_eq_true rfl⟩) (Wd_V hPc hKK hDc (va_recv hK hPc (ci := 11) (q0 := 0) rfl rfl)) rfl rfl hl.1 rfl (lv_room (Nat.le_of_ble_eq_true rfl)) dX11_terms_93 ⟨Nat.le_of_ble_eq_true rfl, Nat.le_of_ble_eq_true rfl⟩) hS (fun q _ h => hFc q h) hFc (fun r_58 u_58 t_58 H1 locs ht_58 hvm_58 hw_58 hB_58 hz_58 hk_58 hS => ?_)
            obtain ⟨hP, hD⟩ := va_join (wr := [(h_7, .inr (7, [.ref h_7_0, .ref h_7_1, .ref h_7_2, .int h_7_3, .int h_7_4, .int h_7_5, .int h_7_6, .int h_7_7, .long h_7_8, .long h_7_9, .int h_7_10, .ref h_7_11, .ref h_7_12, .ref h_7_13])), (h_8, .inr (8, [.ref h_8_0, .ref h_8_1, .ref h_8_2, .ref h_8_3, .ref h_8_4, .ref h_8_5, .ref h_8_6, .ref h_8_7, .int h_8_8, .int h_8_9, .int h_8_10, .int h_8_11, .ref h_8_12, .int h_8_13, .ref h_8_14, .int h_8_15, .int h_8_16]))]) (w1 := []) hP hD [0] [1, 2] rfl rfl (by decide) (by decide) hk_58 hFc (fun k q h => by simp at h) ⟨fun i j p q h => by simp at h, fun k q h => by simp at h⟩
            generalize H1 = H at hP hS ⊢
            have hP : va_P D vwCl [(h_7, .inr (7, [.ref h_7_0, .ref h_7_1, .ref h_7_2, .int h_7_3, .int h_7_4, .int h_7_5, .int h_7_6, .int h_7_7, .long h_7_8, .long h_7_9, .int h_7_10, .ref h_7_11, .ref h_7_12, .ref h_7_13])), (h_8, .inr (8, [.ref h_8_0, .ref h_8_1, .ref h_8_2, .ref h_8_3, .ref h_8_4, .ref h_8_5, .ref h_8_6, .ref h_8_7, .int h_8_8, .int h_8_9, .int h_8_10, .int h_8_11, .ref h_8_12, .int h_8_13, .ref h_8_14, .int h_8_15, .int h_8_16]))] H := hP
            have hD : va_D A [(h_7, .inr (7, [.ref h_7_0, .ref h_7_1, .ref h_7_2, .int h_7_3, .int h_7_4, .int h_7_5, .int h_7_6, .int h_7_7, .long h_7_8, .long h_7_9, .int h_7_10, .ref h_7_11, .ref h_7_12, .ref h_7_13])), (h_8, .inr (8, [.ref h_8_0, .ref h_8_1, .ref h_8_2, .ref h_8_3, .ref h_8_4, .ref h_8_5, .ref h_8_6, .ref h_8_7, .int h_8_8, .int h_8_9, .int h_8_10, .int h_8_11, .ref h_8_12, .int h_8_13, .ref h_8_14, .int h_8_15, .int h_8_16]))] := hD
            subst hw_58
            exact W.iret (v := (-1)) hx hb hr (fun t ht hW => ⟨⟨(-1), (), rfl, (by simp [sp_terms, c_2, c_23, c_44, c_52, c_54]), trivial⟩, hS.F ht⟩) hS.2.2 dX11_terms_96
        · refine lv_iconst (v := 1) hx hb dX11_terms_53 (by decide) ?_
          refine lv_goto (tgt := 58) hx hb dX11_terms_54 (by decide) ?_
          refine lv_istore (lv' := [(8, .int 1), (7, .int 1), (0, .ref h), (1, .int a1), (2, .int a2), (3, .int a3), (4, .int a4), (5, .int a5), (6, .int a6)]) hx hb dX11_terms_58 hl (by decide) rfl (fun ls hl => ?_)
          refine lv_iload_n hx hb dX11_terms_60 rfl (lv_at hl 3 rfl) ?_
          refine lv_iconst (v := 0) hx hb dX11_terms_61 (by decide) ?_
          refine lv_iconst (v := 3) hx hb dX11_terms_62 (by decide) ?_
          have hPc := hP.sub (ws' := []) [] rfl
          refine z_calli (va_runS (As := [.int a1, .int 0, .int 3]) (rest := []) ⟨hx, hb, hml, hown, hg⟩ (c_within l D ct a1 0 3 ) (va_cwS 3 hg (gd_S wd_959 wd_917 wd_107 wd_918) rfl rfl rfl (by decide +kernel) ⟨Nat.le_of_ble_eq_true rfl, Nat.le_of_ble_eq_true rfl⟩) (Wr_S hPc hKK) rfl rfl hl.1 rfl (lv_room (Nat.le_of_ble_eq_true rfl)) dX11_terms_63 ⟨Nat.le_of_ble_eq_true rfl, Nat.le_of_ble_eq_true rfl⟩) (fun r_59 hw_59 => ?_)
          subst hw_59
          refine lv_if_eq (tgt := 91) hx hb dX11_terms_66 (by decide) (fun c_60 => ?_) (fun c_60 => ?_)
          · refine lv_aload_n hx hb dX11_terms_91 rfl (lv_at hl 2 rfl) ?_
            refine lv_iconst (v := (-1)) hx hb dX11_terms_92 (by decide) ?_
            have hPc := hP.sub (ws' := [(h, .inr (11, [.ref h_0, .ref h_1, .ref h_2, .ref h_3, .ref h_4, .ref h_5, .ref h_6, .ref h_7, .ref h_8, .ref h_9, .ref h_10, .ref h_11, .ref h_12, .int h_13, .int h_14]))]) [0] rfl
            have hDc := hD.sub (ws' := [(h, .inr (11, [.ref h_0, .ref h_1, .ref h_2, .ref h_3, .ref h_4, .ref h_5, .ref h_6, .ref h_7, .ref h_8, .ref h_9, .ref h_10, .ref h_11, .ref h_12, .int h_13, .int h_14]))]) [0] (by decide) rfl
            have hFc := va_free (wc := [(h, .inr (11, [.ref h_0, .ref h_1, .ref h_2, .ref h_3, .ref h_4, .ref h_5, .ref h_6, .ref h_7, .ref h_8, .ref h_9, .ref h_10, .ref h_11, .ref h_12, .int h_13, .int h_14]))]) hD hS hA [0] rfl
            refine va_calli (va_runV (As := [.int (-1)]) (rest := []) ⟨hx, hb, hml, hown, hg⟩ (c_refuse l D ct h (-1) h_0 h_1 h_2 h_3 h_4 h_5 h_6 h_7 h_8 h_9 h_10 h_11 h_12 h_13 h_14 s.heap.size ) (cwV 1 hg (gd_V wd_778 wd_780 wd_3 wd_107 wd_781) rfl rfl rfl (by decide +kernel) ⟨Nat.le_of_ble_eq_true rfl, Nat.le_of_ble_eq_true rfl⟩) (Wd_V hPc hKK hDc (va_recv hK hPc (ci := 11) (q0 := 0) rfl rfl)) rfl rfl hl.1 rfl (lv_room (Nat.le_of_ble_eq_true rfl)) dX11_terms_93 ⟨Nat.le_of_ble_eq_true rfl, Nat.le_of_ble_eq_true rfl⟩) hS (fun q _ h => hFc q h) hFc (fun r_61 u_61 t_61 H1 locs ht_61 hvm_61 hw_61 hB_61 hz_61 hk_61 hS => ?_)
            obtain ⟨hP, hD⟩ := va_join (wr := [(h_7, .inr (7, [.ref h_7_0, .ref h_7_1, .ref h_7_2, .int h_7_3, .int h_7_4, .int h_7_5, .int h_7_6, .int h_7_7, .long h_7_8, .long h_7_9, .int h_7_10, .ref h_7_11, .ref h_7_12, .ref h_7_13])), (h_8, .inr (8, [.ref h_8_0, .ref h_8_1, .ref h_8_2, .ref h_8_3, .ref h_8_4, .ref h_8_5, .ref h_8_6, .ref h_8_7, .int h_8_8, .int h_8_9, .int h_8_10, .int h_8_11, .ref h_8_12, .int h_8_13, .ref h_8_14, .int h_8_15, .int h_8_16]))]) (w1 := []) hP hD [0] [1, 2] rfl rfl (by decide) (by decide) hk_61 hFc (fun k q h => by simp at h) ⟨fun i j p q h => by simp at h, fun k q h => by simp at h⟩
            generalize H1 = H at hP hS ⊢
            have hP : va_P D vwCl [(h_7, .inr (7, [.ref h_7_0, .ref h_7_1, .ref h_7_2, .int h_7_3, .int h_7_4, .int h_7_5, .int h_7_6, .int h_7_7, .long h_7_8, .long h_7_9, .int h_7_10, .ref h_7_11, .ref h_7_12, .ref h_7_13])), (h_8, .inr (8, [.ref h_8_0, .ref h_8_1, .ref h_8_2, .ref h_8_3, .ref h_8_4, .ref h_8_5, .ref h_8_6, .ref h_8_7, .int h_8_8, .int h_8_9, .int h_8_10, .int h_8_11, .ref h_8_12, .int h_8_13, .ref h_8_14, .int h_8_15, .int h_8_16]))] H := hP
            have hD : va_D A [(h_7, .inr (7, [.ref h_7_0, .ref h_7_1, .ref h_7_2, .int h_7_3, .int h_7_4, .int h_7_5, .int h_7_6, .int h_7_7, .long h_7_8, .long h_7_9, .int h_7_10, .ref h_7_11, .ref h_7_12, .ref h_7_13])), (h_8, .inr (8, [.ref h_8_0, .ref h_8_1, .ref h_8_2, .ref h_8_3, .ref h_8_4, .ref h_8_5, .ref h_8_6, .ref h_8_7, .int h_8_8, .int h_8_9, .int h_8_10, .int h_8_11, .ref h_8_12, .int h_8_13, .ref h_8_14, .int h_8_15, .int h_8_16]))] := hD
            subst hw_61
            exact W.iret (v := (-1)) hx hb hr (fun t ht hW => ⟨⟨(-1), (), rfl, (by simp [sp_terms, c_2, c_23, c_44, c_52, c_60]), trivial⟩, hS.F ht⟩) hS.2.2 dX11_terms_96
          · refine lv_iload hx hb dX11_terms_69 (lv_at hl 1 rfl) ?_
            refine lv_if_eq (tgt := 91) hx hb dX11_terms_71 (by decide) (fun h => absurd h (by decide)) (fun _ => ?_)
            refine lv_iload hx hb dX11_terms_74 (lv_at hl 0 rfl) ?_
            refine lv_if_eq (tgt := 91) hx hb dX11_terms_76 (by decide) (fun h => absurd h (by decide)) (fun _ => ?_)
            refine lv_iload hx hb dX11_terms_79 (lv_at hl 8 rfl) ?_
            refine lv_iconst (v := 0) hx hb dX11_terms_81 (by decide) ?_
            refine lv_sipush (v := 255) hx hb dX11_terms_82 (by decide) ?_
            have hPc := hP.sub (ws' := []) [] rfl
            refine z_calli (va_runS (As := [.int a6, .int 0, .int 255]) (rest := []) ⟨hx, hb, hml, hown, hg⟩ (c_within l D ct a6 0 255 ) (va_cwS 3 hg (gd_S wd_959 wd_917 wd_107 wd_918) rfl rfl rfl (by decide +kernel) ⟨Nat.le_of_ble_eq_true rfl, Nat.le_of_ble_eq_true rfl⟩) (Wr_S hPc hKK) rfl rfl hl.1 rfl (lv_room (Nat.le_of_ble_eq_true rfl)) dX11_terms_85 ⟨Nat.le_of_ble_eq_true rfl, Nat.le_of_ble_eq_true rfl⟩) (fun r_64 hw_64 => ?_)
            subst hw_64
            refine lv_if_ne (tgt := 97) hx hb dX11_terms_88 (by decide) (fun c_65 => ?_) (fun c_65 => ?_)
            · refine lv_aload_n hx hb dX11_terms_97 rfl (lv_at hl 2 rfl) ?_
              refine va_get (D := D) (ci := 11) (v := .ref h_7) (C := RX11) (T := TX11) (N := 15) hx hb hg inX11 hown hK hP 0 rfl rfl 7 (by decide) (hg _ wd_690) (fun _ h9 => h9) rfl dX11_terms_98 ?_
              refine lv_iload_n hx hb dX11_terms_101 rfl (lv_at hl 3 rfl) ?_
              refine va_put (D := D) (ci := 7) (v := .int a1) (ty := .int) (C := RX7) (T := TX7) (N := 14) hx hb hg inX7 tyX7 tyX7_ok nmX7 hown hK hP hD hS 1 rfl rfl 3 (by decide) (hg _ wd_372) (fun _ h9 => h9) rfl (by decide +kernel) rfl rfl (Nat.le_of_ble_eq_true rfl) dX11_terms_102 (fun H locs hP hD hS => ?_)
              have hP : va_P D vwCl [(h, .inr (11, [.ref h_0, .ref h_1, .ref h_2, .ref h_3, .ref h_4, .ref h_5, .ref h_6, .ref h_7, .ref h_8, .ref h_9, .ref h_10, .ref h_11, .ref h_12, .int h_13, .int h_14])), (h_7, .inr (7, [.ref h_7_0, .ref h_7_1, .ref h_7_2, .int a1, .int h_7_4, .int h_7_5, .int h_7_6, .int h_7_7, .long h_7_8, .long h_7_9, .int h_7_10, .ref h_7_11, .ref h_7_12, .ref h_7_13])), (h_8, .inr (8, [.ref h_8_0, .ref h_8_1, .ref h_8_2, .ref h_8_3, .ref h_8_4, .ref h_8_5, .ref h_8_6, .ref h_8_7, .int h_8_8, .int h_8_9, .int h_8_10, .int h_8_11, .ref h_8_12, .int h_8_13, .ref h_8_14, .int h_8_15, .int h_8_16]))] H := hP
              have hD : va_D A [(h, .inr (11, [.ref h_0, .ref h_1, .ref h_2, .ref h_3, .ref h_4, .ref h_5, .ref h_6, .ref h_7, .ref h_8, .ref h_9, .ref h_10, .ref h_11, .ref h_12, .int h_13, .int h_14])), (h_7, .inr (7, [.ref h_7_0, .ref h_7_1, .ref h_7_2, .int a1, .int h_7_4, .int h_7_5, .int h_7_6, .int h_7_7, .long h_7_8, .long h_7_9, .int h_7_10, .ref h_7_11, .ref h_7_12, .ref h_7_13])), (h_8, .inr (8, [.ref h_8_0, .ref h_8_1, .ref h_8_2, .ref h_8_3, .ref h_8_4, .ref h_8_5, .ref h_8_6, .ref h_8_7, .int h_8_8, .int h_8_9, .int h_8_10, .int h_8_11, .ref h_8_12, .int h_8_13, .ref h_8_14, .int h_8_15, .int h_8_16]))] := hD
              refine lv_aload_n hx hb dX11_terms_105 rfl (lv_at hl 2 rfl) ?_
              refine va_get (D := D) (ci := 11) (v := .ref h_7) (C := RX11) (T := TX11) (N := 15) hx hb hg inX11 hown hK hP 0 rfl rfl 7 (by decide) (hg _ wd_690) (fun _ h9 => h9) rfl dX11_terms_106 ?_
              refine lv_iload_n hx hb dX11_terms_109 rfl (lv_at hl 4 rfl) ?_
              refine va_put (D := D) (ci := 7) (v := .int a2) (ty := .int) (C := RX7) (T := TX7) (N := 14) hx hb hg inX7 tyX7 tyX7_ok nmX7 hown hK hP hD hS 1 rfl rfl 4 (by decide) (hg _ wd_374) (fun _ h9 => h9) rfl (by decide +kernel) rfl rfl (Nat.le_of_ble_eq_true rfl) dX11_terms_110 (fun H locs hP hD hS => ?_)
              have hP : va_P D vwCl [(h, .inr (11, [.ref h_0, .ref h_1, .ref h_2, .ref h_3, .ref h_4, .ref h_5, .ref h_6, .ref h_7, .ref h_8, .ref h_9, .ref h_10, .ref h_11, .ref h_12, .int h_13, .int h_14])), (h_7, .inr (7, [.ref h_7_0, .ref h_7_1, .ref h_7_2, .int a1, .int a2, .int h_7_5, .int h_7_6, .int h_7_7, .long h_7_8, .long h_7_9, .int h_7_10, .ref h_7_11, .ref h_7_12, .ref h_7_13])), (h_8, .inr (8, [.ref h_8_0, .ref h_8_1, .ref h_8_2, .ref h_8_3, .ref h_8_4, .ref h_8_5, .ref h_8_6, .ref h_8_7, .int h_8_8, .int h_8_9, .int h_8_10, .int h_8_11, .ref h_8_12, .int h_8_13, .ref h_8_14, .int h_8_15, .int h_8_16]))] H := hP
              have hD : va_D A [(h, .inr (11, [.ref h_0, .ref h_1, .ref h_2, .ref h_3, .ref h_4, .ref h_5, .ref h_6, .ref h_7, .ref h_8, .ref h_9, .ref h_10, .ref h_11, .ref h_12, .int h_13, .int h_14])), (h_7, .inr (7, [.ref h_7_0, .ref h_7_1, .ref h_7_2, .int a1, .int a2, .int h_7_5, .int h_7_6, .int h_7_7, .long h_7_8, .long h_7_9, .int h_7_10, .ref h_7_11, .ref h_7_12, .ref h_7_13])), (h_8, .inr (8, [.ref h_8_0, .ref h_8_1, .ref h_8_2, .ref h_8_3, .ref h_8_4, .ref h_8_5, .ref h_8_6, .ref h_8_7, .int h_8_8, .int h_8_9, .int h_8_10, .int h_8_11, .ref h_8_12, .int h_8_13, .ref h_8_14, .int h_8_15, .int h_8_16]))] := hD
              refine lv_aload_n hx hb dX11_terms_113 rfl (lv_at hl 2 rfl) ?_
              refine va_get (D := D) (ci := 11) (v := .ref h_7) (C := RX11) (T := TX11) (N := 15) hx hb hg inX11 hown hK hP 0 rfl rfl 7 (by decide) (hg _ wd_690) (fun _ h9 => h9) rfl dX11_terms_114 ?_
              refine lv_iload_n hx hb dX11_terms_117 rfl (lv_at hl 5 rfl) ?_
              refine va_put (D := D) (ci := 7) (v := .int a3) (ty := .int) (C := RX7) (T := TX7) (N := 14) hx hb hg inX7 tyX7 tyX7_ok nmX7 hown hK hP hD hS 1 rfl rfl 5 (by decide) (hg _ wd_376) (fun _ h9 => h9) rfl (by decide +kernel) rfl rfl (Nat.le_of_ble_eq_true rfl) dX11_terms_118 (fun H locs hP hD hS => ?_)
              have hP : va_P D vwCl [(h, .inr (11, [.ref h_0, .ref h_1, .ref h_2, .ref h_3, .ref h_4, .ref h_5, .ref h_6, .ref h_7, .ref h_8, .ref h_9, .ref h_10, .ref h_11, .ref h_12, .int h_13, .int h_14])), (h_7, .inr (7, [.ref h_7_0, .ref h_7_1, .ref h_7_2, .int a1, .int a2, .int a3, .int h_7_6, .int h_7_7, .long h_7_8, .long h_7_9, .int h_7_10, .ref h_7_11, .ref h_7_12, .ref h_7_13])), (h_8, .inr (8, [.ref h_8_0, .ref h_8_1, .ref h_8_2, .ref h_8_3, .ref h_8_4, .ref h_8_5, .ref h_8_6, .ref h_8_7, .int h_8_8, .int h_8_9, .int h_8_10, .int h_8_11, .ref h_8_12, .int h_8_13, .ref h_8_14, .int h_8_15, .int h_8_16]))] H := hP
              have hD : va_D A [(h, .inr (11, [.ref h_0, .ref h_1, .ref h_2, .ref h_3, .ref h_4, .ref h_5, .ref h_6, .ref h_7, .ref h_8, .ref h_9, .ref h_10, .ref h_11, .ref h_12, .int h_13, .int h_14])), (h_7, .inr (7, [.ref h_7_0, .ref h_7_1, .ref h_7_2, .int a1, .int a2, .int a3, .int h_7_6, .int h_7_7, .long h_7_8, .long h_7_9, .int h_7_10, .ref h_7_11, .ref h_7_12, .ref h_7_13])), (h_8, .inr (8, [.ref h_8_0, .ref h_8_1, .ref h_8_2, .ref h_8_3, .ref h_8_4, .ref h_8_5, .ref h_8_6, .ref h_8_7, .int h_8_8, .int h_8_9, .int h_8_10, .int h_8_11, .ref h_8_12, .int h_8_13, .ref h_8_14, .int h_8_15, .int h_8_16]))] := hD
              refine lv_aload_n hx hb dX11_terms_121 rfl (lv_at hl 2 rfl) ?_
              refine va_get (D := D) (ci := 11) (v := .ref h_7) (C := RX11) (T := TX11) (N := 15) hx hb hg inX11 hown hK hP 0 rfl rfl 7 (by decide) (hg _ wd_690) (fun _ h9 => h9) rfl dX11_terms_122 ?_
              refine lv_iload hx hb dX11_terms_125 (lv_at hl 6 rfl) ?_
              refine va_put (D := D) (ci := 7) (v := .int a4) (ty := .int) (C := RX7) (T := TX7) (N := 14) hx hb hg inX7 tyX7 tyX7_ok nmX7 hown hK hP hD hS 1 rfl rfl 6 (by decide) (hg _ wd_378) (fun _ h9 => h9) rfl (by decide +kernel) rfl rfl (Nat.le_of_ble_eq_true rfl) dX11_terms_127 (fun H locs hP hD hS => ?_)
              have hP : va_P D vwCl [(h, .inr (11, [.ref h_0, .ref h_1, .ref h_2, .ref h_3, .ref h_4, .ref h_5, .ref h_6, .ref h_7, .ref h_8, .ref h_9, .ref h_10, .ref h_11, .ref h_12, .int h_13, .int h_14])), (h_7, .inr (7, [.ref h_7_0, .ref h_7_1, .ref h_7_2, .int a1, .int a2, .int a3, .int a4, .int h_7_7, .long h_7_8, .long h_7_9, .int h_7_10, .ref h_7_11, .ref h_7_12, .ref h_7_13])), (h_8, .inr (8, [.ref h_8_0, .ref h_8_1, .ref h_8_2, .ref h_8_3, .ref h_8_4, .ref h_8_5, .ref h_8_6, .ref h_8_7, .int h_8_8, .int h_8_9, .int h_8_10, .int h_8_11, .ref h_8_12, .int h_8_13, .ref h_8_14, .int h_8_15, .int h_8_16]))] H := hP
              have hD : va_D A [(h, .inr (11, [.ref h_0, .ref h_1, .ref h_2, .ref h_3, .ref h_4, .ref h_5, .ref h_6, .ref h_7, .ref h_8, .ref h_9, .ref h_10, .ref h_11, .ref h_12, .int h_13, .int h_14])), (h_7, .inr (7, [.ref h_7_0, .ref h_7_1, .ref h_7_2, .int a1, .int a2, .int a3, .int a4, .int h_7_7, .long h_7_8, .long h_7_9, .int h_7_10, .ref h_7_11, .ref h_7_12, .ref h_7_13])), (h_8, .inr (8, [.ref h_8_0, .ref h_8_1, .ref h_8_2, .ref h_8_3, .ref h_8_4, .ref h_8_5, .ref h_8_6, .ref h_8_7, .int h_8_8, .int h_8_9, .int h_8_10, .int h_8_11, .ref h_8_12, .int h_8_13, .ref h_8_14, .int h_8_15, .int h_8_16]))] := hD
              refine lv_aload_n hx hb dX11_terms_130 rfl (lv_at hl 2 rfl) ?_
              refine va_get (D := D) (ci := 11) (v := .ref h_7) (C := RX11) (T := TX11) (N := 15) hx hb hg inX11 hown hK hP 0 rfl rfl 7 (by decide) (hg _ wd_690) (fun _ h9 => h9) rfl dX11_terms_131 ?_
              refine lv_iload hx hb dX11_terms_134 (lv_at hl 7 rfl) ?_
              refine va_put (D := D) (ci := 7) (v := .int a5) (ty := .int) (C := RX7) (T := TX7) (N := 14) hx hb hg inX7 tyX7 tyX7_ok nmX7 hown hK hP hD hS 1 rfl rfl 7 (by decide) (hg _ wd_380) (fun _ h9 => h9) rfl (by decide +kernel) rfl rfl (Nat.le_of_ble_eq_true rfl) dX11_terms_136 (fun H locs hP hD hS => ?_)
              have hP : va_P D vwCl [(h, .inr (11, [.ref h_0, .ref h_1, .ref h_2, .ref h_3, .ref h_4, .ref h_5, .ref h_6, .ref h_7, .ref h_8, .ref h_9, .ref h_10, .ref h_11, .ref h_12, .int h_13, .int h_14])), (h_7, .inr (7, [.ref h_7_0, .ref h_7_1, .ref h_7_2, .int a1, .int a2, .int a3, .int a4, .int a5, .long h_7_8, .long h_7_9, .int h_7_10, .ref h_7_11, .ref h_7_12, .ref h_7_13])), (h_8, .inr (8, [.ref h_8_0, .ref h_8_1, .ref h_8_2, .ref h_8_3, .ref h_8_4, .ref h_8_5, .ref h_8_6, .ref h_8_7, .int h_8_8, .int h_8_9, .int h_8_10, .int h_8_11, .ref h_8_12, .int h_8_13, .ref h_8_14, .int h_8_15, .int h_8_16]))] H := hP
              have hD : va_D A [(h, .inr (11, [.ref h_0, .ref h_1, .ref h_2, .ref h_3, .ref h_4, .ref h_5, .ref h_6, .ref h_7, .ref h_8, .ref h_9, .ref h_10, .ref h_11, .ref h_12, .int h_13, .int h_14])), (h_7, .inr (7, [.ref h_7_0, .ref h_7_1, .ref h_7_2, .int a1, .int a2, .int a3, .int a4, .int a5, .long h_7_8, .long h_7_9, .int h_7_10, .ref h_7_11, .ref h_7_12, .ref h_7_13])), (h_8, .inr (8, [.ref h_8_0, .ref h_8_1, .ref h_8_2, .ref h_8_3, .ref h_8_4, .ref h_8_5, .ref h_8_6, .ref h_8_7, .int h_8_8, .int h_8_9, .int h_8_10, .int h_8_11, .ref h_8_12, .int h_8_13, .ref h_8_14, .int h_8_15, .int h_8_16]))] := hD
              refine lv_aload_n hx hb dX11_terms_139 rfl (lv_at hl 2 rfl) ?_
              refine va_get (D := D) (ci := 11) (v := .ref h_8) (C := RX11) (T := TX11) (N := 15) hx hb hg inX11 hown hK hP 0 rfl rfl 8 (by decide) (hg _ wd_691) (fun _ h9 => h9) rfl dX11_terms_140 ?_
              refine lv_iload hx hb dX11_terms_143 (lv_at hl 8 rfl) ?_
              refine va_put (D := D) (ci := 8) (v := .int a6) (ty := .int) (C := RX8) (T := TX8) (N := 17) hx hb hg inX8 tyX8 tyX8_ok nmX8 hown hK hP hD hS 2 rfl rfl 13 (by decide) (hg _ wd_442) (fun _ h9 => h9) rfl (by decide +kernel) rfl rfl (Nat.le_of_ble_eq_true rfl) dX11_terms_145 (fun H locs hP hD hS => ?_)
              have hP : va_P D vwCl [(h, .inr (11, [.ref h_0, .ref h_1, .ref h_2, .ref h_3, .ref h_4, .ref h_5, .ref h_6, .ref h_7, .ref h_8, .ref h_9, .ref h_10, .ref h_11, .ref h_12, .int h_13, .int h_14])), (h_7, .inr (7, [.ref h_7_0, .ref h_7_1, .ref h_7_2, .int a1, .int a2, .int a3, .int a4, .int a5, .long h_7_8, .long h_7_9, .int h_7_10, .ref h_7_11, .ref h_7_12, .ref h_7_13])), (h_8, .inr (8, [.ref h_8_0, .ref h_8_1, .ref h_8_2, .ref h_8_3, .ref h_8_4, .ref h_8_5, .ref h_8_6, .ref h_8_7, .int h_8_8, .int h_8_9, .int h_8_10, .int h_8_11, .ref h_8_12, .int a6, .ref h_8_14, .int h_8_15, .int h_8_16]))] H := hP
              have hD : va_D A [(h, .inr (11, [.ref h_0, .ref h_1, .ref h_2, .ref h_3, .ref h_4, .ref h_5, .ref h_6, .ref h_7, .ref h_8, .ref h_9, .ref h_10, .ref h_11, .ref h_12, .int h_13, .int h_14])), (h_7, .inr (7, [.ref h_7_0, .ref h_7_1, .ref h_7_2, .int a1, .int a2, .int a3, .int a4, .int a5, .long h_7_8, .long h_7_9, .int h_7_10, .ref h_7_11, .ref h_7_12, .ref h_7_13])), (h_8, .inr (8, [.ref h_8_0, .ref h_8_1, .ref h_8_2, .ref h_8_3, .ref h_8_4, .ref h_8_5, .ref h_8_6, .ref h_8_7, .int h_8_8, .int h_8_9, .int h_8_10, .int h_8_11, .ref h_8_12, .int a6, .ref h_8_14, .int h_8_15, .int h_8_16]))] := hD
              refine lv_aload_n hx hb dX11_terms_148 rfl (lv_at hl 2 rfl) ?_
              refine va_get (D := D) (ci := 11) (v := .ref h_8) (C := RX11) (T := TX11) (N := 15) hx hb hg inX11 hown hK hP 0 rfl rfl 8 (by decide) (hg _ wd_691) (fun _ h9 => h9) rfl dX11_terms_149 ?_
              have hPc := hP.sub (ws' := [(h_8, .inr (8, [.ref h_8_0, .ref h_8_1, .ref h_8_2, .ref h_8_3, .ref h_8_4, .ref h_8_5, .ref h_8_6, .ref h_8_7, .int h_8_8, .int h_8_9, .int h_8_10, .int h_8_11, .ref h_8_12, .int a6, .ref h_8_14, .int h_8_15, .int h_8_16]))]) [2] rfl
              have hDc := hD.sub (ws' := [(h_8, .inr (8, [.ref h_8_0, .ref h_8_1, .ref h_8_2, .ref h_8_3, .ref h_8_4, .ref h_8_5, .ref h_8_6, .ref h_8_7, .int h_8_8, .int h_8_9, .int h_8_10, .int h_8_11, .ref h_8_12, .int a6, .ref h_8_14, .int h_8_15, .int h_8_16]))]) [2] (by decide) rfl
              have hFc := va_free (wc := [(h_8, .inr (8, [.ref h_8_0, .ref h_8_1, .ref h_8_2, .ref h_8_3, .ref h_8_4, .ref h_8_5, .ref h_8_6, .ref h_8_7, .int h_8_8, .int h_8_9, .int h_8_10, .int h_8_11, .ref h_8_12, .int a6, .ref h_8_14, .int h_8_15, .int h_8_16]))]) hD hS hA [2] rfl
              refine va_callv (va_runV (As := []) (rest := []) ⟨hx, hb, hml, hown, hg⟩ (c_forget l D ct h_8 h_8_0 h_8_1 h_8_2 h_8_3 h_8_4 h_8_5 h_8_6 h_8_7 h_8_8 h_8_9 h_8_10 h_8_11 h_8_12 a6 h_8_14 h_8_15 h_8_16 H.size ) (cwV 0 hg (gd_V wd_801 wd_802 wd_803 wd_114 wd_804) rfl rfl rfl (by decide +kernel) ⟨Nat.le_of_ble_eq_true rfl, Nat.le_of_ble_eq_true rfl⟩) (Wd_V hPc hKK hDc (va_recv hK hPc (ci := 8) (q0 := 0) rfl rfl)) rfl rfl hl.1 rfl (lv_room (Nat.le_of_ble_eq_true rfl)) dX11_terms_152 ⟨Nat.le_of_ble_eq_true rfl, Nat.le_of_ble_eq_true rfl⟩) hS (fun q _ h => hFc q h) hFc (fun u_66 t_66 H1 locs ht_66 hvm_66 hw_66 hB_66 hz_66 hk_66 hS => ?_)
              obtain ⟨hP, hD⟩ := va_join (wr := [(h, .inr (11, [.ref h_0, .ref h_1, .ref h_2, .ref h_3, .ref h_4, .ref h_5, .ref h_6, .ref h_7, .ref h_8, .ref h_9, .ref h_10, .ref h_11, .ref h_12, .int h_13, .int h_14])), (h_7, .inr (7, [.ref h_7_0, .ref h_7_1, .ref h_7_2, .int a1, .int a2, .int a3, .int a4, .int a5, .long h_7_8, .long h_7_9, .int h_7_10, .ref h_7_11, .ref h_7_12, .ref h_7_13]))]) (w1 := []) hP hD [2] [0, 1] rfl rfl (by decide) (by decide) hk_66 hFc (fun k q h => by simp at h) ⟨fun i j p q h => by simp at h, fun k q h => by simp at h⟩
              generalize H1 = H at hP hS ⊢
              have hP : va_P D vwCl [(h, .inr (11, [.ref h_0, .ref h_1, .ref h_2, .ref h_3, .ref h_4, .ref h_5, .ref h_6, .ref h_7, .ref h_8, .ref h_9, .ref h_10, .ref h_11, .ref h_12, .int h_13, .int h_14])), (h_7, .inr (7, [.ref h_7_0, .ref h_7_1, .ref h_7_2, .int a1, .int a2, .int a3, .int a4, .int a5, .long h_7_8, .long h_7_9, .int h_7_10, .ref h_7_11, .ref h_7_12, .ref h_7_13]))] H := hP
              have hD : va_D A [(h, .inr (11, [.ref h_0, .ref h_1, .ref h_2, .ref h_3, .ref h_4, .ref h_5, .ref h_6, .ref h_7, .ref h_8, .ref h_9, .ref h_10, .ref h_11, .ref h_12, .int h_13, .int h_14])), (h_7, .inr (7, [.ref h_7_0, .ref h_7_1, .ref h_7_2, .int a1, .int a2, .int a3, .int a4, .int a5, .long h_7_8, .long h_7_9, .int h_7_10, .ref h_7_11, .ref h_7_12, .ref h_7_13]))] := hD
              refine lv_aload_n hx hb dX11_terms_155 rfl (lv_at hl 2 rfl) ?_
              refine lv_iconst (v := 0) hx hb dX11_terms_156 (by decide) ?_
              have hPc := hP.sub (ws' := [(h, .inr (11, [.ref h_0, .ref h_1, .ref h_2, .ref h_3, .ref h_4, .ref h_5, .ref h_6, .ref h_7, .ref h_8, .ref h_9, .ref h_10, .ref h_11, .ref h_12, .int h_13, .int h_14]))]) [0] rfl
              have hDc := hD.sub (ws' := [(h, .inr (11, [.ref h_0, .ref h_1, .ref h_2, .ref h_3, .ref h_4, .ref h_5, .ref h_6, .ref h_7, .ref h_8, .ref h_9, .ref h_10, .ref h_11, .ref h_12, .int h_13, .int h_14]))]) [0] (by decide) rfl
              have hFc := va_free (wc := [(h, .inr (11, [.ref h_0, .ref h_1, .ref h_2, .ref h_3, .ref h_4, .ref h_5, .ref h_6, .ref h_7, .ref h_8, .ref h_9, .ref h_10, .ref h_11, .ref h_12, .int h_13, .int h_14]))]) hD hS hA [0] rfl
              refine va_calli (va_runV (As := [.int 0]) (rest := []) ⟨hx, hb, hml, hown, hg⟩ (c_accept l D ct h 0 h_0 h_1 h_2 h_3 h_4 h_5 h_6 h_7 h_8 h_9 h_10 h_11 h_12 h_13 h_14 H.size ) (cwV 1 hg (gd_V wd_805 wd_807 wd_5 wd_107 wd_808) rfl rfl rfl (by decide +kernel) ⟨Nat.le_of_ble_eq_true rfl, Nat.le_of_ble_eq_true rfl⟩) (Wd_V hPc hKK hDc (va_recv hK hPc (ci := 11) (q0 := 0) rfl rfl)) rfl rfl hl.1 rfl (lv_room (Nat.le_of_ble_eq_true rfl)) dX11_terms_157 ⟨Nat.le_of_ble_eq_true rfl, Nat.le_of_ble_eq_true rfl⟩) hS (fun q _ h => hFc q h) hFc (fun r_67 u_67 t_67 H1 locs ht_67 hvm_67 hw_67 hB_67 hz_67 hk_67 hS => ?_)
              obtain ⟨hP, hD⟩ := va_join (wr := [(h_7, .inr (7, [.ref h_7_0, .ref h_7_1, .ref h_7_2, .int a1, .int a2, .int a3, .int a4, .int a5, .long h_7_8, .long h_7_9, .int h_7_10, .ref h_7_11, .ref h_7_12, .ref h_7_13]))]) (w1 := []) hP hD [0] [1] rfl rfl (by decide) (by decide) hk_67 hFc (fun k q h => by simp at h) ⟨fun i j p q h => by simp at h, fun k q h => by simp at h⟩
              generalize H1 = H at hP hS ⊢
              have hP : va_P D vwCl [(h_7, .inr (7, [.ref h_7_0, .ref h_7_1, .ref h_7_2, .int a1, .int a2, .int a3, .int a4, .int a5, .long h_7_8, .long h_7_9, .int h_7_10, .ref h_7_11, .ref h_7_12, .ref h_7_13]))] H := hP
              have hD : va_D A [(h_7, .inr (7, [.ref h_7_0, .ref h_7_1, .ref h_7_2, .int a1, .int a2, .int a3, .int a4, .int a5, .long h_7_8, .long h_7_9, .int h_7_10, .ref h_7_11, .ref h_7_12, .ref h_7_13]))] := hD
              subst hw_67
              exact W.iret (v := 0) hx hb hr (fun t ht hW => ⟨⟨0, (), rfl, (by simp [sp_terms, c_2, c_23, c_44, c_52, c_60, c_65]), trivial⟩, hS.F ht⟩) hS.2.2 dX11_terms_160
            · refine lv_aload_n hx hb dX11_terms_91 rfl (lv_at hl 2 rfl) ?_
              refine lv_iconst (v := (-1)) hx hb dX11_terms_92 (by decide) ?_
              have hPc := hP.sub (ws' := [(h, .inr (11, [.ref h_0, .ref h_1, .ref h_2, .ref h_3, .ref h_4, .ref h_5, .ref h_6, .ref h_7, .ref h_8, .ref h_9, .ref h_10, .ref h_11, .ref h_12, .int h_13, .int h_14]))]) [0] rfl
              have hDc := hD.sub (ws' := [(h, .inr (11, [.ref h_0, .ref h_1, .ref h_2, .ref h_3, .ref h_4, .ref h_5, .ref h_6, .ref h_7, .ref h_8, .ref h_9, .ref h_10, .ref h_11, .ref h_12, .int h_13, .int h_14]))]) [0] (by decide) rfl
              have hFc := va_free (wc := [(h, .inr (11, [.ref h_0, .ref h_1, .ref h_2, .ref h_3, .ref h_4, .ref h_5, .ref h_6, .ref h_7, .ref h_8, .ref h_9, .ref h_10, .ref h_11, .ref h_12, .int h_13, .int h_14]))]) hD hS hA [0] rfl
              refine va_calli (va_runV (As := [.int (-1)]) (rest := []) ⟨hx, hb, hml, hown, hg⟩ (c_refuse l D ct h (-1) h_0 h_1 h_2 h_3 h_4 h_5 h_6 h_7 h_8 h_9 h_10 h_11 h_12 h_13 h_14 s.heap.size ) (cwV 1 hg (gd_V wd_778 wd_780 wd_3 wd_107 wd_781) rfl rfl rfl (by decide +kernel) ⟨Nat.le_of_ble_eq_true rfl, Nat.le_of_ble_eq_true rfl⟩) (Wd_V hPc hKK hDc (va_recv hK hPc (ci := 11) (q0 := 0) rfl rfl)) rfl rfl hl.1 rfl (lv_room (Nat.le_of_ble_eq_true rfl)) dX11_terms_93 ⟨Nat.le_of_ble_eq_true rfl, Nat.le_of_ble_eq_true rfl⟩) hS (fun q _ h => hFc q h) hFc (fun r_68 u_68 t_68 H1 locs ht_68 hvm_68 hw_68 hB_68 hz_68 hk_68 hS => ?_)
              obtain ⟨hP, hD⟩ := va_join (wr := [(h_7, .inr (7, [.ref h_7_0, .ref h_7_1, .ref h_7_2, .int h_7_3, .int h_7_4, .int h_7_5, .int h_7_6, .int h_7_7, .long h_7_8, .long h_7_9, .int h_7_10, .ref h_7_11, .ref h_7_12, .ref h_7_13])), (h_8, .inr (8, [.ref h_8_0, .ref h_8_1, .ref h_8_2, .ref h_8_3, .ref h_8_4, .ref h_8_5, .ref h_8_6, .ref h_8_7, .int h_8_8, .int h_8_9, .int h_8_10, .int h_8_11, .ref h_8_12, .int h_8_13, .ref h_8_14, .int h_8_15, .int h_8_16]))]) (w1 := []) hP hD [0] [1, 2] rfl rfl (by decide) (by decide) hk_68 hFc (fun k q h => by simp at h) ⟨fun i j p q h => by simp at h, fun k q h => by simp at h⟩
              generalize H1 = H at hP hS ⊢
              have hP : va_P D vwCl [(h_7, .inr (7, [.ref h_7_0, .ref h_7_1, .ref h_7_2, .int h_7_3, .int h_7_4, .int h_7_5, .int h_7_6, .int h_7_7, .long h_7_8, .long h_7_9, .int h_7_10, .ref h_7_11, .ref h_7_12, .ref h_7_13])), (h_8, .inr (8, [.ref h_8_0, .ref h_8_1, .ref h_8_2, .ref h_8_3, .ref h_8_4, .ref h_8_5, .ref h_8_6, .ref h_8_7, .int h_8_8, .int h_8_9, .int h_8_10, .int h_8_11, .ref h_8_12, .int h_8_13, .ref h_8_14, .int h_8_15, .int h_8_16]))] H := hP
              have hD : va_D A [(h_7, .inr (7, [.ref h_7_0, .ref h_7_1, .ref h_7_2, .int h_7_3, .int h_7_4, .int h_7_5, .int h_7_6, .int h_7_7, .long h_7_8, .long h_7_9, .int h_7_10, .ref h_7_11, .ref h_7_12, .ref h_7_13])), (h_8, .inr (8, [.ref h_8_0, .ref h_8_1, .ref h_8_2, .ref h_8_3, .ref h_8_4, .ref h_8_5, .ref h_8_6, .ref h_8_7, .int h_8_8, .int h_8_9, .int h_8_10, .int h_8_11, .ref h_8_12, .int h_8_13, .ref h_8_14, .int h_8_15, .int h_8_16]))] := hD
              subst hw_68
              exact W.iret (v := (-1)) hx hb hr (fun t ht hW => ⟨⟨(-1), (), rfl, (by simp [sp_terms, c_2, c_23, c_44, c_52, c_60, c_65]), trivial⟩, hS.F ht⟩) hS.2.2 dX11_terms_96
def sp_end (a1 : Int32) : Int32 := if a1 < 0 then -1 else if 0 < a1 then -1 else a1
theorem dX11_end_0 : decode cX11_end 0 = .ok (.iload_n 1, 1) := by decide +kernel
theorem dX11_end_1 : decode cX11_end 1 = .ok (.ifCond .lt 14, 3) := by decide +kernel
theorem dX11_end_15 : decode cX11_end 15 = .ok (.iconst (-1), 1) := by decide +kernel
theorem dX11_end_16 : decode cX11_end 16 = .ok (.ireturn, 1) := by decide +kernel
theorem dX11_end_4 : decode cX11_end 4 = .ok (.iload_n 1, 1) := by decide +kernel
theorem dX11_end_5 : decode cX11_end 5 = .ok (.aload_n 0, 1) := by decide +kernel
theorem dX11_end_6 : decode cX11_end 6 = .ok (.getfield 12, 3) := by decide +kernel
theorem wd_683 : (Cond.fieldLink "VoteRoll" 12 "VoteRoll" "tape" "LVoteRoll$Tape;") ∈ gl := gl_at 683 (by decide +kernel) (by decide +kernel)
theorem dX11_end_9 : decode cX11_end 9 = .ok (.getfield 107, 3) := by decide +kernel
theorem wd_144 : (Cond.fieldLink "VoteRoll" 107 "VoteRoll$Tape" "size" "I") ∈ gl := gl_at 144 (by decide +kernel) (by decide +kernel)
theorem dX11_end_12 : decode cX11_end 12 = .ok (.if_icmp .le 5, 3) := by decide +kernel
theorem dX11_end_17 : decode cX11_end 17 = .ok (.aload_n 0, 1) := by decide +kernel
theorem dX11_end_18 : decode cX11_end 18 = .ok (.getfield 12, 3) := by decide +kernel
theorem dX11_end_21 : decode cX11_end 21 = .ok (.iload_n 1, 1) := by decide +kernel
theorem dX11_end_22 : decode cX11_end 22 = .ok (.putfield 107, 3) := by decide +kernel
theorem dX11_end_25 : decode cX11_end 25 = .ok (.iload_n 1, 1) := by decide +kernel
theorem dX11_end_26 : decode cX11_end 26 = .ok (.ireturn, 1) := by decide +kernel
set_option maxHeartbeats 4000000 in
set_option maxRecDepth 100000 in
theorem c_end (l : Launch) (D : va_G) (ct : Nat → ClassId) (h : Nat) (a1 : Int32) (h_0 : Nat) (h_1 : Nat) (h_2 : Nat) (h_3 : Nat) (h_4 : Nat) (h_5 : Nat) (h_6 : Nat) (h_7 : Nat) (h_8 : Nat) (h_9 : Nat) (h_10 : Nat) (h_11 : Nat) (h_12 : Nat) (h_13 : Int32) (h_14 : Int32) (h_0_0 : Nat) (h_0_2 : Int32) (h_0_3 : Int32) (h_0_4 : Int32) (sz : Nat)  : Met l yX11_end (wk yX11_end cX11_end 2 (some .int)) { frames := 0, cells := 0, slots := 0, locals := 0 } (va_Pc [.ref h, .int a1] (Wd D [(h, .inr (11, [.ref h_0, .ref h_1, .ref h_2, .ref h_3, .ref h_4, .ref h_5, .ref h_6, .ref h_7, .ref h_8, .ref h_9, .ref h_10, .ref h_11, .ref h_12, .int h_13, .int h_14])), (h_0, .inr (10, [.ref h_0_0, .int 0, .int h_0_2, .int h_0_3, .int h_0_4]))] ct sz)) (va_Qi (fun (r : Int32) (u : Unit) => r = sp_end a1) (fun _ _ => True) (va_A [(h, .inr (11, [.ref h_0, .ref h_1, .ref h_2, .ref h_3, .ref h_4, .ref h_5, .ref h_6, .ref h_7, .ref h_8, .ref h_9, .ref h_10, .ref h_11, .ref h_12, .int h_13, .int h_14])), (h_0, .inr (10, [.ref h_0_0, .int 0, .int h_0_2, .int h_0_3, .int h_0_4]))] sz)) 0 0 (va_A [(h, .inr (11, [.ref h_0, .ref h_1, .ref h_2, .ref h_3, .ref h_4, .ref h_5, .ref h_6, .ref h_7, .ref h_8, .ref h_9, .ref h_10, .ref h_11, .ref h_12, .int h_13, .int h_14])), (h_0, .inr (10, [.ref h_0_0, .int 0, .int h_0_2, .int h_0_3, .int h_0_4]))] sz) := by
  refine Met.ofW (cc := cX11_end) (maxL := 2) (ret := (some .int)) (by decide) rfl ?_
  intro p e s m args below meth c s₁ B hml hv
  obtain ⟨rfl, hsz, hP, hKK, hD0⟩ := hv
  have hK := hKK.1
  have hx := B.exec
  have hb := B.bytes
  have hr := B.returns
  have hg : ∀ w ∈ gl, w.before _ s = true := fun w h => atoms_spec (ws := wk yX11_end cX11_end 2 (some .int)) B.pre w (List.mem_cons_of_mem _ h)
  have hown : s.vm.findClass RX11 = some m.cls := findClass_of_methodNamed B.named
  have hlocks := B.notSynchronized
  subst hsz
  have hD := hD0.self (sz := s.heap.size)
  generalize hAe : va_A [(h, .inr (11, [.ref h_0, .ref h_1, .ref h_2, .ref h_3, .ref h_4, .ref h_5, .ref h_6, .ref h_7, .ref h_8, .ref h_9, .ref h_10, .ref h_11, .ref h_12, .int h_13, .int h_14])), (h_0, .inr (10, [.ref h_0_0, .int 0, .int h_0_2, .int h_0_3, .int h_0_4]))] s.heap.size = A at hD ⊢
  have hA : ∀ q : Nat, s.heap.size ≤ q → A q := fun q h => by rw [← hAe]; exact Or.inr h
  have hS : va_S A s.heap s.heap [] := va_S.rf
  have hl := lv_entry ([.ref h, .int a1]) (n := 2) (Nat.le_of_ble_eq_true rfl)
  rw [lg_entry_eq]
  generalize (lg_sl ([.ref h, .int a1]) ++ List.replicate (2 - (lg_sl ([.ref h, .int a1])).length) Slot.unset).toArray = ls at hl ⊢
  have hl : lv_has ls 2 [(0, .ref h), (1, .int a1)] := hl
  refine lv_iload_n hx hb dX11_end_0 rfl (lv_at hl 1 rfl) ?_
  refine lv_if_lt (tgt := 15) hx hb dX11_end_1 (by decide) (fun c_1 => ?_) (fun c_1 => ?_)
  · refine lv_iconst (v := (-1)) hx hb dX11_end_15 (by decide) ?_
    exact W.iret (v := (-1)) hx hb hr (fun t ht hW => ⟨⟨(-1), (), rfl, (by simp [sp_end, c_1]), trivial⟩, hS.F ht⟩) hS.2.2 dX11_end_16
  · refine lv_iload_n hx hb dX11_end_4 rfl (lv_at hl 1 rfl) ?_
    refine lv_aload_n hx hb dX11_end_5 rfl (lv_at hl 0 rfl) ?_
    refine va_get (D := D) (ci := 11) (v := .ref h_0) (C := RX11) (T := TX11) (N := 15) hx hb hg inX11 hown hK hP 0 rfl rfl 0 (by decide) (hg _ wd_683) (fun _ h9 => h9) rfl dX11_end_6 ?_
    refine va_get (D := D) (ci := 10) (v := .int 0) (C := RX10) (T := TX10) (N := 5) hx hb hg inX10 hown hK hP 1 rfl rfl 1 (by decide) (hg _ wd_144) (fun _ h9 => h9) rfl dX11_end_9 ?_
    refine lv_icmp_le (tgt := 17) hx hb dX11_end_12 (by decide) (fun c_2 => ?_) (fun c_2 => ?_)
    · refine lv_aload_n hx hb dX11_end_17 rfl (lv_at hl 0 rfl) ?_
      refine va_get (D := D) (ci := 11) (v := .ref h_0) (C := RX11) (T := TX11) (N := 15) hx hb hg inX11 hown hK hP 0 rfl rfl 0 (by decide) (hg _ wd_683) (fun _ h9 => h9) rfl dX11_end_18 ?_
      refine lv_iload_n hx hb dX11_end_21 rfl (lv_at hl 1 rfl) ?_
      refine va_put (D := D) (ci := 10) (v := .int a1) (ty := .int) (C := RX10) (T := TX10) (N := 5) hx hb hg inX10 tyX10 tyX10_ok nmX10 hown hK hP hD hS 1 rfl rfl 1 (by decide) (hg _ wd_144) (fun _ h9 => h9) rfl (by decide +kernel) rfl rfl (Nat.le_of_ble_eq_true rfl) dX11_end_22 (fun H locs hP hD hS => ?_)
      have hP : va_P D vwCl [(h, .inr (11, [.ref h_0, .ref h_1, .ref h_2, .ref h_3, .ref h_4, .ref h_5, .ref h_6, .ref h_7, .ref h_8, .ref h_9, .ref h_10, .ref h_11, .ref h_12, .int h_13, .int h_14])), (h_0, .inr (10, [.ref h_0_0, .int a1, .int h_0_2, .int h_0_3, .int h_0_4]))] H := hP
      have hD : va_D A [(h, .inr (11, [.ref h_0, .ref h_1, .ref h_2, .ref h_3, .ref h_4, .ref h_5, .ref h_6, .ref h_7, .ref h_8, .ref h_9, .ref h_10, .ref h_11, .ref h_12, .int h_13, .int h_14])), (h_0, .inr (10, [.ref h_0_0, .int a1, .int h_0_2, .int h_0_3, .int h_0_4]))] := hD
      refine lv_iload_n hx hb dX11_end_25 rfl (lv_at hl 1 rfl) ?_
      exact W.iret (v := a1) hx hb hr (fun t ht hW => ⟨⟨a1, (), rfl, (by simp [sp_end, c_1, c_2]), trivial⟩, hS.F ht⟩) hS.2.2 dX11_end_26
    · refine lv_iconst (v := (-1)) hx hb dX11_end_15 (by decide) ?_
      exact W.iret (v := (-1)) hx hb hr (fun t ht hW => ⟨⟨(-1), (), rfl, (by simp [sp_end, c_1, c_2]), trivial⟩, hS.F ht⟩) hS.2.2 dX11_end_16
def sp_fault  : Int32 := -1
theorem dX11_fault_0 : decode cX11_fault 0 = .ok (.aload_n 0, 1) := by decide +kernel
theorem dX11_fault_1 : decode cX11_fault 1 = .ok (.getfield 100, 3) := by decide +kernel
theorem wd_696 : (Cond.fieldLink "VoteRoll" 100 "VoteRoll" "faultPlace" "I") ∈ gl := gl_at 696 (by decide +kernel) (by decide +kernel)
theorem dX11_fault_4 : decode cX11_fault 4 = .ok (.ireturn, 1) := by decide +kernel
set_option maxHeartbeats 4000000 in
set_option maxRecDepth 100000 in
theorem c_fault (l : Launch) (D : va_G) (ct : Nat → ClassId) (h : Nat) (h_0 : Nat) (h_1 : Nat) (h_2 : Nat) (h_3 : Nat) (h_4 : Nat) (h_5 : Nat) (h_6 : Nat) (h_7 : Nat) (h_8 : Nat) (h_9 : Nat) (h_10 : Nat) (h_11 : Nat) (h_12 : Nat) (h_14 : Int32) (sz : Nat)  : Met l yX11_fault (wk yX11_fault cX11_fault 1 (some .int)) { frames := 0, cells := 0, slots := 0, locals := 0 } (va_Pc [.ref h] (Wd D [(h, .inr (11, [.ref h_0, .ref h_1, .ref h_2, .ref h_3, .ref h_4, .ref h_5, .ref h_6, .ref h_7, .ref h_8, .ref h_9, .ref h_10, .ref h_11, .ref h_12, .int (-1), .int h_14]))] ct sz)) (va_Qi (fun (r : Int32) (u : Unit) => r = sp_fault) (fun _ _ => True) (va_A [(h, .inr (11, [.ref h_0, .ref h_1, .ref h_2, .ref h_3, .ref h_4, .ref h_5, .ref h_6, .ref h_7, .ref h_8, .ref h_9, .ref h_10, .ref h_11, .ref h_12, .int (-1), .int h_14]))] sz)) 0 0 (va_A [(h, .inr (11, [.ref h_0, .ref h_1, .ref h_2, .ref h_3, .ref h_4, .ref h_5, .ref h_6, .ref h_7, .ref h_8, .ref h_9, .ref h_10, .ref h_11, .ref h_12, .int (-1), .int h_14]))] sz) := by
  refine Met.ofW (cc := cX11_fault) (maxL := 1) (ret := (some .int)) (by decide) rfl ?_
  intro p e s m args below meth c s₁ B hml hv
  obtain ⟨rfl, hsz, hP, hKK, hD0⟩ := hv
  have hK := hKK.1
  have hx := B.exec
  have hb := B.bytes
  have hr := B.returns
  have hg : ∀ w ∈ gl, w.before _ s = true := fun w h => atoms_spec (ws := wk yX11_fault cX11_fault 1 (some .int)) B.pre w (List.mem_cons_of_mem _ h)
  have hown : s.vm.findClass RX11 = some m.cls := findClass_of_methodNamed B.named
  have hlocks := B.notSynchronized
  subst hsz
  have hD := hD0.self (sz := s.heap.size)
  generalize hAe : va_A [(h, .inr (11, [.ref h_0, .ref h_1, .ref h_2, .ref h_3, .ref h_4, .ref h_5, .ref h_6, .ref h_7, .ref h_8, .ref h_9, .ref h_10, .ref h_11, .ref h_12, .int (-1), .int h_14]))] s.heap.size = A at hD ⊢
  have hA : ∀ q : Nat, s.heap.size ≤ q → A q := fun q h => by rw [← hAe]; exact Or.inr h
  have hS : va_S A s.heap s.heap [] := va_S.rf
  have hl := lv_entry ([.ref h]) (n := 1) (Nat.le_of_ble_eq_true rfl)
  rw [lg_entry_eq]
  generalize (lg_sl ([.ref h]) ++ List.replicate (1 - (lg_sl ([.ref h])).length) Slot.unset).toArray = ls at hl ⊢
  have hl : lv_has ls 1 [(0, .ref h)] := hl
  refine lv_aload_n hx hb dX11_fault_0 rfl (lv_at hl 0 rfl) ?_
  refine va_get (D := D) (ci := 11) (v := .int (-1)) (C := RX11) (T := TX11) (N := 15) hx hb hg inX11 hown hK hP 0 rfl rfl 13 (by decide) (hg _ wd_696) (fun _ h9 => h9) rfl dX11_fault_1 ?_
  exact W.iret (v := (-1)) hx hb hr (fun t ht hW => ⟨⟨(-1), (), rfl, (by simp [sp_fault]), trivial⟩, hS.F ht⟩) hS.2.2 dX11_fault_4
def sp_folded (a1 : Int32) (a2 : Int32) (a3 : Int32) : Int32 := -1
theorem dX11_folded_0 : decode cX11_folded 0 = .ok (.aload_n 0, 1) := by decide +kernel
theorem dX11_folded_1 : decode cX11_folded 1 = .ok (.getfield 39, 3) := by decide +kernel
theorem wd_688 : (Cond.fieldLink "VoteRoll" 39 "VoteRoll" "book" "LVoteRoll$Book;") ∈ gl := gl_at 688 (by decide +kernel) (by decide +kernel)
theorem dX11_folded_4 : decode cX11_folded 4 = .ok (.iload_n 1, 1) := by decide +kernel
theorem dX11_folded_5 : decode cX11_folded 5 = .ok (.invokevirtual 190, 3) := by decide +kernel
theorem wd_995 : (Cond.code yX1_holds cX1_holds 2 (some .boolean)) ∈ gl := gl_at 995 (by decide +kernel) (by decide +kernel)
theorem wd_992 : (Cond.methodLink "VoteRoll" 190 yX1_holds) ∈ gl := gl_at 992 (by decide +kernel) (by decide +kernel)
theorem wd_111 : (Cond.initialized "VoteRoll$Book") ∈ gl := gl_at 111 (by decide +kernel) (by decide +kernel)
theorem wd_993 : (Cond.instanceMethod yX1_holds) ∈ gl := gl_at 993 (by decide +kernel) (by decide +kernel)
theorem wd_994 : (Cond.selects "VoteRoll$Book" yX1_holds yX1_holds) ∈ gl := gl_at 994 (by decide +kernel) (by decide +kernel)
theorem dX11_folded_8 : decode cX11_folded 8 = .ok (.ifCond .eq 12, 3) := by decide +kernel
theorem dX11_folded_20 : decode cX11_folded 20 = .ok (.iconst (-1), 1) := by decide +kernel
theorem dX11_folded_21 : decode cX11_folded 21 = .ok (.ireturn, 1) := by decide +kernel
set_option maxHeartbeats 4000000 in
set_option maxRecDepth 100000 in
theorem c_folded (l : Launch) (D : va_G) (ct : Nat → ClassId) (h : Nat) (a1 : Int32) (a2 : Int32) (a3 : Int32) (h_0 : Nat) (h_1 : Nat) (h_2 : Nat) (h_3 : Nat) (h_4 : Nat) (h_5 : Nat) (h_6 : Nat) (h_7 : Nat) (h_8 : Nat) (h_9 : Nat) (h_10 : Nat) (h_11 : Nat) (h_12 : Nat) (h_13 : Int32) (h_14 : Int32) (h_5_0 : Nat) (h_5_1 : Nat) (h_5_2 : Nat) (h_5_3 : Nat) (h_5_4 : Nat) (h_5_5 : Nat) (h_5_6 : Nat) (h_5_7 : Nat) (h_5_8 : Nat) (h_5_9 : Nat) (h_5_10 : Nat) (h_5_11 : Nat) (h_5_12 : Nat) (sz : Nat)  : Met l yX11_folded (wk yX11_folded cX11_folded 5 (some .int)) { frames := 1, cells := 0, slots := 0, locals := 21 } (va_Pc [.ref h, .int a1, .int a2, .int a3] (Wd D [(h, .inr (11, [.ref h_0, .ref h_1, .ref h_2, .ref h_3, .ref h_4, .ref h_5, .ref h_6, .ref h_7, .ref h_8, .ref h_9, .ref h_10, .ref h_11, .ref h_12, .int h_13, .int h_14])), (h_5, .inr (1, [.ref h_5_0, .ref h_5_1, .ref h_5_2, .ref h_5_3, .ref h_5_4, .ref h_5_5, .ref h_5_6, .ref h_5_7, .ref h_5_8, .ref h_5_9, .ref h_5_10, .ref h_5_11, .ref h_5_12, .int 0]))] ct sz)) (va_Qi (fun (r : Int32) (u : Unit) => r = sp_folded a1 a2 a3) (fun _ _ => True) (va_A [(h, .inr (11, [.ref h_0, .ref h_1, .ref h_2, .ref h_3, .ref h_4, .ref h_5, .ref h_6, .ref h_7, .ref h_8, .ref h_9, .ref h_10, .ref h_11, .ref h_12, .int h_13, .int h_14])), (h_5, .inr (1, [.ref h_5_0, .ref h_5_1, .ref h_5_2, .ref h_5_3, .ref h_5_4, .ref h_5_5, .ref h_5_6, .ref h_5_7, .ref h_5_8, .ref h_5_9, .ref h_5_10, .ref h_5_11, .ref h_5_12, .int 0]))] sz)) 0 0 (va_A [(h, .inr (11, [.ref h_0, .ref h_1, .ref h_2, .ref h_3, .ref h_4, .ref h_5, .ref h_6, .ref h_7, .ref h_8, .ref h_9, .ref h_10, .ref h_11, .ref h_12, .int h_13, .int h_14])), (h_5, .inr (1, [.ref h_5_0, .ref h_5_1, .ref h_5_2, .ref h_5_3, .ref h_5_4, .ref h_5_5, .ref h_5_6, .ref h_5_7, .ref h_5_8, .ref h_5_9, .ref h_5_10, .ref h_5_11, .ref h_5_12, .int 0]))] sz) := by
  refine Met.ofW (cc := cX11_folded) (maxL := 5) (ret := (some .int)) (by decide) rfl ?_
  intro p e s m args below meth c s₁ B hml hv
  obtain ⟨rfl, hsz, hP, hKK, hD0⟩ := hv
  have hK := hKK.1
  have hx := B.exec
  have hb := B.bytes
  have hr := B.returns
  have hg : ∀ w ∈ gl, w.before _ s = true := fun w h => atoms_spec (ws := wk yX11_folded cX11_folded 5 (some .int)) B.pre w (List.mem_cons_of_mem _ h)
  have hown : s.vm.findClass RX11 = some m.cls := findClass_of_methodNamed B.named
  have hlocks := B.notSynchronized
  subst hsz
  have hD := hD0.self (sz := s.heap.size)
  generalize hAe : va_A [(h, .inr (11, [.ref h_0, .ref h_1, .ref h_2, .ref h_3, .ref h_4, .ref h_5, .ref h_6, .ref h_7, .ref h_8, .ref h_9, .ref h_10, .ref h_11, .ref h_12, .int h_13, .int h_14])), (h_5, .inr (1, [.ref h_5_0, .ref h_5_1, .ref h_5_2, .ref h_5_3, .ref h_5_4, .ref h_5_5, .ref h_5_6, .ref h_5_7, .ref h_5_8, .ref h_5_9, .ref h_5_10, .ref h_5_11, .ref h_5_12, .int 0]))] s.heap.size = A at hD ⊢
  have hA : ∀ q : Nat, s.heap.size ≤ q → A q := fun q h => by rw [← hAe]; exact Or.inr h
  have hS : va_S A s.heap s.heap [] := va_S.rf
  have hl := lv_entry ([.ref h, .int a1, .int a2, .int a3]) (n := 5) (Nat.le_of_ble_eq_true rfl)
  rw [lg_entry_eq]
  generalize (lg_sl ([.ref h, .int a1, .int a2, .int a3]) ++ List.replicate (5 - (lg_sl ([.ref h, .int a1, .int a2, .int a3])).length) Slot.unset).toArray = ls at hl ⊢
  have hl : lv_has ls 5 [(0, .ref h), (1, .int a1), (2, .int a2), (3, .int a3)] := hl
  refine lv_aload_n hx hb dX11_folded_0 rfl (lv_at hl 0 rfl) ?_
  refine va_get (D := D) (ci := 11) (v := .ref h_5) (C := RX11) (T := TX11) (N := 15) hx hb hg inX11 hown hK hP 0 rfl rfl 5 (by decide) (hg _ wd_688) (fun _ h9 => h9) rfl dX11_folded_1 ?_
  refine lv_iload_n hx hb dX11_folded_4 rfl (lv_at hl 1 rfl) ?_
  have hPc := hP.sub (ws' := [(h_5, .inr (1, [.ref h_5_0, .ref h_5_1, .ref h_5_2, .ref h_5_3, .ref h_5_4, .ref h_5_5, .ref h_5_6, .ref h_5_7, .ref h_5_8, .ref h_5_9, .ref h_5_10, .ref h_5_11, .ref h_5_12, .int 0]))]) [1] rfl
  refine z_calli (va_runV (As := [.int a1]) (rest := []) ⟨hx, hb, hml, hown, hg⟩ (c_holds0 l D ct h_5 a1 h_5_0 h_5_1 h_5_2 h_5_3 h_5_4 h_5_5 h_5_6 h_5_7 h_5_8 h_5_9 h_5_10 h_5_11 h_5_12 ) (cwV 1 hg (gd_V wd_992 wd_993 wd_994 wd_111 wd_995) rfl rfl rfl (by decide +kernel) ⟨Nat.le_of_ble_eq_true rfl, Nat.le_of_ble_eq_true rfl⟩) (Wr_V hPc hKK (va_recv hK hPc (ci := 1) (q0 := 0) rfl rfl)) rfl rfl hl.1 rfl (lv_room (Nat.le_of_ble_eq_true rfl)) dX11_folded_5 ⟨Nat.le_of_ble_eq_true rfl, Nat.le_of_ble_eq_true rfl⟩) (fun r_1 hw_1 => ?_)
  subst hw_1
  refine lv_if_eq (tgt := 20) hx hb dX11_folded_8 (by decide) (fun _ => ?_) (fun h => absurd (by decide) h)
  refine lv_iconst (v := (-1)) hx hb dX11_folded_20 (by decide) ?_
  exact W.iret (v := (-1)) hx hb hr (fun t ht hW => ⟨⟨(-1), (), rfl, (by simp [sp_folded]), trivial⟩, hS.F ht⟩) hS.2.2 dX11_folded_21
def sp_odds (a1 : Int32) (a2 : Int32) (a3 : Int32) : Int64 := -1
theorem dX11_odds_0 : decode cX11_odds 0 = .ok (.aload_n 0, 1) := by decide +kernel
theorem dX11_odds_1 : decode cX11_odds 1 = .ok (.getfield 39, 3) := by decide +kernel
theorem dX11_odds_4 : decode cX11_odds 4 = .ok (.iload_n 1, 1) := by decide +kernel
theorem dX11_odds_5 : decode cX11_odds 5 = .ok (.invokevirtual 190, 3) := by decide +kernel
theorem dX11_odds_8 : decode cX11_odds 8 = .ok (.ifCond .eq 28, 3) := by decide +kernel
theorem dX11_odds_36 : decode cX11_odds 36 = .ok (.ldc2_w 228, 3) := by decide +kernel
theorem wd_1011 : (Cond.constantLong "VoteRoll" 228 (-1 : Int64)) ∈ gl := gl_at 1011 (by decide +kernel) (by decide +kernel)
theorem dX11_odds_39 : decode cX11_odds 39 = .ok (.lreturn, 1) := by decide +kernel
set_option maxHeartbeats 4000000 in
set_option maxRecDepth 100000 in
theorem c_odds (l : Launch) (D : va_G) (ct : Nat → ClassId) (h : Nat) (a1 : Int32) (a2 : Int32) (a3 : Int32) (h_0 : Nat) (h_1 : Nat) (h_2 : Nat) (h_3 : Nat) (h_4 : Nat) (h_5 : Nat) (h_6 : Nat) (h_7 : Nat) (h_8 : Nat) (h_9 : Nat) (h_10 : Nat) (h_11 : Nat) (h_12 : Nat) (h_13 : Int32) (h_14 : Int32) (h_5_0 : Nat) (h_5_1 : Nat) (h_5_2 : Nat) (h_5_3 : Nat) (h_5_4 : Nat) (h_5_5 : Nat) (h_5_6 : Nat) (h_5_7 : Nat) (h_5_8 : Nat) (h_5_9 : Nat) (h_5_10 : Nat) (h_5_11 : Nat) (h_5_12 : Nat) (sz : Nat)  : Met l yX11_odds (wk yX11_odds cX11_odds 5 (some .long)) { frames := 1, cells := 0, slots := 0, locals := 21 } (va_Pc [.ref h, .int a1, .int a2, .int a3] (Wd D [(h, .inr (11, [.ref h_0, .ref h_1, .ref h_2, .ref h_3, .ref h_4, .ref h_5, .ref h_6, .ref h_7, .ref h_8, .ref h_9, .ref h_10, .ref h_11, .ref h_12, .int h_13, .int h_14])), (h_5, .inr (1, [.ref h_5_0, .ref h_5_1, .ref h_5_2, .ref h_5_3, .ref h_5_4, .ref h_5_5, .ref h_5_6, .ref h_5_7, .ref h_5_8, .ref h_5_9, .ref h_5_10, .ref h_5_11, .ref h_5_12, .int 0]))] ct sz)) (va_Ql (fun (r : Int64) (u : Unit) => r = sp_odds a1 a2 a3) (fun _ _ => True) (va_A [(h, .inr (11, [.ref h_0, .ref h_1, .ref h_2, .ref h_3, .ref h_4, .ref h_5, .ref h_6, .ref h_7, .ref h_8, .ref h_9, .ref h_10, .ref h_11, .ref h_12, .int h_13, .int h_14])), (h_5, .inr (1, [.ref h_5_0, .ref h_5_1, .ref h_5_2, .ref h_5_3, .ref h_5_4, .ref h_5_5, .ref h_5_6, .ref h_5_7, .ref h_5_8, .ref h_5_9, .ref h_5_10, .ref h_5_11, .ref h_5_12, .int 0]))] sz)) 0 0 (va_A [(h, .inr (11, [.ref h_0, .ref h_1, .ref h_2, .ref h_3, .ref h_4, .ref h_5, .ref h_6, .ref h_7, .ref h_8, .ref h_9, .ref h_10, .ref h_11, .ref h_12, .int h_13, .int h_14])), (h_5, .inr (1, [.ref h_5_0, .ref h_5_1, .ref h_5_2, .ref h_5_3, .ref h_5_4, .ref h_5_5, .ref h_5_6, .ref h_5_7, .ref h_5_8, .ref h_5_9, .ref h_5_10, .ref h_5_11, .ref h_5_12, .int 0]))] sz) := by
  refine Met.ofW (cc := cX11_odds) (maxL := 5) (ret := (some .long)) (by decide) rfl ?_
  intro p e s m args below meth c s₁ B hml hv
  obtain ⟨rfl, hsz, hP, hKK, hD0⟩ := hv
  have hK := hKK.1
  have hx := B.exec
  have hb := B.bytes
  have hr := B.returns
  have hg : ∀ w ∈ gl, w.before _ s = true := fun w h => atoms_spec (ws := wk yX11_odds cX11_odds 5 (some .long)) B.pre w (List.mem_cons_of_mem _ h)
  have hown : s.vm.findClass RX11 = some m.cls := findClass_of_methodNamed B.named
  have hlocks := B.notSynchronized
  subst hsz
  have hD := hD0.self (sz := s.heap.size)
  generalize hAe : va_A [(h, .inr (11, [.ref h_0, .ref h_1, .ref h_2, .ref h_3, .ref h_4, .ref h_5, .ref h_6, .ref h_7, .ref h_8, .ref h_9, .ref h_10, .ref h_11, .ref h_12, .int h_13, .int h_14])), (h_5, .inr (1, [.ref h_5_0, .ref h_5_1, .ref h_5_2, .ref h_5_3, .ref h_5_4, .ref h_5_5, .ref h_5_6, .ref h_5_7, .ref h_5_8, .ref h_5_9, .ref h_5_10, .ref h_5_11, .ref h_5_12, .int 0]))] s.heap.size = A at hD ⊢
  have hA : ∀ q : Nat, s.heap.size ≤ q → A q := fun q h => by rw [← hAe]; exact Or.inr h
  have hS : va_S A s.heap s.heap [] := va_S.rf
  have hl := lv_entry ([.ref h, .int a1, .int a2, .int a3]) (n := 5) (Nat.le_of_ble_eq_true rfl)
  rw [lg_entry_eq]
  generalize (lg_sl ([.ref h, .int a1, .int a2, .int a3]) ++ List.replicate (5 - (lg_sl ([.ref h, .int a1, .int a2, .int a3])).length) Slot.unset).toArray = ls at hl ⊢
  have hl : lv_has ls 5 [(0, .ref h), (1, .int a1), (2, .int a2), (3, .int a3)] := hl
  refine lv_aload_n hx hb dX11_odds_0 rfl (lv_at hl 0 rfl) ?_
  refine va_get (D := D) (ci := 11) (v := .ref h_5) (C := RX11) (T := TX11) (N := 15) hx hb hg inX11 hown hK hP 0 rfl rfl 5 (by decide) (hg _ wd_688) (fun _ h9 => h9) rfl dX11_odds_1 ?_
  refine lv_iload_n hx hb dX11_odds_4 rfl (lv_at hl 1 rfl) ?_
  have hPc := hP.sub (ws' := [(h_5, .inr (1, [.ref h_5_0, .ref h_5_1, .ref h_5_2, .ref h_5_3, .ref h_5_4, .ref h_5_5, .ref h_5_6, .ref h_5_7, .ref h_5_8, .ref h_5_9, .ref h_5_10, .ref h_5_11, .ref h_5_12, .int 0]))]) [1] rfl
  refine z_calli (va_runV (As := [.int a1]) (rest := []) ⟨hx, hb, hml, hown, hg⟩ (c_holds0 l D ct h_5 a1 h_5_0 h_5_1 h_5_2 h_5_3 h_5_4 h_5_5 h_5_6 h_5_7 h_5_8 h_5_9 h_5_10 h_5_11 h_5_12 ) (cwV 1 hg (gd_V wd_992 wd_993 wd_994 wd_111 wd_995) rfl rfl rfl (by decide +kernel) ⟨Nat.le_of_ble_eq_true rfl, Nat.le_of_ble_eq_true rfl⟩) (Wr_V hPc hKK (va_recv hK hPc (ci := 1) (q0 := 0) rfl rfl)) rfl rfl hl.1 rfl (lv_room (Nat.le_of_ble_eq_true rfl)) dX11_odds_5 ⟨Nat.le_of_ble_eq_true rfl, Nat.le_of_ble_eq_true rfl⟩) (fun r_1 hw_1 => ?_)
  subst hw_1
  refine lv_if_eq (tgt := 36) hx hb dX11_odds_8 (by decide) (fun _ => ?_) (fun h => absurd (by decide) h)
  refine lv_ldc2 hx hb hown (hg _ wd_1011) dX11_odds_36 ?_
  exact W.lret (v := (-1)) hx hb hr (fun t ht hW => ⟨⟨(-1), (), rfl, (by simp [sp_odds]), trivial⟩, hS.F ht⟩) hS.2.2 dX11_odds_39
def sp_person (a1 : Int32) (a2 : Int32) : Int32 := -1
theorem dX11_person_0 : decode cX11_person 0 = .ok (.aload_n 0, 1) := by decide +kernel
theorem dX11_person_1 : decode cX11_person 1 = .ok (.getfield 39, 3) := by decide +kernel
theorem dX11_person_4 : decode cX11_person 4 = .ok (.iload_n 1, 1) := by decide +kernel
theorem dX11_person_5 : decode cX11_person 5 = .ok (.invokevirtual 190, 3) := by decide +kernel
theorem dX11_person_8 : decode cX11_person 8 = .ok (.ifCond .eq 10, 3) := by decide +kernel
theorem dX11_person_18 : decode cX11_person 18 = .ok (.iconst (-1), 1) := by decide +kernel
theorem dX11_person_19 : decode cX11_person 19 = .ok (.ireturn, 1) := by decide +kernel
set_option maxHeartbeats 4000000 in
set_option maxRecDepth 100000 in
theorem c_person (l : Launch) (D : va_G) (ct : Nat → ClassId) (h : Nat) (a1 : Int32) (a2 : Int32) (h_0 : Nat) (h_1 : Nat) (h_2 : Nat) (h_3 : Nat) (h_4 : Nat) (h_5 : Nat) (h_6 : Nat) (h_7 : Nat) (h_8 : Nat) (h_9 : Nat) (h_10 : Nat) (h_11 : Nat) (h_12 : Nat) (h_13 : Int32) (h_14 : Int32) (h_5_0 : Nat) (h_5_1 : Nat) (h_5_2 : Nat) (h_5_3 : Nat) (h_5_4 : Nat) (h_5_5 : Nat) (h_5_6 : Nat) (h_5_7 : Nat) (h_5_8 : Nat) (h_5_9 : Nat) (h_5_10 : Nat) (h_5_11 : Nat) (h_5_12 : Nat) (sz : Nat)  : Met l yX11_person (wk yX11_person cX11_person 3 (some .int)) { frames := 1, cells := 0, slots := 0, locals := 21 } (va_Pc [.ref h, .int a1, .int a2] (Wd D [(h, .inr (11, [.ref h_0, .ref h_1, .ref h_2, .ref h_3, .ref h_4, .ref h_5, .ref h_6, .ref h_7, .ref h_8, .ref h_9, .ref h_10, .ref h_11, .ref h_12, .int h_13, .int h_14])), (h_5, .inr (1, [.ref h_5_0, .ref h_5_1, .ref h_5_2, .ref h_5_3, .ref h_5_4, .ref h_5_5, .ref h_5_6, .ref h_5_7, .ref h_5_8, .ref h_5_9, .ref h_5_10, .ref h_5_11, .ref h_5_12, .int 0]))] ct sz)) (va_Qi (fun (r : Int32) (u : Unit) => r = sp_person a1 a2) (fun _ _ => True) (va_A [(h, .inr (11, [.ref h_0, .ref h_1, .ref h_2, .ref h_3, .ref h_4, .ref h_5, .ref h_6, .ref h_7, .ref h_8, .ref h_9, .ref h_10, .ref h_11, .ref h_12, .int h_13, .int h_14])), (h_5, .inr (1, [.ref h_5_0, .ref h_5_1, .ref h_5_2, .ref h_5_3, .ref h_5_4, .ref h_5_5, .ref h_5_6, .ref h_5_7, .ref h_5_8, .ref h_5_9, .ref h_5_10, .ref h_5_11, .ref h_5_12, .int 0]))] sz)) 0 0 (va_A [(h, .inr (11, [.ref h_0, .ref h_1, .ref h_2, .ref h_3, .ref h_4, .ref h_5, .ref h_6, .ref h_7, .ref h_8, .ref h_9, .ref h_10, .ref h_11, .ref h_12, .int h_13, .int h_14])), (h_5, .inr (1, [.ref h_5_0, .ref h_5_1, .ref h_5_2, .ref h_5_3, .ref h_5_4, .ref h_5_5, .ref h_5_6, .ref h_5_7, .ref h_5_8, .ref h_5_9, .ref h_5_10, .ref h_5_11, .ref h_5_12, .int 0]))] sz) := by
  refine Met.ofW (cc := cX11_person) (maxL := 3) (ret := (some .int)) (by decide) rfl ?_
  intro p e s m args below meth c s₁ B hml hv
  obtain ⟨rfl, hsz, hP, hKK, hD0⟩ := hv
  have hK := hKK.1
  have hx := B.exec
  have hb := B.bytes
  have hr := B.returns
  have hg : ∀ w ∈ gl, w.before _ s = true := fun w h => atoms_spec (ws := wk yX11_person cX11_person 3 (some .int)) B.pre w (List.mem_cons_of_mem _ h)
  have hown : s.vm.findClass RX11 = some m.cls := findClass_of_methodNamed B.named
  have hlocks := B.notSynchronized
  subst hsz
  have hD := hD0.self (sz := s.heap.size)
  generalize hAe : va_A [(h, .inr (11, [.ref h_0, .ref h_1, .ref h_2, .ref h_3, .ref h_4, .ref h_5, .ref h_6, .ref h_7, .ref h_8, .ref h_9, .ref h_10, .ref h_11, .ref h_12, .int h_13, .int h_14])), (h_5, .inr (1, [.ref h_5_0, .ref h_5_1, .ref h_5_2, .ref h_5_3, .ref h_5_4, .ref h_5_5, .ref h_5_6, .ref h_5_7, .ref h_5_8, .ref h_5_9, .ref h_5_10, .ref h_5_11, .ref h_5_12, .int 0]))] s.heap.size = A at hD ⊢
  have hA : ∀ q : Nat, s.heap.size ≤ q → A q := fun q h => by rw [← hAe]; exact Or.inr h
  have hS : va_S A s.heap s.heap [] := va_S.rf
  have hl := lv_entry ([.ref h, .int a1, .int a2]) (n := 3) (Nat.le_of_ble_eq_true rfl)
  rw [lg_entry_eq]
  generalize (lg_sl ([.ref h, .int a1, .int a2]) ++ List.replicate (3 - (lg_sl ([.ref h, .int a1, .int a2])).length) Slot.unset).toArray = ls at hl ⊢
  have hl : lv_has ls 3 [(0, .ref h), (1, .int a1), (2, .int a2)] := hl
  refine lv_aload_n hx hb dX11_person_0 rfl (lv_at hl 0 rfl) ?_
  refine va_get (D := D) (ci := 11) (v := .ref h_5) (C := RX11) (T := TX11) (N := 15) hx hb hg inX11 hown hK hP 0 rfl rfl 5 (by decide) (hg _ wd_688) (fun _ h9 => h9) rfl dX11_person_1 ?_
  refine lv_iload_n hx hb dX11_person_4 rfl (lv_at hl 1 rfl) ?_
  have hPc := hP.sub (ws' := [(h_5, .inr (1, [.ref h_5_0, .ref h_5_1, .ref h_5_2, .ref h_5_3, .ref h_5_4, .ref h_5_5, .ref h_5_6, .ref h_5_7, .ref h_5_8, .ref h_5_9, .ref h_5_10, .ref h_5_11, .ref h_5_12, .int 0]))]) [1] rfl
  refine z_calli (va_runV (As := [.int a1]) (rest := []) ⟨hx, hb, hml, hown, hg⟩ (c_holds0 l D ct h_5 a1 h_5_0 h_5_1 h_5_2 h_5_3 h_5_4 h_5_5 h_5_6 h_5_7 h_5_8 h_5_9 h_5_10 h_5_11 h_5_12 ) (cwV 1 hg (gd_V wd_992 wd_993 wd_994 wd_111 wd_995) rfl rfl rfl (by decide +kernel) ⟨Nat.le_of_ble_eq_true rfl, Nat.le_of_ble_eq_true rfl⟩) (Wr_V hPc hKK (va_recv hK hPc (ci := 1) (q0 := 0) rfl rfl)) rfl rfl hl.1 rfl (lv_room (Nat.le_of_ble_eq_true rfl)) dX11_person_5 ⟨Nat.le_of_ble_eq_true rfl, Nat.le_of_ble_eq_true rfl⟩) (fun r_1 hw_1 => ?_)
  subst hw_1
  refine lv_if_eq (tgt := 18) hx hb dX11_person_8 (by decide) (fun _ => ?_) (fun h => absurd (by decide) h)
  refine lv_iconst (v := (-1)) hx hb dX11_person_18 (by decide) ?_
  exact W.iret (v := (-1)) hx hb hr (fun t ht hW => ⟨⟨(-1), (), rfl, (by simp [sp_person]), trivial⟩, hS.F ht⟩) hS.2.2 dX11_person_19
theorem dX11_lookAt_0 : decode cX11_lookAt 0 = .ok (.iload_n 2, 1) := by decide +kernel
theorem dX11_lookAt_1 : decode cX11_lookAt 1 = .ok (.invokestatic 159, 3) := by decide +kernel
theorem wd_966 : (Cond.code yX11_isDay cX11_isDay 1 (some .boolean)) ∈ gl := gl_at 966 (by decide +kernel) (by decide +kernel)
theorem wd_964 : (Cond.methodLink "VoteRoll" 159 yX11_isDay) ∈ gl := gl_at 964 (by decide +kernel) (by decide +kernel)
theorem wd_965 : (Cond.static yX11_isDay) ∈ gl := gl_at 965 (by decide +kernel) (by decide +kernel)
theorem dX11_lookAt_4 : decode cX11_lookAt 4 = .ok (.ifCond .eq 21, 3) := by decide +kernel
theorem dX11_lookAt_25 : decode cX11_lookAt 25 = .ok (.iconst 0, 1) := by decide +kernel
theorem dX11_lookAt_26 : decode cX11_lookAt 26 = .ok (.ireturn, 1) := by decide +kernel
theorem dX11_lookAt_7 : decode cX11_lookAt 7 = .ok (.iload_n 3, 1) := by decide +kernel
theorem dX11_lookAt_8 : decode cX11_lookAt 8 = .ok (.invokestatic 159, 3) := by decide +kernel
theorem dX11_lookAt_11 : decode cX11_lookAt 11 = .ok (.ifCond .eq 14, 3) := by decide +kernel
theorem dX11_lookAt_14 : decode cX11_lookAt 14 = .ok (.aload_n 0, 1) := by decide +kernel
theorem dX11_lookAt_15 : decode cX11_lookAt 15 = .ok (.getfield 39, 3) := by decide +kernel
theorem dX11_lookAt_18 : decode cX11_lookAt 18 = .ok (.iload_n 1, 1) := by decide +kernel
theorem dX11_lookAt_19 : decode cX11_lookAt 19 = .ok (.invokevirtual 190, 3) := by decide +kernel
theorem dX11_lookAt_22 : decode cX11_lookAt 22 = .ok (.ifCond .ne 5, 3) := by decide +kernel
set_option maxHeartbeats 4000000 in
set_option maxRecDepth 100000 in
theorem c_lookAt0 (l : Launch) (D : va_G) (ct : Nat → ClassId) (h : Nat) (a1 : Int32) (a2 : Int32) (a3 : Int32) (h_0 : Nat) (h_1 : Nat) (h_2 : Nat) (h_3 : Nat) (h_4 : Nat) (h_5 : Nat) (h_6 : Nat) (h_7 : Nat) (h_8 : Nat) (h_9 : Nat) (h_10 : Nat) (h_11 : Nat) (h_12 : Nat) (h_13 : Int32) (h_14 : Int32) (h_5_0 : Nat) (h_5_1 : Nat) (h_5_2 : Nat) (h_5_3 : Nat) (h_5_4 : Nat) (h_5_5 : Nat) (h_5_6 : Nat) (h_5_7 : Nat) (h_5_8 : Nat) (h_5_9 : Nat) (h_5_10 : Nat) (h_5_11 : Nat) (h_5_12 : Nat)  : Met l yX11_lookAt (wk yX11_lookAt cX11_lookAt 5 (some .boolean)) { frames := 2, cells := 0, slots := 0, locals := 42 } (va_Pc [.ref h, .int a1, .int a2, .int a3] (Wr D [(h, .inr (11, [.ref h_0, .ref h_1, .ref h_2, .ref h_3, .ref h_4, .ref h_5, .ref h_6, .ref h_7, .ref h_8, .ref h_9, .ref h_10, .ref h_11, .ref h_12, .int h_13, .int h_14])), (h_5, .inr (1, [.ref h_5_0, .ref h_5_1, .ref h_5_2, .ref h_5_3, .ref h_5_4, .ref h_5_5, .ref h_5_6, .ref h_5_7, .ref h_5_8, .ref h_5_9, .ref h_5_10, .ref h_5_11, .ref h_5_12, .int 0]))] ct)) (zI (fun r : Int32 => r = 0)) 0 0 (fun _ => False) := by
  refine Met.ofW (cc := cX11_lookAt) (maxL := 5) (ret := (some .boolean)) (by decide) rfl ?_
  intro p e s m args below meth c s₁ B hml hv
  obtain ⟨rfl, hP, hKK⟩ := hv
  have hK := hKK.1
  have hx := B.exec
  have hb := B.bytes
  have hr := B.returns
  have hg : ∀ w ∈ gl, w.before _ s = true := fun w h => atoms_spec (ws := wk yX11_lookAt cX11_lookAt 5 (some .boolean)) B.pre w (List.mem_cons_of_mem _ h)
  have hown : s.vm.findClass RX11 = some m.cls := findClass_of_methodNamed B.named
  have hlocks := B.notSynchronized
  have hl := lv_entry ([.ref h, .int a1, .int a2, .int a3]) (n := 5) (Nat.le_of_ble_eq_true rfl)
  rw [lg_entry_eq]
  generalize (lg_sl ([.ref h, .int a1, .int a2, .int a3]) ++ List.replicate (5 - (lg_sl ([.ref h, .int a1, .int a2, .int a3])).length) Slot.unset).toArray = ls at hl ⊢
  have hl : lv_has ls 5 [(0, .ref h), (1, .int a1), (2, .int a2), (3, .int a3)] := hl
  refine lv_iload_n hx hb dX11_lookAt_0 rfl (lv_at hl 2 rfl) ?_
  have hPc := hP.sub (ws' := []) [] rfl
  refine z_calli (va_runS (As := [.int a2]) (rest := []) ⟨hx, hb, hml, hown, hg⟩ (c_isDay l D ct a2 ) (va_cwS 1 hg (gd_S wd_964 wd_965 wd_107 wd_966) rfl rfl rfl (by decide +kernel) ⟨Nat.le_of_ble_eq_true rfl, Nat.le_of_ble_eq_true rfl⟩) (Wr_S hPc hKK) rfl rfl hl.1 rfl (lv_room (Nat.le_of_ble_eq_true rfl)) dX11_lookAt_1 ⟨Nat.le_of_ble_eq_true rfl, Nat.le_of_ble_eq_true rfl⟩) (fun r_1 hw_1 => ?_)
  subst hw_1
  refine lv_if_eq (tgt := 25) hx hb dX11_lookAt_4 (by decide) (fun c_2 => ?_) (fun c_2 => ?_)
  · refine lv_iconst (v := 0) hx hb dX11_lookAt_25 (by decide) ?_
    exact W.zret (v := 0) hx hb hr rfl (fun t ht hW => ⟨0, rfl, rfl, ht⟩) (fun q h => by cases h) dX11_lookAt_26
  · refine lv_iload_n hx hb dX11_lookAt_7 rfl (lv_at hl 3 rfl) ?_
    have hPc := hP.sub (ws' := []) [] rfl
    refine z_calli (va_runS (As := [.int a3]) (rest := []) ⟨hx, hb, hml, hown, hg⟩ (c_isDay l D ct a3 ) (va_cwS 1 hg (gd_S wd_964 wd_965 wd_107 wd_966) rfl rfl rfl (by decide +kernel) ⟨Nat.le_of_ble_eq_true rfl, Nat.le_of_ble_eq_true rfl⟩) (Wr_S hPc hKK) rfl rfl hl.1 rfl (lv_room (Nat.le_of_ble_eq_true rfl)) dX11_lookAt_8 ⟨Nat.le_of_ble_eq_true rfl, Nat.le_of_ble_eq_true rfl⟩) (fun r_3 hw_3 => ?_)
    subst hw_3
    refine lv_if_eq (tgt := 25) hx hb dX11_lookAt_11 (by decide) (fun c_4 => ?_) (fun c_4 => ?_)
    · refine lv_iconst (v := 0) hx hb dX11_lookAt_25 (by decide) ?_
      exact W.zret (v := 0) hx hb hr rfl (fun t ht hW => ⟨0, rfl, rfl, ht⟩) (fun q h => by cases h) dX11_lookAt_26
    · refine lv_aload_n hx hb dX11_lookAt_14 rfl (lv_at hl 0 rfl) ?_
      refine va_get (D := D) (ci := 11) (v := .ref h_5) (C := RX11) (T := TX11) (N := 15) hx hb hg inX11 hown hK hP 0 rfl rfl 5 (by decide) (hg _ wd_688) (fun _ h9 => h9) rfl dX11_lookAt_15 ?_
      refine lv_iload_n hx hb dX11_lookAt_18 rfl (lv_at hl 1 rfl) ?_
      have hPc := hP.sub (ws' := [(h_5, .inr (1, [.ref h_5_0, .ref h_5_1, .ref h_5_2, .ref h_5_3, .ref h_5_4, .ref h_5_5, .ref h_5_6, .ref h_5_7, .ref h_5_8, .ref h_5_9, .ref h_5_10, .ref h_5_11, .ref h_5_12, .int 0]))]) [1] rfl
      refine z_calli (va_runV (As := [.int a1]) (rest := []) ⟨hx, hb, hml, hown, hg⟩ (c_holds0 l D ct h_5 a1 h_5_0 h_5_1 h_5_2 h_5_3 h_5_4 h_5_5 h_5_6 h_5_7 h_5_8 h_5_9 h_5_10 h_5_11 h_5_12 ) (cwV 1 hg (gd_V wd_992 wd_993 wd_994 wd_111 wd_995) rfl rfl rfl (by decide +kernel) ⟨Nat.le_of_ble_eq_true rfl, Nat.le_of_ble_eq_true rfl⟩) (Wr_V hPc hKK (va_recv hK hPc (ci := 1) (q0 := 0) rfl rfl)) rfl rfl hl.1 rfl (lv_room (Nat.le_of_ble_eq_true rfl)) dX11_lookAt_19 ⟨Nat.le_of_ble_eq_true rfl, Nat.le_of_ble_eq_true rfl⟩) (fun r_5 hw_5 => ?_)
      subst hw_5
      refine lv_if_ne (tgt := 27) hx hb dX11_lookAt_22 (by decide) (fun h => absurd (by decide) h) (fun _ => ?_)
      refine lv_iconst (v := 0) hx hb dX11_lookAt_25 (by decide) ?_
      exact W.zret (v := 0) hx hb hr rfl (fun t ht hW => ⟨0, rfl, rfl, ht⟩) (fun q h => by cases h) dX11_lookAt_26
def sp_of (a1 : Int32) (a2 : Int32) (a3 : Int32) (a4 : Int32) : Int32 := -1
theorem dX11_of_0 : decode cX11_of 0 = .ok (.iload 4, 2) := by decide +kernel
theorem dX11_of_2 : decode cX11_of 2 = .ok (.iconst 0, 1) := by decide +kernel
theorem dX11_of_3 : decode cX11_of 3 = .ok (.bipush 6, 2) := by decide +kernel
theorem dX11_of_5 : decode cX11_of 5 = .ok (.invokestatic 150, 3) := by decide +kernel
theorem dX11_of_8 : decode cX11_of 8 = .ok (.ifCond .eq 13, 3) := by decide +kernel
theorem dX11_of_21 : decode cX11_of 21 = .ok (.iconst (-1), 1) := by decide +kernel
theorem dX11_of_22 : decode cX11_of 22 = .ok (.ireturn, 1) := by decide +kernel
theorem dX11_of_11 : decode cX11_of 11 = .ok (.aload_n 0, 1) := by decide +kernel
theorem dX11_of_12 : decode cX11_of 12 = .ok (.iload_n 1, 1) := by decide +kernel
theorem dX11_of_13 : decode cX11_of 13 = .ok (.iload_n 2, 1) := by decide +kernel
theorem dX11_of_14 : decode cX11_of 14 = .ok (.iload_n 3, 1) := by decide +kernel
theorem dX11_of_15 : decode cX11_of 15 = .ok (.invokevirtual 267, 3) := by decide +kernel
theorem wd_1106 : (Cond.code yX11_lookAt cX11_lookAt 5 (some .boolean)) ∈ gl := gl_at 1106 (by decide +kernel) (by decide +kernel)
theorem wd_1103 : (Cond.methodLink "VoteRoll" 267 yX11_lookAt) ∈ gl := gl_at 1103 (by decide +kernel) (by decide +kernel)
theorem wd_1105 : (Cond.instanceMethod yX11_lookAt) ∈ gl := gl_at 1105 (by decide +kernel) (by decide +kernel)
theorem wd_22 : (Cond.selects "VoteRoll" yX11_lookAt yX11_lookAt) ∈ gl := gl_at 22 (by decide +kernel) (by decide +kernel)
theorem dX11_of_18 : decode cX11_of 18 = .ok (.ifCond .ne 5, 3) := by decide +kernel
set_option maxHeartbeats 4000000 in
set_option maxRecDepth 100000 in
theorem c_of (l : Launch) (D : va_G) (ct : Nat → ClassId) (h : Nat) (a1 : Int32) (a2 : Int32) (a3 : Int32) (a4 : Int32) (h_0 : Nat) (h_1 : Nat) (h_2 : Nat) (h_3 : Nat) (h_4 : Nat) (h_5 : Nat) (h_6 : Nat) (h_7 : Nat) (h_8 : Nat) (h_9 : Nat) (h_10 : Nat) (h_11 : Nat) (h_12 : Nat) (h_13 : Int32) (h_14 : Int32) (h_5_0 : Nat) (h_5_1 : Nat) (h_5_2 : Nat) (h_5_3 : Nat) (h_5_4 : Nat) (h_5_5 : Nat) (h_5_6 : Nat) (h_5_7 : Nat) (h_5_8 : Nat) (h_5_9 : Nat) (h_5_10 : Nat) (h_5_11 : Nat) (h_5_12 : Nat) (sz : Nat)  : Met l yX11_of (wk yX11_of cX11_of 5 (some .int)) { frames := 3, cells := 0, slots := 0, locals := 66 } (va_Pc [.ref h, .int a1, .int a2, .int a3, .int a4] (Wd D [(h, .inr (11, [.ref h_0, .ref h_1, .ref h_2, .ref h_3, .ref h_4, .ref h_5, .ref h_6, .ref h_7, .ref h_8, .ref h_9, .ref h_10, .ref h_11, .ref h_12, .int h_13, .int h_14])), (h_5, .inr (1, [.ref h_5_0, .ref h_5_1, .ref h_5_2, .ref h_5_3, .ref h_5_4, .ref h_5_5, .ref h_5_6, .ref h_5_7, .ref h_5_8, .ref h_5_9, .ref h_5_10, .ref h_5_11, .ref h_5_12, .int 0]))] ct sz)) (va_Qi (fun (r : Int32) (u : Unit) => r = sp_of a1 a2 a3 a4) (fun _ _ => True) (va_A [(h, .inr (11, [.ref h_0, .ref h_1, .ref h_2, .ref h_3, .ref h_4, .ref h_5, .ref h_6, .ref h_7, .ref h_8, .ref h_9, .ref h_10, .ref h_11, .ref h_12, .int h_13, .int h_14])), (h_5, .inr (1, [.ref h_5_0, .ref h_5_1, .ref h_5_2, .ref h_5_3, .ref h_5_4, .ref h_5_5, .ref h_5_6, .ref h_5_7, .ref h_5_8, .ref h_5_9, .ref h_5_10, .ref h_5_11, .ref h_5_12, .int 0]))] sz)) 0 0 (va_A [(h, .inr (11, [.ref h_0, .ref h_1, .ref h_2, .ref h_3, .ref h_4, .ref h_5, .ref h_6, .ref h_7, .ref h_8, .ref h_9, .ref h_10, .ref h_11, .ref h_12, .int h_13, .int h_14])), (h_5, .inr (1, [.ref h_5_0, .ref h_5_1, .ref h_5_2, .ref h_5_3, .ref h_5_4, .ref h_5_5, .ref h_5_6, .ref h_5_7, .ref h_5_8, .ref h_5_9, .ref h_5_10, .ref h_5_11, .ref h_5_12, .int 0]))] sz) := by
  refine Met.ofW (cc := cX11_of) (maxL := 5) (ret := (some .int)) (by decide) rfl ?_
  intro p e s m args below meth c s₁ B hml hv
  obtain ⟨rfl, hsz, hP, hKK, hD0⟩ := hv
  have hK := hKK.1
  have hx := B.exec
  have hb := B.bytes
  have hr := B.returns
  have hg : ∀ w ∈ gl, w.before _ s = true := fun w h => atoms_spec (ws := wk yX11_of cX11_of 5 (some .int)) B.pre w (List.mem_cons_of_mem _ h)
  have hown : s.vm.findClass RX11 = some m.cls := findClass_of_methodNamed B.named
  have hlocks := B.notSynchronized
  subst hsz
  have hD := hD0.self (sz := s.heap.size)
  generalize hAe : va_A [(h, .inr (11, [.ref h_0, .ref h_1, .ref h_2, .ref h_3, .ref h_4, .ref h_5, .ref h_6, .ref h_7, .ref h_8, .ref h_9, .ref h_10, .ref h_11, .ref h_12, .int h_13, .int h_14])), (h_5, .inr (1, [.ref h_5_0, .ref h_5_1, .ref h_5_2, .ref h_5_3, .ref h_5_4, .ref h_5_5, .ref h_5_6, .ref h_5_7, .ref h_5_8, .ref h_5_9, .ref h_5_10, .ref h_5_11, .ref h_5_12, .int 0]))] s.heap.size = A at hD ⊢
  have hA : ∀ q : Nat, s.heap.size ≤ q → A q := fun q h => by rw [← hAe]; exact Or.inr h
  have hS : va_S A s.heap s.heap [] := va_S.rf
  have hl := lv_entry ([.ref h, .int a1, .int a2, .int a3, .int a4]) (n := 5) (Nat.le_of_ble_eq_true rfl)
  rw [lg_entry_eq]
  generalize (lg_sl ([.ref h, .int a1, .int a2, .int a3, .int a4]) ++ List.replicate (5 - (lg_sl ([.ref h, .int a1, .int a2, .int a3, .int a4])).length) Slot.unset).toArray = ls at hl ⊢
  have hl : lv_has ls 5 [(0, .ref h), (1, .int a1), (2, .int a2), (3, .int a3), (4, .int a4)] := hl
  refine lv_iload hx hb dX11_of_0 (lv_at hl 4 rfl) ?_
  refine lv_iconst (v := 0) hx hb dX11_of_2 (by decide) ?_
  refine lv_bipush (v := 6) hx hb dX11_of_3 (by decide) ?_
  have hPc := hP.sub (ws' := []) [] rfl
  refine z_calli (va_runS (As := [.int a4, .int 0, .int 6]) (rest := []) ⟨hx, hb, hml, hown, hg⟩ (c_within l D ct a4 0 6 ) (va_cwS 3 hg (gd_S wd_959 wd_917 wd_107 wd_918) rfl rfl rfl (by decide +kernel) ⟨Nat.le_of_ble_eq_true rfl, Nat.le_of_ble_eq_true rfl⟩) (Wr_S hPc hKK) rfl rfl hl.1 rfl (lv_room (Nat.le_of_ble_eq_true rfl)) dX11_of_5 ⟨Nat.le_of_ble_eq_true rfl, Nat.le_of_ble_eq_true rfl⟩) (fun r_1 hw_1 => ?_)
  subst hw_1
  refine lv_if_eq (tgt := 21) hx hb dX11_of_8 (by decide) (fun c_2 => ?_) (fun c_2 => ?_)
  · refine lv_iconst (v := (-1)) hx hb dX11_of_21 (by decide) ?_
    exact W.iret (v := (-1)) hx hb hr (fun t ht hW => ⟨⟨(-1), (), rfl, (by simp [sp_of, c_2]), trivial⟩, hS.F ht⟩) hS.2.2 dX11_of_22
  · refine lv_aload_n hx hb dX11_of_11 rfl (lv_at hl 0 rfl) ?_
    refine lv_iload_n hx hb dX11_of_12 rfl (lv_at hl 1 rfl) ?_
    refine lv_iload_n hx hb dX11_of_13 rfl (lv_at hl 2 rfl) ?_
    refine lv_iload_n hx hb dX11_of_14 rfl (lv_at hl 3 rfl) ?_
    have hPc := hP.sub (ws' := [(h, .inr (11, [.ref h_0, .ref h_1, .ref h_2, .ref h_3, .ref h_4, .ref h_5, .ref h_6, .ref h_7, .ref h_8, .ref h_9, .ref h_10, .ref h_11, .ref h_12, .int h_13, .int h_14])), (h_5, .inr (1, [.ref h_5_0, .ref h_5_1, .ref h_5_2, .ref h_5_3, .ref h_5_4, .ref h_5_5, .ref h_5_6, .ref h_5_7, .ref h_5_8, .ref h_5_9, .ref h_5_10, .ref h_5_11, .ref h_5_12, .int 0]))]) [0, 1] rfl
    refine z_calli (va_runV (As := [.int a1, .int a2, .int a3]) (rest := []) ⟨hx, hb, hml, hown, hg⟩ (c_lookAt0 l D ct h a1 a2 a3 h_0 h_1 h_2 h_3 h_4 h_5 h_6 h_7 h_8 h_9 h_10 h_11 h_12 h_13 h_14 h_5_0 h_5_1 h_5_2 h_5_3 h_5_4 h_5_5 h_5_6 h_5_7 h_5_8 h_5_9 h_5_10 h_5_11 h_5_12 ) (cwV 3 hg (gd_V wd_1103 wd_1105 wd_22 wd_107 wd_1106) rfl rfl rfl (by decide +kernel) ⟨Nat.le_of_ble_eq_true rfl, Nat.le_of_ble_eq_true rfl⟩) (Wr_V hPc hKK (va_recv hK hPc (ci := 11) (q0 := 0) rfl rfl)) rfl rfl hl.1 rfl (lv_room (Nat.le_of_ble_eq_true rfl)) dX11_of_15 ⟨Nat.le_of_ble_eq_true rfl, Nat.le_of_ble_eq_true rfl⟩) (fun r_3 hw_3 => ?_)
    subst hw_3
    refine lv_if_ne (tgt := 23) hx hb dX11_of_18 (by decide) (fun h => absurd (by decide) h) (fun _ => ?_)
    refine lv_iconst (v := (-1)) hx hb dX11_of_21 (by decide) ?_
    exact W.iret (v := (-1)) hx hb hr (fun t ht hW => ⟨⟨(-1), (), rfl, (by simp [sp_of, c_2]), trivial⟩, hS.F ht⟩) hS.2.2 dX11_of_22
def sp_led (a1 : Int32) (a2 : Int32) (a3 : Int32) (a4 : Int32) : Int32 := -1
theorem dX11_led_0 : decode cX11_led 0 = .ok (.iload 4, 2) := by decide +kernel
theorem dX11_led_2 : decode cX11_led 2 = .ok (.iconst 1, 1) := by decide +kernel
theorem dX11_led_3 : decode cX11_led 3 = .ok (.iconst 5, 1) := by decide +kernel
theorem dX11_led_4 : decode cX11_led 4 = .ok (.invokestatic 150, 3) := by decide +kernel
theorem dX11_led_7 : decode cX11_led 7 = .ok (.ifCond .eq 13, 3) := by decide +kernel
theorem dX11_led_20 : decode cX11_led 20 = .ok (.iconst (-1), 1) := by decide +kernel
theorem dX11_led_21 : decode cX11_led 21 = .ok (.ireturn, 1) := by decide +kernel
theorem dX11_led_10 : decode cX11_led 10 = .ok (.aload_n 0, 1) := by decide +kernel
theorem dX11_led_11 : decode cX11_led 11 = .ok (.iload_n 1, 1) := by decide +kernel
theorem dX11_led_12 : decode cX11_led 12 = .ok (.iload_n 2, 1) := by decide +kernel
theorem dX11_led_13 : decode cX11_led 13 = .ok (.iload_n 3, 1) := by decide +kernel
theorem dX11_led_14 : decode cX11_led 14 = .ok (.invokevirtual 267, 3) := by decide +kernel
theorem dX11_led_17 : decode cX11_led 17 = .ok (.ifCond .ne 5, 3) := by decide +kernel
set_option maxHeartbeats 4000000 in
set_option maxRecDepth 100000 in
theorem c_led (l : Launch) (D : va_G) (ct : Nat → ClassId) (h : Nat) (a1 : Int32) (a2 : Int32) (a3 : Int32) (a4 : Int32) (h_0 : Nat) (h_1 : Nat) (h_2 : Nat) (h_3 : Nat) (h_4 : Nat) (h_5 : Nat) (h_6 : Nat) (h_7 : Nat) (h_8 : Nat) (h_9 : Nat) (h_10 : Nat) (h_11 : Nat) (h_12 : Nat) (h_13 : Int32) (h_14 : Int32) (h_5_0 : Nat) (h_5_1 : Nat) (h_5_2 : Nat) (h_5_3 : Nat) (h_5_4 : Nat) (h_5_5 : Nat) (h_5_6 : Nat) (h_5_7 : Nat) (h_5_8 : Nat) (h_5_9 : Nat) (h_5_10 : Nat) (h_5_11 : Nat) (h_5_12 : Nat) (sz : Nat)  : Met l yX11_led (wk yX11_led cX11_led 5 (some .int)) { frames := 3, cells := 0, slots := 0, locals := 66 } (va_Pc [.ref h, .int a1, .int a2, .int a3, .int a4] (Wd D [(h, .inr (11, [.ref h_0, .ref h_1, .ref h_2, .ref h_3, .ref h_4, .ref h_5, .ref h_6, .ref h_7, .ref h_8, .ref h_9, .ref h_10, .ref h_11, .ref h_12, .int h_13, .int h_14])), (h_5, .inr (1, [.ref h_5_0, .ref h_5_1, .ref h_5_2, .ref h_5_3, .ref h_5_4, .ref h_5_5, .ref h_5_6, .ref h_5_7, .ref h_5_8, .ref h_5_9, .ref h_5_10, .ref h_5_11, .ref h_5_12, .int 0]))] ct sz)) (va_Qi (fun (r : Int32) (u : Unit) => r = sp_led a1 a2 a3 a4) (fun _ _ => True) (va_A [(h, .inr (11, [.ref h_0, .ref h_1, .ref h_2, .ref h_3, .ref h_4, .ref h_5, .ref h_6, .ref h_7, .ref h_8, .ref h_9, .ref h_10, .ref h_11, .ref h_12, .int h_13, .int h_14])), (h_5, .inr (1, [.ref h_5_0, .ref h_5_1, .ref h_5_2, .ref h_5_3, .ref h_5_4, .ref h_5_5, .ref h_5_6, .ref h_5_7, .ref h_5_8, .ref h_5_9, .ref h_5_10, .ref h_5_11, .ref h_5_12, .int 0]))] sz)) 0 0 (va_A [(h, .inr (11, [.ref h_0, .ref h_1, .ref h_2, .ref h_3, .ref h_4, .ref h_5, .ref h_6, .ref h_7, .ref h_8, .ref h_9, .ref h_10, .ref h_11, .ref h_12, .int h_13, .int h_14])), (h_5, .inr (1, [.ref h_5_0, .ref h_5_1, .ref h_5_2, .ref h_5_3, .ref h_5_4, .ref h_5_5, .ref h_5_6, .ref h_5_7, .ref h_5_8, .ref h_5_9, .ref h_5_10, .ref h_5_11, .ref h_5_12, .int 0]))] sz) := by
  refine Met.ofW (cc := cX11_led) (maxL := 5) (ret := (some .int)) (by decide) rfl ?_
  intro p e s m args below meth c s₁ B hml hv
  obtain ⟨rfl, hsz, hP, hKK, hD0⟩ := hv
  have hK := hKK.1
  have hx := B.exec
  have hb := B.bytes
  have hr := B.returns
  have hg : ∀ w ∈ gl, w.before _ s = true := fun w h => atoms_spec (ws := wk yX11_led cX11_led 5 (some .int)) B.pre w (List.mem_cons_of_mem _ h)
  have hown : s.vm.findClass RX11 = some m.cls := findClass_of_methodNamed B.named
  have hlocks := B.notSynchronized
  subst hsz
  have hD := hD0.self (sz := s.heap.size)
  generalize hAe : va_A [(h, .inr (11, [.ref h_0, .ref h_1, .ref h_2, .ref h_3, .ref h_4, .ref h_5, .ref h_6, .ref h_7, .ref h_8, .ref h_9, .ref h_10, .ref h_11, .ref h_12, .int h_13, .int h_14])), (h_5, .inr (1, [.ref h_5_0, .ref h_5_1, .ref h_5_2, .ref h_5_3, .ref h_5_4, .ref h_5_5, .ref h_5_6, .ref h_5_7, .ref h_5_8, .ref h_5_9, .ref h_5_10, .ref h_5_11, .ref h_5_12, .int 0]))] s.heap.size = A at hD ⊢
  have hA : ∀ q : Nat, s.heap.size ≤ q → A q := fun q h => by rw [← hAe]; exact Or.inr h
  have hS : va_S A s.heap s.heap [] := va_S.rf
  have hl := lv_entry ([.ref h, .int a1, .int a2, .int a3, .int a4]) (n := 5) (Nat.le_of_ble_eq_true rfl)
  rw [lg_entry_eq]
  generalize (lg_sl ([.ref h, .int a1, .int a2, .int a3, .int a4]) ++ List.replicate (5 - (lg_sl ([.ref h, .int a1, .int a2, .int a3, .int a4])).length) Slot.unset).toArray = ls at hl ⊢
  have hl : lv_has ls 5 [(0, .ref h), (1, .int a1), (2, .int a2), (3, .int a3), (4, .int a4)] := hl
  refine lv_iload hx hb dX11_led_0 (lv_at hl 4 rfl) ?_
  refine lv_iconst (v := 1) hx hb dX11_led_2 (by decide) ?_
  refine lv_iconst (v := 5) hx hb dX11_led_3 (by decide) ?_
  have hPc := hP.sub (ws' := []) [] rfl
  refine z_calli (va_runS (As := [.int a4, .int 1, .int 5]) (rest := []) ⟨hx, hb, hml, hown, hg⟩ (c_within l D ct a4 1 5 ) (va_cwS 3 hg (gd_S wd_959 wd_917 wd_107 wd_918) rfl rfl rfl (by decide +kernel) ⟨Nat.le_of_ble_eq_true rfl, Nat.le_of_ble_eq_true rfl⟩) (Wr_S hPc hKK) rfl rfl hl.1 rfl (lv_room (Nat.le_of_ble_eq_true rfl)) dX11_led_4 ⟨Nat.le_of_ble_eq_true rfl, Nat.le_of_ble_eq_true rfl⟩) (fun r_1 hw_1 => ?_)
  subst hw_1
  refine lv_if_eq (tgt := 20) hx hb dX11_led_7 (by decide) (fun c_2 => ?_) (fun c_2 => ?_)
  · refine lv_iconst (v := (-1)) hx hb dX11_led_20 (by decide) ?_
    exact W.iret (v := (-1)) hx hb hr (fun t ht hW => ⟨⟨(-1), (), rfl, (by simp [sp_led, c_2]), trivial⟩, hS.F ht⟩) hS.2.2 dX11_led_21
  · refine lv_aload_n hx hb dX11_led_10 rfl (lv_at hl 0 rfl) ?_
    refine lv_iload_n hx hb dX11_led_11 rfl (lv_at hl 1 rfl) ?_
    refine lv_iload_n hx hb dX11_led_12 rfl (lv_at hl 2 rfl) ?_
    refine lv_iload_n hx hb dX11_led_13 rfl (lv_at hl 3 rfl) ?_
    have hPc := hP.sub (ws' := [(h, .inr (11, [.ref h_0, .ref h_1, .ref h_2, .ref h_3, .ref h_4, .ref h_5, .ref h_6, .ref h_7, .ref h_8, .ref h_9, .ref h_10, .ref h_11, .ref h_12, .int h_13, .int h_14])), (h_5, .inr (1, [.ref h_5_0, .ref h_5_1, .ref h_5_2, .ref h_5_3, .ref h_5_4, .ref h_5_5, .ref h_5_6, .ref h_5_7, .ref h_5_8, .ref h_5_9, .ref h_5_10, .ref h_5_11, .ref h_5_12, .int 0]))]) [0, 1] rfl
    refine z_calli (va_runV (As := [.int a1, .int a2, .int a3]) (rest := []) ⟨hx, hb, hml, hown, hg⟩ (c_lookAt0 l D ct h a1 a2 a3 h_0 h_1 h_2 h_3 h_4 h_5 h_6 h_7 h_8 h_9 h_10 h_11 h_12 h_13 h_14 h_5_0 h_5_1 h_5_2 h_5_3 h_5_4 h_5_5 h_5_6 h_5_7 h_5_8 h_5_9 h_5_10 h_5_11 h_5_12 ) (cwV 3 hg (gd_V wd_1103 wd_1105 wd_22 wd_107 wd_1106) rfl rfl rfl (by decide +kernel) ⟨Nat.le_of_ble_eq_true rfl, Nat.le_of_ble_eq_true rfl⟩) (Wr_V hPc hKK (va_recv hK hPc (ci := 11) (q0 := 0) rfl rfl)) rfl rfl hl.1 rfl (lv_room (Nat.le_of_ble_eq_true rfl)) dX11_led_14 ⟨Nat.le_of_ble_eq_true rfl, Nat.le_of_ble_eq_true rfl⟩) (fun r_3 hw_3 => ?_)
    subst hw_3
    refine lv_if_ne (tgt := 22) hx hb dX11_led_17 (by decide) (fun h => absurd (by decide) h) (fun _ => ?_)
    refine lv_iconst (v := (-1)) hx hb dX11_led_20 (by decide) ?_
    exact W.iret (v := (-1)) hx hb hr (fun t ht hW => ⟨⟨(-1), (), rfl, (by simp [sp_led, c_2]), trivial⟩, hS.F ht⟩) hS.2.2 dX11_led_21
def sp_hide (a1 : Int32) : Int32 := -2
theorem dX11_hide_0 : decode cX11_hide 0 = .ok (.aload_n 0, 1) := by decide +kernel
theorem dX11_hide_1 : decode cX11_hide 1 = .ok (.getfield 39, 3) := by decide +kernel
theorem dX11_hide_4 : decode cX11_hide 4 = .ok (.iload_n 1, 1) := by decide +kernel
theorem dX11_hide_5 : decode cX11_hide 5 = .ok (.invokevirtual 190, 3) := by decide +kernel
theorem dX11_hide_8 : decode cX11_hide 8 = .ok (.ifCond .ne 10, 3) := by decide +kernel
theorem dX11_hide_11 : decode cX11_hide 11 = .ok (.aload_n 0, 1) := by decide +kernel
theorem dX11_hide_12 : decode cX11_hide 12 = .ok (.bipush (-2), 2) := by decide +kernel
theorem dX11_hide_14 : decode cX11_hide 14 = .ok (.invokevirtual 118, 3) := by decide +kernel
theorem dX11_hide_17 : decode cX11_hide 17 = .ok (.ireturn, 1) := by decide +kernel
set_option maxHeartbeats 4000000 in
set_option maxRecDepth 100000 in
theorem c_hide (l : Launch) (D : va_G) (ct : Nat → ClassId) (h : Nat) (a1 : Int32) (h_0 : Nat) (h_1 : Nat) (h_2 : Nat) (h_3 : Nat) (h_4 : Nat) (h_5 : Nat) (h_6 : Nat) (h_7 : Nat) (h_8 : Nat) (h_9 : Nat) (h_10 : Nat) (h_11 : Nat) (h_12 : Nat) (h_13 : Int32) (h_14 : Int32) (h_5_0 : Nat) (h_5_1 : Nat) (h_5_2 : Nat) (h_5_3 : Nat) (h_5_4 : Nat) (h_5_5 : Nat) (h_5_6 : Nat) (h_5_7 : Nat) (h_5_8 : Nat) (h_5_9 : Nat) (h_5_10 : Nat) (h_5_11 : Nat) (h_5_12 : Nat) (sz : Nat)  : Met l yX11_hide (wk yX11_hide cX11_hide 2 (some .int)) { frames := 1, cells := 0, slots := 0, locals := 21 } (va_Pc [.ref h, .int a1] (Wd D [(h, .inr (11, [.ref h_0, .ref h_1, .ref h_2, .ref h_3, .ref h_4, .ref h_5, .ref h_6, .ref h_7, .ref h_8, .ref h_9, .ref h_10, .ref h_11, .ref h_12, .int h_13, .int h_14])), (h_5, .inr (1, [.ref h_5_0, .ref h_5_1, .ref h_5_2, .ref h_5_3, .ref h_5_4, .ref h_5_5, .ref h_5_6, .ref h_5_7, .ref h_5_8, .ref h_5_9, .ref h_5_10, .ref h_5_11, .ref h_5_12, .int 0]))] ct sz)) (va_Qi (fun (r : Int32) (u : Unit) => r = sp_hide a1) (fun _ _ => True) (va_A [(h, .inr (11, [.ref h_0, .ref h_1, .ref h_2, .ref h_3, .ref h_4, .ref h_5, .ref h_6, .ref h_7, .ref h_8, .ref h_9, .ref h_10, .ref h_11, .ref h_12, .int h_13, .int h_14])), (h_5, .inr (1, [.ref h_5_0, .ref h_5_1, .ref h_5_2, .ref h_5_3, .ref h_5_4, .ref h_5_5, .ref h_5_6, .ref h_5_7, .ref h_5_8, .ref h_5_9, .ref h_5_10, .ref h_5_11, .ref h_5_12, .int 0]))] sz)) 0 0 (va_A [(h, .inr (11, [.ref h_0, .ref h_1, .ref h_2, .ref h_3, .ref h_4, .ref h_5, .ref h_6, .ref h_7, .ref h_8, .ref h_9, .ref h_10, .ref h_11, .ref h_12, .int h_13, .int h_14])), (h_5, .inr (1, [.ref h_5_0, .ref h_5_1, .ref h_5_2, .ref h_5_3, .ref h_5_4, .ref h_5_5, .ref h_5_6, .ref h_5_7, .ref h_5_8, .ref h_5_9, .ref h_5_10, .ref h_5_11, .ref h_5_12, .int 0]))] sz) := by
  refine Met.ofW (cc := cX11_hide) (maxL := 2) (ret := (some .int)) (by decide) rfl ?_
  intro p e s m args below meth c s₁ B hml hv
  obtain ⟨rfl, hsz, hP, hKK, hD0⟩ := hv
  have hK := hKK.1
  have hx := B.exec
  have hb := B.bytes
  have hr := B.returns
  have hg : ∀ w ∈ gl, w.before _ s = true := fun w h => atoms_spec (ws := wk yX11_hide cX11_hide 2 (some .int)) B.pre w (List.mem_cons_of_mem _ h)
  have hown : s.vm.findClass RX11 = some m.cls := findClass_of_methodNamed B.named
  have hlocks := B.notSynchronized
  subst hsz
  have hD := hD0.self (sz := s.heap.size)
  generalize hAe : va_A [(h, .inr (11, [.ref h_0, .ref h_1, .ref h_2, .ref h_3, .ref h_4, .ref h_5, .ref h_6, .ref h_7, .ref h_8, .ref h_9, .ref h_10, .ref h_11, .ref h_12, .int h_13, .int h_14])), (h_5, .inr (1, [.ref h_5_0, .ref h_5_1, .ref h_5_2, .ref h_5_3, .ref h_5_4, .ref h_5_5, .ref h_5_6, .ref h_5_7, .ref h_5_8, .ref h_5_9, .ref h_5_10, .ref h_5_11, .ref h_5_12, .int 0]))] s.heap.size = A at hD ⊢
  have hA : ∀ q : Nat, s.heap.size ≤ q → A q := fun q h => by rw [← hAe]; exact Or.inr h
  have hS : va_S A s.heap s.heap [] := va_S.rf
  have hl := lv_entry ([.ref h, .int a1]) (n := 2) (Nat.le_of_ble_eq_true rfl)
  rw [lg_entry_eq]
  generalize (lg_sl ([.ref h, .int a1]) ++ List.replicate (2 - (lg_sl ([.ref h, .int a1])).length) Slot.unset).toArray = ls at hl ⊢
  have hl : lv_has ls 2 [(0, .ref h), (1, .int a1)] := hl
  refine lv_aload_n hx hb dX11_hide_0 rfl (lv_at hl 0 rfl) ?_
  refine va_get (D := D) (ci := 11) (v := .ref h_5) (C := RX11) (T := TX11) (N := 15) hx hb hg inX11 hown hK hP 0 rfl rfl 5 (by decide) (hg _ wd_688) (fun _ h9 => h9) rfl dX11_hide_1 ?_
  refine lv_iload_n hx hb dX11_hide_4 rfl (lv_at hl 1 rfl) ?_
  have hPc := hP.sub (ws' := [(h_5, .inr (1, [.ref h_5_0, .ref h_5_1, .ref h_5_2, .ref h_5_3, .ref h_5_4, .ref h_5_5, .ref h_5_6, .ref h_5_7, .ref h_5_8, .ref h_5_9, .ref h_5_10, .ref h_5_11, .ref h_5_12, .int 0]))]) [1] rfl
  refine z_calli (va_runV (As := [.int a1]) (rest := []) ⟨hx, hb, hml, hown, hg⟩ (c_holds0 l D ct h_5 a1 h_5_0 h_5_1 h_5_2 h_5_3 h_5_4 h_5_5 h_5_6 h_5_7 h_5_8 h_5_9 h_5_10 h_5_11 h_5_12 ) (cwV 1 hg (gd_V wd_992 wd_993 wd_994 wd_111 wd_995) rfl rfl rfl (by decide +kernel) ⟨Nat.le_of_ble_eq_true rfl, Nat.le_of_ble_eq_true rfl⟩) (Wr_V hPc hKK (va_recv hK hPc (ci := 1) (q0 := 0) rfl rfl)) rfl rfl hl.1 rfl (lv_room (Nat.le_of_ble_eq_true rfl)) dX11_hide_5 ⟨Nat.le_of_ble_eq_true rfl, Nat.le_of_ble_eq_true rfl⟩) (fun r_1 hw_1 => ?_)
  subst hw_1
  refine lv_if_ne (tgt := 18) hx hb dX11_hide_8 (by decide) (fun h => absurd (by decide) h) (fun _ => ?_)
  refine lv_aload_n hx hb dX11_hide_11 rfl (lv_at hl 0 rfl) ?_
  refine lv_bipush (v := (-2)) hx hb dX11_hide_12 (by decide) ?_
  have hPc := hP.sub (ws' := [(h, .inr (11, [.ref h_0, .ref h_1, .ref h_2, .ref h_3, .ref h_4, .ref h_5, .ref h_6, .ref h_7, .ref h_8, .ref h_9, .ref h_10, .ref h_11, .ref h_12, .int h_13, .int h_14]))]) [0] rfl
  have hDc := hD.sub (ws' := [(h, .inr (11, [.ref h_0, .ref h_1, .ref h_2, .ref h_3, .ref h_4, .ref h_5, .ref h_6, .ref h_7, .ref h_8, .ref h_9, .ref h_10, .ref h_11, .ref h_12, .int h_13, .int h_14]))]) [0] (by decide) rfl
  have hFc := va_free (wc := [(h, .inr (11, [.ref h_0, .ref h_1, .ref h_2, .ref h_3, .ref h_4, .ref h_5, .ref h_6, .ref h_7, .ref h_8, .ref h_9, .ref h_10, .ref h_11, .ref h_12, .int h_13, .int h_14]))]) hD hS hA [0] rfl
  refine va_calli (va_runV (As := [.int (-2)]) (rest := []) ⟨hx, hb, hml, hown, hg⟩ (c_refuse l D ct h (-2) h_0 h_1 h_2 h_3 h_4 h_5 h_6 h_7 h_8 h_9 h_10 h_11 h_12 h_13 h_14 s.heap.size ) (cwV 1 hg (gd_V wd_778 wd_780 wd_3 wd_107 wd_781) rfl rfl rfl (by decide +kernel) ⟨Nat.le_of_ble_eq_true rfl, Nat.le_of_ble_eq_true rfl⟩) (Wd_V hPc hKK hDc (va_recv hK hPc (ci := 11) (q0 := 0) rfl rfl)) rfl rfl hl.1 rfl (lv_room (Nat.le_of_ble_eq_true rfl)) dX11_hide_14 ⟨Nat.le_of_ble_eq_true rfl, Nat.le_of_ble_eq_true rfl⟩) hS (fun q _ h => hFc q h) hFc (fun r_3 u_3 t_3 H1 locs ht_3 hvm_3 hw_3 hB_3 hz_3 hk_3 hS => ?_)
  obtain ⟨hP, hD⟩ := va_join (wr := [(h_5, .inr (1, [.ref h_5_0, .ref h_5_1, .ref h_5_2, .ref h_5_3, .ref h_5_4, .ref h_5_5, .ref h_5_6, .ref h_5_7, .ref h_5_8, .ref h_5_9, .ref h_5_10, .ref h_5_11, .ref h_5_12, .int 0]))]) (w1 := []) hP hD [0] [1] rfl rfl (by decide) (by decide) hk_3 hFc (fun k q h => by simp at h) ⟨fun i j p q h => by simp at h, fun k q h => by simp at h⟩
  generalize H1 = H at hP hS ⊢
  have hP : va_P D vwCl [(h_5, .inr (1, [.ref h_5_0, .ref h_5_1, .ref h_5_2, .ref h_5_3, .ref h_5_4, .ref h_5_5, .ref h_5_6, .ref h_5_7, .ref h_5_8, .ref h_5_9, .ref h_5_10, .ref h_5_11, .ref h_5_12, .int 0]))] H := hP
  have hD : va_D A [(h_5, .inr (1, [.ref h_5_0, .ref h_5_1, .ref h_5_2, .ref h_5_3, .ref h_5_4, .ref h_5_5, .ref h_5_6, .ref h_5_7, .ref h_5_8, .ref h_5_9, .ref h_5_10, .ref h_5_11, .ref h_5_12, .int 0]))] := hD
  subst hw_3
  exact W.iret (v := (-2)) hx hb hr (fun t ht hW => ⟨⟨(-2), (), rfl, (by simp [sp_hide]), trivial⟩, hS.F ht⟩) hS.2.2 dX11_hide_17
def sp_act (a1 : Int32) (a2 : Int32) (a3 : Int32) (a4 : Int32) : Int32 := if bw a2 0 5 = 0 then (-1) else if bw a3 0 40000 = 0 then (-1) else if bw a4 0 40000 = 0 then (-1) else (-2)
theorem dX11_act_0 : decode cX11_act 0 = .ok (.iload_n 2, 1) := by decide +kernel
theorem dX11_act_1 : decode cX11_act 1 = .ok (.iconst 0, 1) := by decide +kernel
theorem dX11_act_2 : decode cX11_act 2 = .ok (.iconst 5, 1) := by decide +kernel
theorem dX11_act_3 : decode cX11_act 3 = .ok (.invokestatic 150, 3) := by decide +kernel
theorem dX11_act_6 : decode cX11_act 6 = .ok (.ifCond .eq 18, 3) := by decide +kernel
theorem dX11_act_24 : decode cX11_act 24 = .ok (.aload_n 0, 1) := by decide +kernel
theorem dX11_act_25 : decode cX11_act 25 = .ok (.iconst (-1), 1) := by decide +kernel
theorem dX11_act_26 : decode cX11_act 26 = .ok (.invokevirtual 118, 3) := by decide +kernel
theorem dX11_act_29 : decode cX11_act 29 = .ok (.ireturn, 1) := by decide +kernel
theorem dX11_act_9 : decode cX11_act 9 = .ok (.iload_n 3, 1) := by decide +kernel
theorem dX11_act_10 : decode cX11_act 10 = .ok (.invokestatic 159, 3) := by decide +kernel
theorem dX11_act_13 : decode cX11_act 13 = .ok (.ifCond .eq 11, 3) := by decide +kernel
theorem dX11_act_16 : decode cX11_act 16 = .ok (.iload 4, 2) := by decide +kernel
theorem dX11_act_18 : decode cX11_act 18 = .ok (.invokestatic 159, 3) := by decide +kernel
theorem dX11_act_21 : decode cX11_act 21 = .ok (.ifCond .ne 9, 3) := by decide +kernel
theorem dX11_act_30 : decode cX11_act 30 = .ok (.aload_n 0, 1) := by decide +kernel
theorem dX11_act_31 : decode cX11_act 31 = .ok (.getfield 39, 3) := by decide +kernel
theorem dX11_act_34 : decode cX11_act 34 = .ok (.iload_n 1, 1) := by decide +kernel
theorem dX11_act_35 : decode cX11_act 35 = .ok (.invokevirtual 190, 3) := by decide +kernel
theorem dX11_act_38 : decode cX11_act 38 = .ok (.ifCond .ne 10, 3) := by decide +kernel
theorem dX11_act_41 : decode cX11_act 41 = .ok (.aload_n 0, 1) := by decide +kernel
theorem dX11_act_42 : decode cX11_act 42 = .ok (.bipush (-2), 2) := by decide +kernel
theorem dX11_act_44 : decode cX11_act 44 = .ok (.invokevirtual 118, 3) := by decide +kernel
theorem dX11_act_47 : decode cX11_act 47 = .ok (.ireturn, 1) := by decide +kernel
set_option maxHeartbeats 4000000 in
set_option maxRecDepth 100000 in
theorem c_act (l : Launch) (D : va_G) (ct : Nat → ClassId) (h : Nat) (a1 : Int32) (a2 : Int32) (a3 : Int32) (a4 : Int32) (h_0 : Nat) (h_1 : Nat) (h_2 : Nat) (h_3 : Nat) (h_4 : Nat) (h_5 : Nat) (h_6 : Nat) (h_7 : Nat) (h_8 : Nat) (h_9 : Nat) (h_10 : Nat) (h_11 : Nat) (h_12 : Nat) (h_13 : Int32) (h_14 : Int32) (h_5_0 : Nat) (h_5_1 : Nat) (h_5_2 : Nat) (h_5_3 : Nat) (h_5_4 : Nat) (h_5_5 : Nat) (h_5_6 : Nat) (h_5_7 : Nat) (h_5_8 : Nat) (h_5_9 : Nat) (h_5_10 : Nat) (h_5_11 : Nat) (h_5_12 : Nat) (h_6_0 : Nat) (h_6_1 : Nat) (h_6_2 : Nat) (h_6_3 : Nat) (h_6_4 : Nat) (h_6_5 : Nat) (sz : Nat)  : Met l yX11_act (wk yX11_act cX11_act 5 (some .int)) { frames := 2, cells := 0, slots := 0, locals := 42 } (va_Pc [.ref h, .int a1, .int a2, .int a3, .int a4] (Wd D [(h, .inr (11, [.ref h_0, .ref h_1, .ref h_2, .ref h_3, .ref h_4, .ref h_5, .ref h_6, .ref h_7, .ref h_8, .ref h_9, .ref h_10, .ref h_11, .ref h_12, .int h_13, .int h_14])), (h_5, .inr (1, [.ref h_5_0, .ref h_5_1, .ref h_5_2, .ref h_5_3, .ref h_5_4, .ref h_5_5, .ref h_5_6, .ref h_5_7, .ref h_5_8, .ref h_5_9, .ref h_5_10, .ref h_5_11, .ref h_5_12, .int 0])), (h_6, .inr (0, [.ref h_6_0, .ref h_6_1, .ref h_6_2, .ref h_6_3, .ref h_6_4, .ref h_6_5, .int 0, .int 0]))] ct sz)) (va_Qi (fun (r : Int32) (u : Unit) => r = sp_act a1 a2 a3 a4) (fun _ _ => True) (va_A [(h, .inr (11, [.ref h_0, .ref h_1, .ref h_2, .ref h_3, .ref h_4, .ref h_5, .ref h_6, .ref h_7, .ref h_8, .ref h_9, .ref h_10, .ref h_11, .ref h_12, .int h_13, .int h_14])), (h_5, .inr (1, [.ref h_5_0, .ref h_5_1, .ref h_5_2, .ref h_5_3, .ref h_5_4, .ref h_5_5, .ref h_5_6, .ref h_5_7, .ref h_5_8, .ref h_5_9, .ref h_5_10, .ref h_5_11, .ref h_5_12, .int 0])), (h_6, .inr (0, [.ref h_6_0, .ref h_6_1, .ref h_6_2, .ref h_6_3, .ref h_6_4, .ref h_6_5, .int 0, .int 0]))] sz)) 0 0 (va_A [(h, .inr (11, [.ref h_0, .ref h_1, .ref h_2, .ref h_3, .ref h_4, .ref h_5, .ref h_6, .ref h_7, .ref h_8, .ref h_9, .ref h_10, .ref h_11, .ref h_12, .int h_13, .int h_14])), (h_5, .inr (1, [.ref h_5_0, .ref h_5_1, .ref h_5_2, .ref h_5_3, .ref h_5_4, .ref h_5_5, .ref h_5_6, .ref h_5_7, .ref h_5_8, .ref h_5_9, .ref h_5_10, .ref h_5_11, .ref h_5_12, .int 0])), (h_6, .inr (0, [.ref h_6_0, .ref h_6_1, .ref h_6_2, .ref h_6_3, .ref h_6_4, .ref h_6_5, .int 0, .int 0]))] sz) := by
  refine Met.ofW (cc := cX11_act) (maxL := 5) (ret := (some .int)) (by decide) rfl ?_
  intro p e s m args below meth c s₁ B hml hv
  obtain ⟨rfl, hsz, hP, hKK, hD0⟩ := hv
  have hK := hKK.1
  have hx := B.exec
  have hb := B.bytes
  have hr := B.returns
  have hg : ∀ w ∈ gl, w.before _ s = true := fun w h => atoms_spec (ws := wk yX11_act cX11_act 5 (some .int)) B.pre w (List.mem_cons_of_mem _ h)
  have hown : s.vm.findClass RX11 = some m.cls := findClass_of_methodNamed B.named
  have hlocks := B.notSynchronized
  subst hsz
  have hD := hD0.self (sz := s.heap.size)
  generalize hAe : va_A [(h, .inr (11, [.ref h_0, .ref h_1, .ref h_2, .ref h_3, .ref h_4, .ref h_5, .ref h_6, .ref h_7, .ref h_8, .ref h_9, .ref h_10, .ref h_11, .ref h_12, .int h_13, .int h_14])), (h_5, .inr (1, [.ref h_5_0, .ref h_5_1, .ref h_5_2, .ref h_5_3, .ref h_5_4, .ref h_5_5, .ref h_5_6, .ref h_5_7, .ref h_5_8, .ref h_5_9, .ref h_5_10, .ref h_5_11, .ref h_5_12, .int 0])), (h_6, .inr (0, [.ref h_6_0, .ref h_6_1, .ref h_6_2, .ref h_6_3, .ref h_6_4, .ref h_6_5, .int 0, .int 0]))] s.heap.size = A at hD ⊢
  have hA : ∀ q : Nat, s.heap.size ≤ q → A q := fun q h => by rw [← hAe]; exact Or.inr h
  have hS : va_S A s.heap s.heap [] := va_S.rf
  have hl := lv_entry ([.ref h, .int a1, .int a2, .int a3, .int a4]) (n := 5) (Nat.le_of_ble_eq_true rfl)
  rw [lg_entry_eq]
  generalize (lg_sl ([.ref h, .int a1, .int a2, .int a3, .int a4]) ++ List.replicate (5 - (lg_sl ([.ref h, .int a1, .int a2, .int a3, .int a4])).length) Slot.unset).toArray = ls at hl ⊢
  have hl : lv_has ls 5 [(0, .ref h), (1, .int a1), (2, .int a2), (3, .int a3), (4, .int a4)] := hl
  refine lv_iload_n hx hb dX11_act_0 rfl (lv_at hl 2 rfl) ?_
  refine lv_iconst (v := 0) hx hb dX11_act_1 (by decide) ?_
  refine lv_iconst (v := 5) hx hb dX11_act_2 (by decide) ?_
  have hPc := hP.sub (ws' := []) [] rfl
  refine z_calli (va_runS (As := [.int a2, .int 0, .int 5]) (rest := []) ⟨hx, hb, hml, hown, hg⟩ (c_within l D ct a2 0 5 ) (va_cwS 3 hg (gd_S wd_959 wd_917 wd_107 wd_918) rfl rfl rfl (by decide +kernel) ⟨Nat.le_of_ble_eq_true rfl, Nat.le_of_ble_eq_true rfl⟩) (Wr_S hPc hKK) rfl rfl hl.1 rfl (lv_room (Nat.le_of_ble_eq_true rfl)) dX11_act_3 ⟨Nat.le_of_ble_eq_true rfl, Nat.le_of_ble_eq_true rfl⟩) (fun r_1 hw_1 => ?_)
  subst hw_1
  refine lv_if_eq (tgt := 24) hx hb dX11_act_6 (by decide) (fun c_2 => ?_) (fun c_2 => ?_)
  · refine lv_aload_n hx hb dX11_act_24 rfl (lv_at hl 0 rfl) ?_
    refine lv_iconst (v := (-1)) hx hb dX11_act_25 (by decide) ?_
    have hPc := hP.sub (ws' := [(h, .inr (11, [.ref h_0, .ref h_1, .ref h_2, .ref h_3, .ref h_4, .ref h_5, .ref h_6, .ref h_7, .ref h_8, .ref h_9, .ref h_10, .ref h_11, .ref h_12, .int h_13, .int h_14]))]) [0] rfl
    have hDc := hD.sub (ws' := [(h, .inr (11, [.ref h_0, .ref h_1, .ref h_2, .ref h_3, .ref h_4, .ref h_5, .ref h_6, .ref h_7, .ref h_8, .ref h_9, .ref h_10, .ref h_11, .ref h_12, .int h_13, .int h_14]))]) [0] (by decide) rfl
    have hFc := va_free (wc := [(h, .inr (11, [.ref h_0, .ref h_1, .ref h_2, .ref h_3, .ref h_4, .ref h_5, .ref h_6, .ref h_7, .ref h_8, .ref h_9, .ref h_10, .ref h_11, .ref h_12, .int h_13, .int h_14]))]) hD hS hA [0] rfl
    refine va_calli (va_runV (As := [.int (-1)]) (rest := []) ⟨hx, hb, hml, hown, hg⟩ (c_refuse l D ct h (-1) h_0 h_1 h_2 h_3 h_4 h_5 h_6 h_7 h_8 h_9 h_10 h_11 h_12 h_13 h_14 s.heap.size ) (cwV 1 hg (gd_V wd_778 wd_780 wd_3 wd_107 wd_781) rfl rfl rfl (by decide +kernel) ⟨Nat.le_of_ble_eq_true rfl, Nat.le_of_ble_eq_true rfl⟩) (Wd_V hPc hKK hDc (va_recv hK hPc (ci := 11) (q0 := 0) rfl rfl)) rfl rfl hl.1 rfl (lv_room (Nat.le_of_ble_eq_true rfl)) dX11_act_26 ⟨Nat.le_of_ble_eq_true rfl, Nat.le_of_ble_eq_true rfl⟩) hS (fun q _ h => hFc q h) hFc (fun r_3 u_3 t_3 H1 locs ht_3 hvm_3 hw_3 hB_3 hz_3 hk_3 hS => ?_)
    obtain ⟨hP, hD⟩ := va_join (wr := [(h_5, .inr (1, [.ref h_5_0, .ref h_5_1, .ref h_5_2, .ref h_5_3, .ref h_5_4, .ref h_5_5, .ref h_5_6, .ref h_5_7, .ref h_5_8, .ref h_5_9, .ref h_5_10, .ref h_5_11, .ref h_5_12, .int 0])), (h_6, .inr (0, [.ref h_6_0, .ref h_6_1, .ref h_6_2, .ref h_6_3, .ref h_6_4, .ref h_6_5, .int 0, .int 0]))]) (w1 := []) hP hD [0] [1, 2] rfl rfl (by decide) (by decide) hk_3 hFc (fun k q h => by simp at h) ⟨fun i j p q h => by simp at h, fun k q h => by simp at h⟩
    generalize H1 = H at hP hS ⊢
    have hP : va_P D vwCl [(h_5, .inr (1, [.ref h_5_0, .ref h_5_1, .ref h_5_2, .ref h_5_3, .ref h_5_4, .ref h_5_5, .ref h_5_6, .ref h_5_7, .ref h_5_8, .ref h_5_9, .ref h_5_10, .ref h_5_11, .ref h_5_12, .int 0])), (h_6, .inr (0, [.ref h_6_0, .ref h_6_1, .ref h_6_2, .ref h_6_3, .ref h_6_4, .ref h_6_5, .int 0, .int 0]))] H := hP
    have hD : va_D A [(h_5, .inr (1, [.ref h_5_0, .ref h_5_1, .ref h_5_2, .ref h_5_3, .ref h_5_4, .ref h_5_5, .ref h_5_6, .ref h_5_7, .ref h_5_8, .ref h_5_9, .ref h_5_10, .ref h_5_11, .ref h_5_12, .int 0])), (h_6, .inr (0, [.ref h_6_0, .ref h_6_1, .ref h_6_2, .ref h_6_3, .ref h_6_4, .ref h_6_5, .int 0, .int 0]))] := hD
    subst hw_3
    exact W.iret (v := (-1)) hx hb hr (fun t ht hW => ⟨⟨(-1), (), rfl, (by simp [sp_act, c_2]), trivial⟩, hS.F ht⟩) hS.2.2 dX11_act_29
  · refine lv_iload_n hx hb dX11_act_9 rfl (lv_at hl 3 rfl) ?_
    have hPc := hP.sub (ws' := []) [] rfl
    refine z_calli (va_runS (As := [.int a3]) (rest := []) ⟨hx, hb, hml, hown, hg⟩ (c_isDay l D ct a3 ) (va_cwS 1 hg (gd_S wd_964 wd_965 wd_107 wd_966) rfl rfl rfl (by decide +kernel) ⟨Nat.le_of_ble_eq_true rfl, Nat.le_of_ble_eq_true rfl⟩) (Wr_S hPc hKK) rfl rfl hl.1 rfl (lv_room (Nat.le_of_ble_eq_true rfl)) dX11_act_10 ⟨Nat.le_of_ble_eq_true rfl, Nat.le_of_ble_eq_true rfl⟩) (fun r_4 hw_4 => ?_)
    subst hw_4
    refine lv_if_eq (tgt := 24) hx hb dX11_act_13 (by decide) (fun c_5 => ?_) (fun c_5 => ?_)
    · refine lv_aload_n hx hb dX11_act_24 rfl (lv_at hl 0 rfl) ?_
      refine lv_iconst (v := (-1)) hx hb dX11_act_25 (by decide) ?_
      have hPc := hP.sub (ws' := [(h, .inr (11, [.ref h_0, .ref h_1, .ref h_2, .ref h_3, .ref h_4, .ref h_5, .ref h_6, .ref h_7, .ref h_8, .ref h_9, .ref h_10, .ref h_11, .ref h_12, .int h_13, .int h_14]))]) [0] rfl
      have hDc := hD.sub (ws' := [(h, .inr (11, [.ref h_0, .ref h_1, .ref h_2, .ref h_3, .ref h_4, .ref h_5, .ref h_6, .ref h_7, .ref h_8, .ref h_9, .ref h_10, .ref h_11, .ref h_12, .int h_13, .int h_14]))]) [0] (by decide) rfl
      have hFc := va_free (wc := [(h, .inr (11, [.ref h_0, .ref h_1, .ref h_2, .ref h_3, .ref h_4, .ref h_5, .ref h_6, .ref h_7, .ref h_8, .ref h_9, .ref h_10, .ref h_11, .ref h_12, .int h_13, .int h_14]))]) hD hS hA [0] rfl
      refine va_calli (va_runV (As := [.int (-1)]) (rest := []) ⟨hx, hb, hml, hown, hg⟩ (c_refuse l D ct h (-1) h_0 h_1 h_2 h_3 h_4 h_5 h_6 h_7 h_8 h_9 h_10 h_11 h_12 h_13 h_14 s.heap.size ) (cwV 1 hg (gd_V wd_778 wd_780 wd_3 wd_107 wd_781) rfl rfl rfl (by decide +kernel) ⟨Nat.le_of_ble_eq_true rfl, Nat.le_of_ble_eq_true rfl⟩) (Wd_V hPc hKK hDc (va_recv hK hPc (ci := 11) (q0 := 0) rfl rfl)) rfl rfl hl.1 rfl (lv_room (Nat.le_of_ble_eq_true rfl)) dX11_act_26 ⟨Nat.le_of_ble_eq_true rfl, Nat.le_of_ble_eq_true rfl⟩) hS (fun q _ h => hFc q h) hFc (fun r_6 u_6 t_6 H1 locs ht_6 hvm_6 hw_6 hB_6 hz_6 hk_6 hS => ?_)
      obtain ⟨hP, hD⟩ := va_join (wr := [(h_5, .inr (1, [.ref h_5_0, .ref h_5_1, .ref h_5_2, .ref h_5_3, .ref h_5_4, .ref h_5_5, .ref h_5_6, .ref h_5_7, .ref h_5_8, .ref h_5_9, .ref h_5_10, .ref h_5_11, .ref h_5_12, .int 0])), (h_6, .inr (0, [.ref h_6_0, .ref h_6_1, .ref h_6_2, .ref h_6_3, .ref h_6_4, .ref h_6_5, .int 0, .int 0]))]) (w1 := []) hP hD [0] [1, 2] rfl rfl (by decide) (by decide) hk_6 hFc (fun k q h => by simp at h) ⟨fun i j p q h => by simp at h, fun k q h => by simp at h⟩
      generalize H1 = H at hP hS ⊢
      have hP : va_P D vwCl [(h_5, .inr (1, [.ref h_5_0, .ref h_5_1, .ref h_5_2, .ref h_5_3, .ref h_5_4, .ref h_5_5, .ref h_5_6, .ref h_5_7, .ref h_5_8, .ref h_5_9, .ref h_5_10, .ref h_5_11, .ref h_5_12, .int 0])), (h_6, .inr (0, [.ref h_6_0, .ref h_6_1, .ref h_6_2, .ref h_6_3, .ref h_6_4, .ref h_6_5, .int 0, .int 0]))] H := hP
      have hD : va_D A [(h_5, .inr (1, [.ref h_5_0, .ref h_5_1, .ref h_5_2, .ref h_5_3, .ref h_5_4, .ref h_5_5, .ref h_5_6, .ref h_5_7, .ref h_5_8, .ref h_5_9, .ref h_5_10, .ref h_5_11, .ref h_5_12, .int 0])), (h_6, .inr (0, [.ref h_6_0, .ref h_6_1, .ref h_6_2, .ref h_6_3, .ref h_6_4, .ref h_6_5, .int 0, .int 0]))] := hD
      subst hw_6
      exact W.iret (v := (-1)) hx hb hr (fun t ht hW => ⟨⟨(-1), (), rfl, (by simp [sp_act, c_2, c_5]), trivial⟩, hS.F ht⟩) hS.2.2 dX11_act_29
    · refine lv_iload hx hb dX11_act_16 (lv_at hl 4 rfl) ?_
      have hPc := hP.sub (ws' := []) [] rfl
      refine z_calli (va_runS (As := [.int a4]) (rest := []) ⟨hx, hb, hml, hown, hg⟩ (c_isDay l D ct a4 ) (va_cwS 1 hg (gd_S wd_964 wd_965 wd_107 wd_966) rfl rfl rfl (by decide +kernel) ⟨Nat.le_of_ble_eq_true rfl, Nat.le_of_ble_eq_true rfl⟩) (Wr_S hPc hKK) rfl rfl hl.1 rfl (lv_room (Nat.le_of_ble_eq_true rfl)) dX11_act_18 ⟨Nat.le_of_ble_eq_true rfl, Nat.le_of_ble_eq_true rfl⟩) (fun r_7 hw_7 => ?_)
      subst hw_7
      refine lv_if_ne (tgt := 30) hx hb dX11_act_21 (by decide) (fun c_8 => ?_) (fun c_8 => ?_)
      · refine lv_aload_n hx hb dX11_act_30 rfl (lv_at hl 0 rfl) ?_
        refine va_get (D := D) (ci := 11) (v := .ref h_5) (C := RX11) (T := TX11) (N := 15) hx hb hg inX11 hown hK hP 0 rfl rfl 5 (by decide) (hg _ wd_688) (fun _ h9 => h9) rfl dX11_act_31 ?_
        refine lv_iload_n hx hb dX11_act_34 rfl (lv_at hl 1 rfl) ?_
        have hPc := hP.sub (ws' := [(h_5, .inr (1, [.ref h_5_0, .ref h_5_1, .ref h_5_2, .ref h_5_3, .ref h_5_4, .ref h_5_5, .ref h_5_6, .ref h_5_7, .ref h_5_8, .ref h_5_9, .ref h_5_10, .ref h_5_11, .ref h_5_12, .int 0]))]) [1] rfl
        refine z_calli (va_runV (As := [.int a1]) (rest := []) ⟨hx, hb, hml, hown, hg⟩ (c_holds0 l D ct h_5 a1 h_5_0 h_5_1 h_5_2 h_5_3 h_5_4 h_5_5 h_5_6 h_5_7 h_5_8 h_5_9 h_5_10 h_5_11 h_5_12 ) (cwV 1 hg (gd_V wd_992 wd_993 wd_994 wd_111 wd_995) rfl rfl rfl (by decide +kernel) ⟨Nat.le_of_ble_eq_true rfl, Nat.le_of_ble_eq_true rfl⟩) (Wr_V hPc hKK (va_recv hK hPc (ci := 1) (q0 := 0) rfl rfl)) rfl rfl hl.1 rfl (lv_room (Nat.le_of_ble_eq_true rfl)) dX11_act_35 ⟨Nat.le_of_ble_eq_true rfl, Nat.le_of_ble_eq_true rfl⟩) (fun r_9 hw_9 => ?_)
        subst hw_9
        refine lv_if_ne (tgt := 48) hx hb dX11_act_38 (by decide) (fun h => absurd (by decide) h) (fun _ => ?_)
        refine lv_aload_n hx hb dX11_act_41 rfl (lv_at hl 0 rfl) ?_
        refine lv_bipush (v := (-2)) hx hb dX11_act_42 (by decide) ?_
        have hPc := hP.sub (ws' := [(h, .inr (11, [.ref h_0, .ref h_1, .ref h_2, .ref h_3, .ref h_4, .ref h_5, .ref h_6, .ref h_7, .ref h_8, .ref h_9, .ref h_10, .ref h_11, .ref h_12, .int h_13, .int h_14]))]) [0] rfl
        have hDc := hD.sub (ws' := [(h, .inr (11, [.ref h_0, .ref h_1, .ref h_2, .ref h_3, .ref h_4, .ref h_5, .ref h_6, .ref h_7, .ref h_8, .ref h_9, .ref h_10, .ref h_11, .ref h_12, .int h_13, .int h_14]))]) [0] (by decide) rfl
        have hFc := va_free (wc := [(h, .inr (11, [.ref h_0, .ref h_1, .ref h_2, .ref h_3, .ref h_4, .ref h_5, .ref h_6, .ref h_7, .ref h_8, .ref h_9, .ref h_10, .ref h_11, .ref h_12, .int h_13, .int h_14]))]) hD hS hA [0] rfl
        refine va_calli (va_runV (As := [.int (-2)]) (rest := []) ⟨hx, hb, hml, hown, hg⟩ (c_refuse l D ct h (-2) h_0 h_1 h_2 h_3 h_4 h_5 h_6 h_7 h_8 h_9 h_10 h_11 h_12 h_13 h_14 s.heap.size ) (cwV 1 hg (gd_V wd_778 wd_780 wd_3 wd_107 wd_781) rfl rfl rfl (by decide +kernel) ⟨Nat.le_of_ble_eq_true rfl, Nat.le_of_ble_eq_true rfl⟩) (Wd_V hPc hKK hDc (va_recv hK hPc (ci := 11) (q0 := 0) rfl rfl)) rfl rfl hl.1 rfl (lv_room (Nat.le_of_ble_eq_true rfl)) dX11_act_44 ⟨Nat.le_of_ble_eq_true rfl, Nat.le_of_ble_eq_true rfl⟩) hS (fun q _ h => hFc q h) hFc (fun r_11 u_11 t_11 H1 locs ht_11 hvm_11 hw_11 hB_11 hz_11 hk_11 hS => ?_)
        obtain ⟨hP, hD⟩ := va_join (wr := [(h_5, .inr (1, [.ref h_5_0, .ref h_5_1, .ref h_5_2, .ref h_5_3, .ref h_5_4, .ref h_5_5, .ref h_5_6, .ref h_5_7, .ref h_5_8, .ref h_5_9, .ref h_5_10, .ref h_5_11, .ref h_5_12, .int 0])), (h_6, .inr (0, [.ref h_6_0, .ref h_6_1, .ref h_6_2, .ref h_6_3, .ref h_6_4, .ref h_6_5, .int 0, .int 0]))]) (w1 := []) hP hD [0] [1, 2] rfl rfl (by decide) (by decide) hk_11 hFc (fun k q h => by simp at h) ⟨fun i j p q h => by simp at h, fun k q h => by simp at h⟩
        generalize H1 = H at hP hS ⊢
        have hP : va_P D vwCl [(h_5, .inr (1, [.ref h_5_0, .ref h_5_1, .ref h_5_2, .ref h_5_3, .ref h_5_4, .ref h_5_5, .ref h_5_6, .ref h_5_7, .ref h_5_8, .ref h_5_9, .ref h_5_10, .ref h_5_11, .ref h_5_12, .int 0])), (h_6, .inr (0, [.ref h_6_0, .ref h_6_1, .ref h_6_2, .ref h_6_3, .ref h_6_4, .ref h_6_5, .int 0, .int 0]))] H := hP
        have hD : va_D A [(h_5, .inr (1, [.ref h_5_0, .ref h_5_1, .ref h_5_2, .ref h_5_3, .ref h_5_4, .ref h_5_5, .ref h_5_6, .ref h_5_7, .ref h_5_8, .ref h_5_9, .ref h_5_10, .ref h_5_11, .ref h_5_12, .int 0])), (h_6, .inr (0, [.ref h_6_0, .ref h_6_1, .ref h_6_2, .ref h_6_3, .ref h_6_4, .ref h_6_5, .int 0, .int 0]))] := hD
        subst hw_11
        exact W.iret (v := (-2)) hx hb hr (fun t ht hW => ⟨⟨(-2), (), rfl, (by simp [sp_act, c_2, c_5, c_8]), trivial⟩, hS.F ht⟩) hS.2.2 dX11_act_47
      · refine lv_aload_n hx hb dX11_act_24 rfl (lv_at hl 0 rfl) ?_
        refine lv_iconst (v := (-1)) hx hb dX11_act_25 (by decide) ?_
        have hPc := hP.sub (ws' := [(h, .inr (11, [.ref h_0, .ref h_1, .ref h_2, .ref h_3, .ref h_4, .ref h_5, .ref h_6, .ref h_7, .ref h_8, .ref h_9, .ref h_10, .ref h_11, .ref h_12, .int h_13, .int h_14]))]) [0] rfl
        have hDc := hD.sub (ws' := [(h, .inr (11, [.ref h_0, .ref h_1, .ref h_2, .ref h_3, .ref h_4, .ref h_5, .ref h_6, .ref h_7, .ref h_8, .ref h_9, .ref h_10, .ref h_11, .ref h_12, .int h_13, .int h_14]))]) [0] (by decide) rfl
        have hFc := va_free (wc := [(h, .inr (11, [.ref h_0, .ref h_1, .ref h_2, .ref h_3, .ref h_4, .ref h_5, .ref h_6, .ref h_7, .ref h_8, .ref h_9, .ref h_10, .ref h_11, .ref h_12, .int h_13, .int h_14]))]) hD hS hA [0] rfl
        refine va_calli (va_runV (As := [.int (-1)]) (rest := []) ⟨hx, hb, hml, hown, hg⟩ (c_refuse l D ct h (-1) h_0 h_1 h_2 h_3 h_4 h_5 h_6 h_7 h_8 h_9 h_10 h_11 h_12 h_13 h_14 s.heap.size ) (cwV 1 hg (gd_V wd_778 wd_780 wd_3 wd_107 wd_781) rfl rfl rfl (by decide +kernel) ⟨Nat.le_of_ble_eq_true rfl, Nat.le_of_ble_eq_true rfl⟩) (Wd_V hPc hKK hDc (va_recv hK hPc (ci := 11) (q0 := 0) rfl rfl)) rfl rfl hl.1 rfl (lv_room (Nat.le_of_ble_eq_true rfl)) dX11_act_26 ⟨Nat.le_of_ble_eq_true rfl, Nat.le_of_ble_eq_true rfl⟩) hS (fun q _ h => hFc q h) hFc (fun r_12 u_12 t_12 H1 locs ht_12 hvm_12 hw_12 hB_12 hz_12 hk_12 hS => ?_)
        obtain ⟨hP, hD⟩ := va_join (wr := [(h_5, .inr (1, [.ref h_5_0, .ref h_5_1, .ref h_5_2, .ref h_5_3, .ref h_5_4, .ref h_5_5, .ref h_5_6, .ref h_5_7, .ref h_5_8, .ref h_5_9, .ref h_5_10, .ref h_5_11, .ref h_5_12, .int 0])), (h_6, .inr (0, [.ref h_6_0, .ref h_6_1, .ref h_6_2, .ref h_6_3, .ref h_6_4, .ref h_6_5, .int 0, .int 0]))]) (w1 := []) hP hD [0] [1, 2] rfl rfl (by decide) (by decide) hk_12 hFc (fun k q h => by simp at h) ⟨fun i j p q h => by simp at h, fun k q h => by simp at h⟩
        generalize H1 = H at hP hS ⊢
        have hP : va_P D vwCl [(h_5, .inr (1, [.ref h_5_0, .ref h_5_1, .ref h_5_2, .ref h_5_3, .ref h_5_4, .ref h_5_5, .ref h_5_6, .ref h_5_7, .ref h_5_8, .ref h_5_9, .ref h_5_10, .ref h_5_11, .ref h_5_12, .int 0])), (h_6, .inr (0, [.ref h_6_0, .ref h_6_1, .ref h_6_2, .ref h_6_3, .ref h_6_4, .ref h_6_5, .int 0, .int 0]))] H := hP
        have hD : va_D A [(h_5, .inr (1, [.ref h_5_0, .ref h_5_1, .ref h_5_2, .ref h_5_3, .ref h_5_4, .ref h_5_5, .ref h_5_6, .ref h_5_7, .ref h_5_8, .ref h_5_9, .ref h_5_10, .ref h_5_11, .ref h_5_12, .int 0])), (h_6, .inr (0, [.ref h_6_0, .ref h_6_1, .ref h_6_2, .ref h_6_3, .ref h_6_4, .ref h_6_5, .int 0, .int 0]))] := hD
        subst hw_12
        exact W.iret (v := (-1)) hx hb hr (fun t ht hW => ⟨⟨(-1), (), rfl, (by simp [sp_act, c_2, c_5, c_8]), trivial⟩, hS.F ht⟩) hS.2.2 dX11_act_29
def sp_cause (a1 : Int32) (a2 : Int32) (a3 : Int32) : Int32 := -1
theorem dX11_cause_0 : decode cX11_cause 0 = .ok (.aload_n 0, 1) := by decide +kernel
theorem dX11_cause_1 : decode cX11_cause 1 = .ok (.iload_n 1, 1) := by decide +kernel
theorem dX11_cause_2 : decode cX11_cause 2 = .ok (.iload_n 2, 1) := by decide +kernel
theorem dX11_cause_3 : decode cX11_cause 3 = .ok (.iload_n 3, 1) := by decide +kernel
theorem dX11_cause_4 : decode cX11_cause 4 = .ok (.invokevirtual 267, 3) := by decide +kernel
theorem dX11_cause_7 : decode cX11_cause 7 = .ok (.ifCond .ne 5, 3) := by decide +kernel
theorem dX11_cause_10 : decode cX11_cause 10 = .ok (.iconst (-1), 1) := by decide +kernel
theorem dX11_cause_11 : decode cX11_cause 11 = .ok (.ireturn, 1) := by decide +kernel
set_option maxHeartbeats 4000000 in
set_option maxRecDepth 100000 in
theorem c_cause (l : Launch) (D : va_G) (ct : Nat → ClassId) (h : Nat) (a1 : Int32) (a2 : Int32) (a3 : Int32) (h_0 : Nat) (h_1 : Nat) (h_2 : Nat) (h_3 : Nat) (h_4 : Nat) (h_5 : Nat) (h_6 : Nat) (h_7 : Nat) (h_8 : Nat) (h_9 : Nat) (h_10 : Nat) (h_11 : Nat) (h_12 : Nat) (h_13 : Int32) (h_14 : Int32) (h_5_0 : Nat) (h_5_1 : Nat) (h_5_2 : Nat) (h_5_3 : Nat) (h_5_4 : Nat) (h_5_5 : Nat) (h_5_6 : Nat) (h_5_7 : Nat) (h_5_8 : Nat) (h_5_9 : Nat) (h_5_10 : Nat) (h_5_11 : Nat) (h_5_12 : Nat) (sz : Nat)  : Met l yX11_cause (wk yX11_cause cX11_cause 4 (some .int)) { frames := 3, cells := 0, slots := 0, locals := 66 } (va_Pc [.ref h, .int a1, .int a2, .int a3] (Wd D [(h, .inr (11, [.ref h_0, .ref h_1, .ref h_2, .ref h_3, .ref h_4, .ref h_5, .ref h_6, .ref h_7, .ref h_8, .ref h_9, .ref h_10, .ref h_11, .ref h_12, .int h_13, .int h_14])), (h_5, .inr (1, [.ref h_5_0, .ref h_5_1, .ref h_5_2, .ref h_5_3, .ref h_5_4, .ref h_5_5, .ref h_5_6, .ref h_5_7, .ref h_5_8, .ref h_5_9, .ref h_5_10, .ref h_5_11, .ref h_5_12, .int 0]))] ct sz)) (va_Qi (fun (r : Int32) (u : Unit) => r = sp_cause a1 a2 a3) (fun _ _ => True) (va_A [(h, .inr (11, [.ref h_0, .ref h_1, .ref h_2, .ref h_3, .ref h_4, .ref h_5, .ref h_6, .ref h_7, .ref h_8, .ref h_9, .ref h_10, .ref h_11, .ref h_12, .int h_13, .int h_14])), (h_5, .inr (1, [.ref h_5_0, .ref h_5_1, .ref h_5_2, .ref h_5_3, .ref h_5_4, .ref h_5_5, .ref h_5_6, .ref h_5_7, .ref h_5_8, .ref h_5_9, .ref h_5_10, .ref h_5_11, .ref h_5_12, .int 0]))] sz)) 0 0 (va_A [(h, .inr (11, [.ref h_0, .ref h_1, .ref h_2, .ref h_3, .ref h_4, .ref h_5, .ref h_6, .ref h_7, .ref h_8, .ref h_9, .ref h_10, .ref h_11, .ref h_12, .int h_13, .int h_14])), (h_5, .inr (1, [.ref h_5_0, .ref h_5_1, .ref h_5_2, .ref h_5_3, .ref h_5_4, .ref h_5_5, .ref h_5_6, .ref h_5_7, .ref h_5_8, .ref h_5_9, .ref h_5_10, .ref h_5_11, .ref h_5_12, .int 0]))] sz) := by
  refine Met.ofW (cc := cX11_cause) (maxL := 4) (ret := (some .int)) (by decide) rfl ?_
  intro p e s m args below meth c s₁ B hml hv
  obtain ⟨rfl, hsz, hP, hKK, hD0⟩ := hv
  have hK := hKK.1
  have hx := B.exec
  have hb := B.bytes
  have hr := B.returns
  have hg : ∀ w ∈ gl, w.before _ s = true := fun w h => atoms_spec (ws := wk yX11_cause cX11_cause 4 (some .int)) B.pre w (List.mem_cons_of_mem _ h)
  have hown : s.vm.findClass RX11 = some m.cls := findClass_of_methodNamed B.named
  have hlocks := B.notSynchronized
  subst hsz
  have hD := hD0.self (sz := s.heap.size)
  generalize hAe : va_A [(h, .inr (11, [.ref h_0, .ref h_1, .ref h_2, .ref h_3, .ref h_4, .ref h_5, .ref h_6, .ref h_7, .ref h_8, .ref h_9, .ref h_10, .ref h_11, .ref h_12, .int h_13, .int h_14])), (h_5, .inr (1, [.ref h_5_0, .ref h_5_1, .ref h_5_2, .ref h_5_3, .ref h_5_4, .ref h_5_5, .ref h_5_6, .ref h_5_7, .ref h_5_8, .ref h_5_9, .ref h_5_10, .ref h_5_11, .ref h_5_12, .int 0]))] s.heap.size = A at hD ⊢
  have hA : ∀ q : Nat, s.heap.size ≤ q → A q := fun q h => by rw [← hAe]; exact Or.inr h
  have hS : va_S A s.heap s.heap [] := va_S.rf
  have hl := lv_entry ([.ref h, .int a1, .int a2, .int a3]) (n := 4) (Nat.le_of_ble_eq_true rfl)
  rw [lg_entry_eq]
  generalize (lg_sl ([.ref h, .int a1, .int a2, .int a3]) ++ List.replicate (4 - (lg_sl ([.ref h, .int a1, .int a2, .int a3])).length) Slot.unset).toArray = ls at hl ⊢
  have hl : lv_has ls 4 [(0, .ref h), (1, .int a1), (2, .int a2), (3, .int a3)] := hl
  refine lv_aload_n hx hb dX11_cause_0 rfl (lv_at hl 0 rfl) ?_
  refine lv_iload_n hx hb dX11_cause_1 rfl (lv_at hl 1 rfl) ?_
  refine lv_iload_n hx hb dX11_cause_2 rfl (lv_at hl 2 rfl) ?_
  refine lv_iload_n hx hb dX11_cause_3 rfl (lv_at hl 3 rfl) ?_
  have hPc := hP.sub (ws' := [(h, .inr (11, [.ref h_0, .ref h_1, .ref h_2, .ref h_3, .ref h_4, .ref h_5, .ref h_6, .ref h_7, .ref h_8, .ref h_9, .ref h_10, .ref h_11, .ref h_12, .int h_13, .int h_14])), (h_5, .inr (1, [.ref h_5_0, .ref h_5_1, .ref h_5_2, .ref h_5_3, .ref h_5_4, .ref h_5_5, .ref h_5_6, .ref h_5_7, .ref h_5_8, .ref h_5_9, .ref h_5_10, .ref h_5_11, .ref h_5_12, .int 0]))]) [0, 1] rfl
  refine z_calli (va_runV (As := [.int a1, .int a2, .int a3]) (rest := []) ⟨hx, hb, hml, hown, hg⟩ (c_lookAt0 l D ct h a1 a2 a3 h_0 h_1 h_2 h_3 h_4 h_5 h_6 h_7 h_8 h_9 h_10 h_11 h_12 h_13 h_14 h_5_0 h_5_1 h_5_2 h_5_3 h_5_4 h_5_5 h_5_6 h_5_7 h_5_8 h_5_9 h_5_10 h_5_11 h_5_12 ) (cwV 3 hg (gd_V wd_1103 wd_1105 wd_22 wd_107 wd_1106) rfl rfl rfl (by decide +kernel) ⟨Nat.le_of_ble_eq_true rfl, Nat.le_of_ble_eq_true rfl⟩) (Wr_V hPc hKK (va_recv hK hPc (ci := 11) (q0 := 0) rfl rfl)) rfl rfl hl.1 rfl (lv_room (Nat.le_of_ble_eq_true rfl)) dX11_cause_4 ⟨Nat.le_of_ble_eq_true rfl, Nat.le_of_ble_eq_true rfl⟩) (fun r_1 hw_1 => ?_)
  subst hw_1
  refine lv_if_ne (tgt := 12) hx hb dX11_cause_7 (by decide) (fun h => absurd (by decide) h) (fun _ => ?_)
  refine lv_iconst (v := (-1)) hx hb dX11_cause_10 (by decide) ?_
  exact W.iret (v := (-1)) hx hb hr (fun t ht hW => ⟨⟨(-1), (), rfl, (by simp [sp_cause]), trivial⟩, hS.F ht⟩) hS.2.2 dX11_cause_11
def sp_line (a1 : Int32) (a2 : Int32) (a3 : Int32) : Int32 := -1
theorem dX11_line_0 : decode cX11_line 0 = .ok (.aload_n 0, 1) := by decide +kernel
theorem dX11_line_1 : decode cX11_line 1 = .ok (.iload_n 1, 1) := by decide +kernel
theorem dX11_line_2 : decode cX11_line 2 = .ok (.iload_n 2, 1) := by decide +kernel
theorem dX11_line_3 : decode cX11_line 3 = .ok (.iload_n 3, 1) := by decide +kernel
theorem dX11_line_4 : decode cX11_line 4 = .ok (.invokevirtual 267, 3) := by decide +kernel
theorem dX11_line_7 : decode cX11_line 7 = .ok (.ifCond .ne 5, 3) := by decide +kernel
theorem dX11_line_10 : decode cX11_line 10 = .ok (.iconst (-1), 1) := by decide +kernel
theorem dX11_line_11 : decode cX11_line 11 = .ok (.ireturn, 1) := by decide +kernel
set_option maxHeartbeats 4000000 in
set_option maxRecDepth 100000 in
theorem c_line (l : Launch) (D : va_G) (ct : Nat → ClassId) (h : Nat) (a1 : Int32) (a2 : Int32) (a3 : Int32) (h_0 : Nat) (h_1 : Nat) (h_2 : Nat) (h_3 : Nat) (h_4 : Nat) (h_5 : Nat) (h_6 : Nat) (h_7 : Nat) (h_8 : Nat) (h_9 : Nat) (h_10 : Nat) (h_11 : Nat) (h_12 : Nat) (h_13 : Int32) (h_14 : Int32) (h_5_0 : Nat) (h_5_1 : Nat) (h_5_2 : Nat) (h_5_3 : Nat) (h_5_4 : Nat) (h_5_5 : Nat) (h_5_6 : Nat) (h_5_7 : Nat) (h_5_8 : Nat) (h_5_9 : Nat) (h_5_10 : Nat) (h_5_11 : Nat) (h_5_12 : Nat) (sz : Nat)  : Met l yX11_line (wk yX11_line cX11_line 4 (some .int)) { frames := 3, cells := 0, slots := 0, locals := 66 } (va_Pc [.ref h, .int a1, .int a2, .int a3] (Wd D [(h, .inr (11, [.ref h_0, .ref h_1, .ref h_2, .ref h_3, .ref h_4, .ref h_5, .ref h_6, .ref h_7, .ref h_8, .ref h_9, .ref h_10, .ref h_11, .ref h_12, .int h_13, .int h_14])), (h_5, .inr (1, [.ref h_5_0, .ref h_5_1, .ref h_5_2, .ref h_5_3, .ref h_5_4, .ref h_5_5, .ref h_5_6, .ref h_5_7, .ref h_5_8, .ref h_5_9, .ref h_5_10, .ref h_5_11, .ref h_5_12, .int 0]))] ct sz)) (va_Qi (fun (r : Int32) (u : Unit) => r = sp_line a1 a2 a3) (fun _ _ => True) (va_A [(h, .inr (11, [.ref h_0, .ref h_1, .ref h_2, .ref h_3, .ref h_4, .ref h_5, .ref h_6, .ref h_7, .ref h_8, .ref h_9, .ref h_10, .ref h_11, .ref h_12, .int h_13, .int h_14])), (h_5, .inr (1, [.ref h_5_0, .ref h_5_1, .ref h_5_2, .ref h_5_3, .ref h_5_4, .ref h_5_5, .ref h_5_6, .ref h_5_7, .ref h_5_8, .ref h_5_9, .ref h_5_10, .ref h_5_11, .ref h_5_12, .int 0]))] sz)) 0 0 (va_A [(h, .inr (11, [.ref h_0, .ref h_1, .ref h_2, .ref h_3, .ref h_4, .ref h_5, .ref h_6, .ref h_7, .ref h_8, .ref h_9, .ref h_10, .ref h_11, .ref h_12, .int h_13, .int h_14])), (h_5, .inr (1, [.ref h_5_0, .ref h_5_1, .ref h_5_2, .ref h_5_3, .ref h_5_4, .ref h_5_5, .ref h_5_6, .ref h_5_7, .ref h_5_8, .ref h_5_9, .ref h_5_10, .ref h_5_11, .ref h_5_12, .int 0]))] sz) := by
  refine Met.ofW (cc := cX11_line) (maxL := 4) (ret := (some .int)) (by decide) rfl ?_
  intro p e s m args below meth c s₁ B hml hv
  obtain ⟨rfl, hsz, hP, hKK, hD0⟩ := hv
  have hK := hKK.1
  have hx := B.exec
  have hb := B.bytes
  have hr := B.returns
  have hg : ∀ w ∈ gl, w.before _ s = true := fun w h => atoms_spec (ws := wk yX11_line cX11_line 4 (some .int)) B.pre w (List.mem_cons_of_mem _ h)
  have hown : s.vm.findClass RX11 = some m.cls := findClass_of_methodNamed B.named
  have hlocks := B.notSynchronized
  subst hsz
  have hD := hD0.self (sz := s.heap.size)
  generalize hAe : va_A [(h, .inr (11, [.ref h_0, .ref h_1, .ref h_2, .ref h_3, .ref h_4, .ref h_5, .ref h_6, .ref h_7, .ref h_8, .ref h_9, .ref h_10, .ref h_11, .ref h_12, .int h_13, .int h_14])), (h_5, .inr (1, [.ref h_5_0, .ref h_5_1, .ref h_5_2, .ref h_5_3, .ref h_5_4, .ref h_5_5, .ref h_5_6, .ref h_5_7, .ref h_5_8, .ref h_5_9, .ref h_5_10, .ref h_5_11, .ref h_5_12, .int 0]))] s.heap.size = A at hD ⊢
  have hA : ∀ q : Nat, s.heap.size ≤ q → A q := fun q h => by rw [← hAe]; exact Or.inr h
  have hS : va_S A s.heap s.heap [] := va_S.rf
  have hl := lv_entry ([.ref h, .int a1, .int a2, .int a3]) (n := 4) (Nat.le_of_ble_eq_true rfl)
  rw [lg_entry_eq]
  generalize (lg_sl ([.ref h, .int a1, .int a2, .int a3]) ++ List.replicate (4 - (lg_sl ([.ref h, .int a1, .int a2, .int a3])).length) Slot.unset).toArray = ls at hl ⊢
  have hl : lv_has ls 4 [(0, .ref h), (1, .int a1), (2, .int a2), (3, .int a3)] := hl
  refine lv_aload_n hx hb dX11_line_0 rfl (lv_at hl 0 rfl) ?_
  refine lv_iload_n hx hb dX11_line_1 rfl (lv_at hl 1 rfl) ?_
  refine lv_iload_n hx hb dX11_line_2 rfl (lv_at hl 2 rfl) ?_
  refine lv_iload_n hx hb dX11_line_3 rfl (lv_at hl 3 rfl) ?_
  have hPc := hP.sub (ws' := [(h, .inr (11, [.ref h_0, .ref h_1, .ref h_2, .ref h_3, .ref h_4, .ref h_5, .ref h_6, .ref h_7, .ref h_8, .ref h_9, .ref h_10, .ref h_11, .ref h_12, .int h_13, .int h_14])), (h_5, .inr (1, [.ref h_5_0, .ref h_5_1, .ref h_5_2, .ref h_5_3, .ref h_5_4, .ref h_5_5, .ref h_5_6, .ref h_5_7, .ref h_5_8, .ref h_5_9, .ref h_5_10, .ref h_5_11, .ref h_5_12, .int 0]))]) [0, 1] rfl
  refine z_calli (va_runV (As := [.int a1, .int a2, .int a3]) (rest := []) ⟨hx, hb, hml, hown, hg⟩ (c_lookAt0 l D ct h a1 a2 a3 h_0 h_1 h_2 h_3 h_4 h_5 h_6 h_7 h_8 h_9 h_10 h_11 h_12 h_13 h_14 h_5_0 h_5_1 h_5_2 h_5_3 h_5_4 h_5_5 h_5_6 h_5_7 h_5_8 h_5_9 h_5_10 h_5_11 h_5_12 ) (cwV 3 hg (gd_V wd_1103 wd_1105 wd_22 wd_107 wd_1106) rfl rfl rfl (by decide +kernel) ⟨Nat.le_of_ble_eq_true rfl, Nat.le_of_ble_eq_true rfl⟩) (Wr_V hPc hKK (va_recv hK hPc (ci := 11) (q0 := 0) rfl rfl)) rfl rfl hl.1 rfl (lv_room (Nat.le_of_ble_eq_true rfl)) dX11_line_4 ⟨Nat.le_of_ble_eq_true rfl, Nat.le_of_ble_eq_true rfl⟩) (fun r_1 hw_1 => ?_)
  subst hw_1
  refine lv_if_ne (tgt := 12) hx hb dX11_line_7 (by decide) (fun h => absurd (by decide) h) (fun _ => ?_)
  refine lv_iconst (v := (-1)) hx hb dX11_line_10 (by decide) ?_
  exact W.iret (v := (-1)) hx hb hr (fun t ht hW => ⟨⟨(-1), (), rfl, (by simp [sp_line]), trivial⟩, hS.F ht⟩) hS.2.2 dX11_line_11
def sp_since (a1 : Int32) (a2 : Int32) (a3 : Int32) : Int32 := -1
theorem dX11_since_0 : decode cX11_since 0 = .ok (.aload_n 0, 1) := by decide +kernel
theorem dX11_since_1 : decode cX11_since 1 = .ok (.iload_n 1, 1) := by decide +kernel
theorem dX11_since_2 : decode cX11_since 2 = .ok (.iload_n 2, 1) := by decide +kernel
theorem dX11_since_3 : decode cX11_since 3 = .ok (.iload_n 3, 1) := by decide +kernel
theorem dX11_since_4 : decode cX11_since 4 = .ok (.invokevirtual 267, 3) := by decide +kernel
theorem dX11_since_7 : decode cX11_since 7 = .ok (.ifCond .ne 5, 3) := by decide +kernel
theorem dX11_since_10 : decode cX11_since 10 = .ok (.iconst (-1), 1) := by decide +kernel
theorem dX11_since_11 : decode cX11_since 11 = .ok (.ireturn, 1) := by decide +kernel
set_option maxHeartbeats 4000000 in
set_option maxRecDepth 100000 in
theorem c_since (l : Launch) (D : va_G) (ct : Nat → ClassId) (h : Nat) (a1 : Int32) (a2 : Int32) (a3 : Int32) (h_0 : Nat) (h_1 : Nat) (h_2 : Nat) (h_3 : Nat) (h_4 : Nat) (h_5 : Nat) (h_6 : Nat) (h_7 : Nat) (h_8 : Nat) (h_9 : Nat) (h_10 : Nat) (h_11 : Nat) (h_12 : Nat) (h_13 : Int32) (h_14 : Int32) (h_5_0 : Nat) (h_5_1 : Nat) (h_5_2 : Nat) (h_5_3 : Nat) (h_5_4 : Nat) (h_5_5 : Nat) (h_5_6 : Nat) (h_5_7 : Nat) (h_5_8 : Nat) (h_5_9 : Nat) (h_5_10 : Nat) (h_5_11 : Nat) (h_5_12 : Nat) (sz : Nat)  : Met l yX11_since (wk yX11_since cX11_since 4 (some .int)) { frames := 3, cells := 0, slots := 0, locals := 66 } (va_Pc [.ref h, .int a1, .int a2, .int a3] (Wd D [(h, .inr (11, [.ref h_0, .ref h_1, .ref h_2, .ref h_3, .ref h_4, .ref h_5, .ref h_6, .ref h_7, .ref h_8, .ref h_9, .ref h_10, .ref h_11, .ref h_12, .int h_13, .int h_14])), (h_5, .inr (1, [.ref h_5_0, .ref h_5_1, .ref h_5_2, .ref h_5_3, .ref h_5_4, .ref h_5_5, .ref h_5_6, .ref h_5_7, .ref h_5_8, .ref h_5_9, .ref h_5_10, .ref h_5_11, .ref h_5_12, .int 0]))] ct sz)) (va_Qi (fun (r : Int32) (u : Unit) => r = sp_since a1 a2 a3) (fun _ _ => True) (va_A [(h, .inr (11, [.ref h_0, .ref h_1, .ref h_2, .ref h_3, .ref h_4, .ref h_5, .ref h_6, .ref h_7, .ref h_8, .ref h_9, .ref h_10, .ref h_11, .ref h_12, .int h_13, .int h_14])), (h_5, .inr (1, [.ref h_5_0, .ref h_5_1, .ref h_5_2, .ref h_5_3, .ref h_5_4, .ref h_5_5, .ref h_5_6, .ref h_5_7, .ref h_5_8, .ref h_5_9, .ref h_5_10, .ref h_5_11, .ref h_5_12, .int 0]))] sz)) 0 0 (va_A [(h, .inr (11, [.ref h_0, .ref h_1, .ref h_2, .ref h_3, .ref h_4, .ref h_5, .ref h_6, .ref h_7, .ref h_8, .ref h_9, .ref h_10, .ref h_11, .ref h_12, .int h_13, .int h_14])), (h_5, .inr (1, [.ref h_5_0, .ref h_5_1, .ref h_5_2, .ref h_5_3, .ref h_5_4, .ref h_5_5, .ref h_5_6, .ref h_5_7, .ref h_5_8, .ref h_5_9, .ref h_5_10, .ref h_5_11, .ref h_5_12, .int 0]))] sz) := by
  refine Met.ofW (cc := cX11_since) (maxL := 4) (ret := (some .int)) (by decide) rfl ?_
  intro p e s m args below meth c s₁ B hml hv
  obtain ⟨rfl, hsz, hP, hKK, hD0⟩ := hv
  have hK := hKK.1
  have hx := B.exec
  have hb := B.bytes
  have hr := B.returns
  have hg : ∀ w ∈ gl, w.before _ s = true := fun w h => atoms_spec (ws := wk yX11_since cX11_since 4 (some .int)) B.pre w (List.mem_cons_of_mem _ h)
  have hown : s.vm.findClass RX11 = some m.cls := findClass_of_methodNamed B.named
  have hlocks := B.notSynchronized
  subst hsz
  have hD := hD0.self (sz := s.heap.size)
  generalize hAe : va_A [(h, .inr (11, [.ref h_0, .ref h_1, .ref h_2, .ref h_3, .ref h_4, .ref h_5, .ref h_6, .ref h_7, .ref h_8, .ref h_9, .ref h_10, .ref h_11, .ref h_12, .int h_13, .int h_14])), (h_5, .inr (1, [.ref h_5_0, .ref h_5_1, .ref h_5_2, .ref h_5_3, .ref h_5_4, .ref h_5_5, .ref h_5_6, .ref h_5_7, .ref h_5_8, .ref h_5_9, .ref h_5_10, .ref h_5_11, .ref h_5_12, .int 0]))] s.heap.size = A at hD ⊢
  have hA : ∀ q : Nat, s.heap.size ≤ q → A q := fun q h => by rw [← hAe]; exact Or.inr h
  have hS : va_S A s.heap s.heap [] := va_S.rf
  have hl := lv_entry ([.ref h, .int a1, .int a2, .int a3]) (n := 4) (Nat.le_of_ble_eq_true rfl)
  rw [lg_entry_eq]
  generalize (lg_sl ([.ref h, .int a1, .int a2, .int a3]) ++ List.replicate (4 - (lg_sl ([.ref h, .int a1, .int a2, .int a3])).length) Slot.unset).toArray = ls at hl ⊢
  have hl : lv_has ls 4 [(0, .ref h), (1, .int a1), (2, .int a2), (3, .int a3)] := hl
  refine lv_aload_n hx hb dX11_since_0 rfl (lv_at hl 0 rfl) ?_
  refine lv_iload_n hx hb dX11_since_1 rfl (lv_at hl 1 rfl) ?_
  refine lv_iload_n hx hb dX11_since_2 rfl (lv_at hl 2 rfl) ?_
  refine lv_iload_n hx hb dX11_since_3 rfl (lv_at hl 3 rfl) ?_
  have hPc := hP.sub (ws' := [(h, .inr (11, [.ref h_0, .ref h_1, .ref h_2, .ref h_3, .ref h_4, .ref h_5, .ref h_6, .ref h_7, .ref h_8, .ref h_9, .ref h_10, .ref h_11, .ref h_12, .int h_13, .int h_14])), (h_5, .inr (1, [.ref h_5_0, .ref h_5_1, .ref h_5_2, .ref h_5_3, .ref h_5_4, .ref h_5_5, .ref h_5_6, .ref h_5_7, .ref h_5_8, .ref h_5_9, .ref h_5_10, .ref h_5_11, .ref h_5_12, .int 0]))]) [0, 1] rfl
  refine z_calli (va_runV (As := [.int a1, .int a2, .int a3]) (rest := []) ⟨hx, hb, hml, hown, hg⟩ (c_lookAt0 l D ct h a1 a2 a3 h_0 h_1 h_2 h_3 h_4 h_5 h_6 h_7 h_8 h_9 h_10 h_11 h_12 h_13 h_14 h_5_0 h_5_1 h_5_2 h_5_3 h_5_4 h_5_5 h_5_6 h_5_7 h_5_8 h_5_9 h_5_10 h_5_11 h_5_12 ) (cwV 3 hg (gd_V wd_1103 wd_1105 wd_22 wd_107 wd_1106) rfl rfl rfl (by decide +kernel) ⟨Nat.le_of_ble_eq_true rfl, Nat.le_of_ble_eq_true rfl⟩) (Wr_V hPc hKK (va_recv hK hPc (ci := 11) (q0 := 0) rfl rfl)) rfl rfl hl.1 rfl (lv_room (Nat.le_of_ble_eq_true rfl)) dX11_since_4 ⟨Nat.le_of_ble_eq_true rfl, Nat.le_of_ble_eq_true rfl⟩) (fun r_1 hw_1 => ?_)
  subst hw_1
  refine lv_if_ne (tgt := 12) hx hb dX11_since_7 (by decide) (fun h => absurd (by decide) h) (fun _ => ?_)
  refine lv_iconst (v := (-1)) hx hb dX11_since_10 (by decide) ?_
  exact W.iret (v := (-1)) hx hb hr (fun t ht hW => ⟨⟨(-1), (), rfl, (by simp [sp_since]), trivial⟩, hS.F ht⟩) hS.2.2 dX11_since_11
def sp_may (a1 : Int32) (a2 : Int32) (a3 : Int32) : Int32 := -1
theorem dX11_may_0 : decode cX11_may 0 = .ok (.aload_n 0, 1) := by decide +kernel
theorem dX11_may_1 : decode cX11_may 1 = .ok (.iload_n 1, 1) := by decide +kernel
theorem dX11_may_2 : decode cX11_may 2 = .ok (.iload_n 2, 1) := by decide +kernel
theorem dX11_may_3 : decode cX11_may 3 = .ok (.iload_n 3, 1) := by decide +kernel
theorem dX11_may_4 : decode cX11_may 4 = .ok (.invokevirtual 267, 3) := by decide +kernel
theorem dX11_may_7 : decode cX11_may 7 = .ok (.ifCond .ne 5, 3) := by decide +kernel
theorem dX11_may_10 : decode cX11_may 10 = .ok (.iconst (-1), 1) := by decide +kernel
theorem dX11_may_11 : decode cX11_may 11 = .ok (.ireturn, 1) := by decide +kernel
set_option maxHeartbeats 4000000 in
set_option maxRecDepth 100000 in
theorem c_may (l : Launch) (D : va_G) (ct : Nat → ClassId) (h : Nat) (a1 : Int32) (a2 : Int32) (a3 : Int32) (h_0 : Nat) (h_1 : Nat) (h_2 : Nat) (h_3 : Nat) (h_4 : Nat) (h_5 : Nat) (h_6 : Nat) (h_7 : Nat) (h_8 : Nat) (h_9 : Nat) (h_10 : Nat) (h_11 : Nat) (h_12 : Nat) (h_13 : Int32) (h_14 : Int32) (h_5_0 : Nat) (h_5_1 : Nat) (h_5_2 : Nat) (h_5_3 : Nat) (h_5_4 : Nat) (h_5_5 : Nat) (h_5_6 : Nat) (h_5_7 : Nat) (h_5_8 : Nat) (h_5_9 : Nat) (h_5_10 : Nat) (h_5_11 : Nat) (h_5_12 : Nat) (sz : Nat)  : Met l yX11_may (wk yX11_may cX11_may 4 (some .int)) { frames := 3, cells := 0, slots := 0, locals := 66 } (va_Pc [.ref h, .int a1, .int a2, .int a3] (Wd D [(h, .inr (11, [.ref h_0, .ref h_1, .ref h_2, .ref h_3, .ref h_4, .ref h_5, .ref h_6, .ref h_7, .ref h_8, .ref h_9, .ref h_10, .ref h_11, .ref h_12, .int h_13, .int h_14])), (h_5, .inr (1, [.ref h_5_0, .ref h_5_1, .ref h_5_2, .ref h_5_3, .ref h_5_4, .ref h_5_5, .ref h_5_6, .ref h_5_7, .ref h_5_8, .ref h_5_9, .ref h_5_10, .ref h_5_11, .ref h_5_12, .int 0]))] ct sz)) (va_Qi (fun (r : Int32) (u : Unit) => r = sp_may a1 a2 a3) (fun _ _ => True) (va_A [(h, .inr (11, [.ref h_0, .ref h_1, .ref h_2, .ref h_3, .ref h_4, .ref h_5, .ref h_6, .ref h_7, .ref h_8, .ref h_9, .ref h_10, .ref h_11, .ref h_12, .int h_13, .int h_14])), (h_5, .inr (1, [.ref h_5_0, .ref h_5_1, .ref h_5_2, .ref h_5_3, .ref h_5_4, .ref h_5_5, .ref h_5_6, .ref h_5_7, .ref h_5_8, .ref h_5_9, .ref h_5_10, .ref h_5_11, .ref h_5_12, .int 0]))] sz)) 0 0 (va_A [(h, .inr (11, [.ref h_0, .ref h_1, .ref h_2, .ref h_3, .ref h_4, .ref h_5, .ref h_6, .ref h_7, .ref h_8, .ref h_9, .ref h_10, .ref h_11, .ref h_12, .int h_13, .int h_14])), (h_5, .inr (1, [.ref h_5_0, .ref h_5_1, .ref h_5_2, .ref h_5_3, .ref h_5_4, .ref h_5_5, .ref h_5_6, .ref h_5_7, .ref h_5_8, .ref h_5_9, .ref h_5_10, .ref h_5_11, .ref h_5_12, .int 0]))] sz) := by
  refine Met.ofW (cc := cX11_may) (maxL := 4) (ret := (some .int)) (by decide) rfl ?_
  intro p e s m args below meth c s₁ B hml hv
  obtain ⟨rfl, hsz, hP, hKK, hD0⟩ := hv
  have hK := hKK.1
  have hx := B.exec
  have hb := B.bytes
  have hr := B.returns
  have hg : ∀ w ∈ gl, w.before _ s = true := fun w h => atoms_spec (ws := wk yX11_may cX11_may 4 (some .int)) B.pre w (List.mem_cons_of_mem _ h)
  have hown : s.vm.findClass RX11 = some m.cls := findClass_of_methodNamed B.named
  have hlocks := B.notSynchronized
  subst hsz
  have hD := hD0.self (sz := s.heap.size)
  generalize hAe : va_A [(h, .inr (11, [.ref h_0, .ref h_1, .ref h_2, .ref h_3, .ref h_4, .ref h_5, .ref h_6, .ref h_7, .ref h_8, .ref h_9, .ref h_10, .ref h_11, .ref h_12, .int h_13, .int h_14])), (h_5, .inr (1, [.ref h_5_0, .ref h_5_1, .ref h_5_2, .ref h_5_3, .ref h_5_4, .ref h_5_5, .ref h_5_6, .ref h_5_7, .ref h_5_8, .ref h_5_9, .ref h_5_10, .ref h_5_11, .ref h_5_12, .int 0]))] s.heap.size = A at hD ⊢
  have hA : ∀ q : Nat, s.heap.size ≤ q → A q := fun q h => by rw [← hAe]; exact Or.inr h
  have hS : va_S A s.heap s.heap [] := va_S.rf
  have hl := lv_entry ([.ref h, .int a1, .int a2, .int a3]) (n := 4) (Nat.le_of_ble_eq_true rfl)
  rw [lg_entry_eq]
  generalize (lg_sl ([.ref h, .int a1, .int a2, .int a3]) ++ List.replicate (4 - (lg_sl ([.ref h, .int a1, .int a2, .int a3])).length) Slot.unset).toArray = ls at hl ⊢
  have hl : lv_has ls 4 [(0, .ref h), (1, .int a1), (2, .int a2), (3, .int a3)] := hl
  refine lv_aload_n hx hb dX11_may_0 rfl (lv_at hl 0 rfl) ?_
  refine lv_iload_n hx hb dX11_may_1 rfl (lv_at hl 1 rfl) ?_
  refine lv_iload_n hx hb dX11_may_2 rfl (lv_at hl 2 rfl) ?_
  refine lv_iload_n hx hb dX11_may_3 rfl (lv_at hl 3 rfl) ?_
  have hPc := hP.sub (ws' := [(h, .inr (11, [.ref h_0, .ref h_1, .ref h_2, .ref h_3, .ref h_4, .ref h_5, .ref h_6, .ref h_7, .ref h_8, .ref h_9, .ref h_10, .ref h_11, .ref h_12, .int h_13, .int h_14])), (h_5, .inr (1, [.ref h_5_0, .ref h_5_1, .ref h_5_2, .ref h_5_3, .ref h_5_4, .ref h_5_5, .ref h_5_6, .ref h_5_7, .ref h_5_8, .ref h_5_9, .ref h_5_10, .ref h_5_11, .ref h_5_12, .int 0]))]) [0, 1] rfl
  refine z_calli (va_runV (As := [.int a1, .int a2, .int a3]) (rest := []) ⟨hx, hb, hml, hown, hg⟩ (c_lookAt0 l D ct h a1 a2 a3 h_0 h_1 h_2 h_3 h_4 h_5 h_6 h_7 h_8 h_9 h_10 h_11 h_12 h_13 h_14 h_5_0 h_5_1 h_5_2 h_5_3 h_5_4 h_5_5 h_5_6 h_5_7 h_5_8 h_5_9 h_5_10 h_5_11 h_5_12 ) (cwV 3 hg (gd_V wd_1103 wd_1105 wd_22 wd_107 wd_1106) rfl rfl rfl (by decide +kernel) ⟨Nat.le_of_ble_eq_true rfl, Nat.le_of_ble_eq_true rfl⟩) (Wr_V hPc hKK (va_recv hK hPc (ci := 11) (q0 := 0) rfl rfl)) rfl rfl hl.1 rfl (lv_room (Nat.le_of_ble_eq_true rfl)) dX11_may_4 ⟨Nat.le_of_ble_eq_true rfl, Nat.le_of_ble_eq_true rfl⟩) (fun r_1 hw_1 => ?_)
  subst hw_1
  refine lv_if_ne (tgt := 12) hx hb dX11_may_7 (by decide) (fun h => absurd (by decide) h) (fun _ => ?_)
  refine lv_iconst (v := (-1)) hx hb dX11_may_10 (by decide) ?_
  exact W.iret (v := (-1)) hx hb hr (fun t ht hW => ⟨⟨(-1), (), rfl, (by simp [sp_may]), trivial⟩, hS.F ht⟩) hS.2.2 dX11_may_11
def sp_wish (a1 : Int32) : Int32 := -2
theorem dX11_wish_0 : decode cX11_wish 0 = .ok (.aload_n 0, 1) := by decide +kernel
theorem dX11_wish_1 : decode cX11_wish 1 = .ok (.getfield 39, 3) := by decide +kernel
theorem dX11_wish_4 : decode cX11_wish 4 = .ok (.iload_n 1, 1) := by decide +kernel
theorem dX11_wish_5 : decode cX11_wish 5 = .ok (.invokevirtual 190, 3) := by decide +kernel
theorem dX11_wish_8 : decode cX11_wish 8 = .ok (.ifCond .ne 10, 3) := by decide +kernel
theorem dX11_wish_11 : decode cX11_wish 11 = .ok (.aload_n 0, 1) := by decide +kernel
theorem dX11_wish_12 : decode cX11_wish 12 = .ok (.bipush (-2), 2) := by decide +kernel
theorem dX11_wish_14 : decode cX11_wish 14 = .ok (.invokevirtual 118, 3) := by decide +kernel
theorem dX11_wish_17 : decode cX11_wish 17 = .ok (.ireturn, 1) := by decide +kernel
set_option maxHeartbeats 4000000 in
set_option maxRecDepth 100000 in
theorem c_wish (l : Launch) (D : va_G) (ct : Nat → ClassId) (h : Nat) (a1 : Int32) (h_0 : Nat) (h_1 : Nat) (h_2 : Nat) (h_3 : Nat) (h_4 : Nat) (h_5 : Nat) (h_6 : Nat) (h_7 : Nat) (h_8 : Nat) (h_9 : Nat) (h_10 : Nat) (h_11 : Nat) (h_12 : Nat) (h_13 : Int32) (h_14 : Int32) (h_5_0 : Nat) (h_5_1 : Nat) (h_5_2 : Nat) (h_5_3 : Nat) (h_5_4 : Nat) (h_5_5 : Nat) (h_5_6 : Nat) (h_5_7 : Nat) (h_5_8 : Nat) (h_5_9 : Nat) (h_5_10 : Nat) (h_5_11 : Nat) (h_5_12 : Nat) (sz : Nat)  : Met l yX11_wish (wk yX11_wish cX11_wish 2 (some .int)) { frames := 1, cells := 0, slots := 0, locals := 21 } (va_Pc [.ref h, .int a1] (Wd D [(h, .inr (11, [.ref h_0, .ref h_1, .ref h_2, .ref h_3, .ref h_4, .ref h_5, .ref h_6, .ref h_7, .ref h_8, .ref h_9, .ref h_10, .ref h_11, .ref h_12, .int h_13, .int h_14])), (h_5, .inr (1, [.ref h_5_0, .ref h_5_1, .ref h_5_2, .ref h_5_3, .ref h_5_4, .ref h_5_5, .ref h_5_6, .ref h_5_7, .ref h_5_8, .ref h_5_9, .ref h_5_10, .ref h_5_11, .ref h_5_12, .int 0]))] ct sz)) (va_Qi (fun (r : Int32) (u : Unit) => r = sp_wish a1) (fun _ _ => True) (va_A [(h, .inr (11, [.ref h_0, .ref h_1, .ref h_2, .ref h_3, .ref h_4, .ref h_5, .ref h_6, .ref h_7, .ref h_8, .ref h_9, .ref h_10, .ref h_11, .ref h_12, .int h_13, .int h_14])), (h_5, .inr (1, [.ref h_5_0, .ref h_5_1, .ref h_5_2, .ref h_5_3, .ref h_5_4, .ref h_5_5, .ref h_5_6, .ref h_5_7, .ref h_5_8, .ref h_5_9, .ref h_5_10, .ref h_5_11, .ref h_5_12, .int 0]))] sz)) 0 0 (va_A [(h, .inr (11, [.ref h_0, .ref h_1, .ref h_2, .ref h_3, .ref h_4, .ref h_5, .ref h_6, .ref h_7, .ref h_8, .ref h_9, .ref h_10, .ref h_11, .ref h_12, .int h_13, .int h_14])), (h_5, .inr (1, [.ref h_5_0, .ref h_5_1, .ref h_5_2, .ref h_5_3, .ref h_5_4, .ref h_5_5, .ref h_5_6, .ref h_5_7, .ref h_5_8, .ref h_5_9, .ref h_5_10, .ref h_5_11, .ref h_5_12, .int 0]))] sz) := by
  refine Met.ofW (cc := cX11_wish) (maxL := 2) (ret := (some .int)) (by decide) rfl ?_
  intro p e s m args below meth c s₁ B hml hv
  obtain ⟨rfl, hsz, hP, hKK, hD0⟩ := hv
  have hK := hKK.1
  have hx := B.exec
  have hb := B.bytes
  have hr := B.returns
  have hg : ∀ w ∈ gl, w.before _ s = true := fun w h => atoms_spec (ws := wk yX11_wish cX11_wish 2 (some .int)) B.pre w (List.mem_cons_of_mem _ h)
  have hown : s.vm.findClass RX11 = some m.cls := findClass_of_methodNamed B.named
  have hlocks := B.notSynchronized
  subst hsz
  have hD := hD0.self (sz := s.heap.size)
  generalize hAe : va_A [(h, .inr (11, [.ref h_0, .ref h_1, .ref h_2, .ref h_3, .ref h_4, .ref h_5, .ref h_6, .ref h_7, .ref h_8, .ref h_9, .ref h_10, .ref h_11, .ref h_12, .int h_13, .int h_14])), (h_5, .inr (1, [.ref h_5_0, .ref h_5_1, .ref h_5_2, .ref h_5_3, .ref h_5_4, .ref h_5_5, .ref h_5_6, .ref h_5_7, .ref h_5_8, .ref h_5_9, .ref h_5_10, .ref h_5_11, .ref h_5_12, .int 0]))] s.heap.size = A at hD ⊢
  have hA : ∀ q : Nat, s.heap.size ≤ q → A q := fun q h => by rw [← hAe]; exact Or.inr h
  have hS : va_S A s.heap s.heap [] := va_S.rf
  have hl := lv_entry ([.ref h, .int a1]) (n := 2) (Nat.le_of_ble_eq_true rfl)
  rw [lg_entry_eq]
  generalize (lg_sl ([.ref h, .int a1]) ++ List.replicate (2 - (lg_sl ([.ref h, .int a1])).length) Slot.unset).toArray = ls at hl ⊢
  have hl : lv_has ls 2 [(0, .ref h), (1, .int a1)] := hl
  refine lv_aload_n hx hb dX11_wish_0 rfl (lv_at hl 0 rfl) ?_
  refine va_get (D := D) (ci := 11) (v := .ref h_5) (C := RX11) (T := TX11) (N := 15) hx hb hg inX11 hown hK hP 0 rfl rfl 5 (by decide) (hg _ wd_688) (fun _ h9 => h9) rfl dX11_wish_1 ?_
  refine lv_iload_n hx hb dX11_wish_4 rfl (lv_at hl 1 rfl) ?_
  have hPc := hP.sub (ws' := [(h_5, .inr (1, [.ref h_5_0, .ref h_5_1, .ref h_5_2, .ref h_5_3, .ref h_5_4, .ref h_5_5, .ref h_5_6, .ref h_5_7, .ref h_5_8, .ref h_5_9, .ref h_5_10, .ref h_5_11, .ref h_5_12, .int 0]))]) [1] rfl
  refine z_calli (va_runV (As := [.int a1]) (rest := []) ⟨hx, hb, hml, hown, hg⟩ (c_holds0 l D ct h_5 a1 h_5_0 h_5_1 h_5_2 h_5_3 h_5_4 h_5_5 h_5_6 h_5_7 h_5_8 h_5_9 h_5_10 h_5_11 h_5_12 ) (cwV 1 hg (gd_V wd_992 wd_993 wd_994 wd_111 wd_995) rfl rfl rfl (by decide +kernel) ⟨Nat.le_of_ble_eq_true rfl, Nat.le_of_ble_eq_true rfl⟩) (Wr_V hPc hKK (va_recv hK hPc (ci := 1) (q0 := 0) rfl rfl)) rfl rfl hl.1 rfl (lv_room (Nat.le_of_ble_eq_true rfl)) dX11_wish_5 ⟨Nat.le_of_ble_eq_true rfl, Nat.le_of_ble_eq_true rfl⟩) (fun r_1 hw_1 => ?_)
  subst hw_1
  refine lv_if_ne (tgt := 18) hx hb dX11_wish_8 (by decide) (fun h => absurd (by decide) h) (fun _ => ?_)
  refine lv_aload_n hx hb dX11_wish_11 rfl (lv_at hl 0 rfl) ?_
  refine lv_bipush (v := (-2)) hx hb dX11_wish_12 (by decide) ?_
  have hPc := hP.sub (ws' := [(h, .inr (11, [.ref h_0, .ref h_1, .ref h_2, .ref h_3, .ref h_4, .ref h_5, .ref h_6, .ref h_7, .ref h_8, .ref h_9, .ref h_10, .ref h_11, .ref h_12, .int h_13, .int h_14]))]) [0] rfl
  have hDc := hD.sub (ws' := [(h, .inr (11, [.ref h_0, .ref h_1, .ref h_2, .ref h_3, .ref h_4, .ref h_5, .ref h_6, .ref h_7, .ref h_8, .ref h_9, .ref h_10, .ref h_11, .ref h_12, .int h_13, .int h_14]))]) [0] (by decide) rfl
  have hFc := va_free (wc := [(h, .inr (11, [.ref h_0, .ref h_1, .ref h_2, .ref h_3, .ref h_4, .ref h_5, .ref h_6, .ref h_7, .ref h_8, .ref h_9, .ref h_10, .ref h_11, .ref h_12, .int h_13, .int h_14]))]) hD hS hA [0] rfl
  refine va_calli (va_runV (As := [.int (-2)]) (rest := []) ⟨hx, hb, hml, hown, hg⟩ (c_refuse l D ct h (-2) h_0 h_1 h_2 h_3 h_4 h_5 h_6 h_7 h_8 h_9 h_10 h_11 h_12 h_13 h_14 s.heap.size ) (cwV 1 hg (gd_V wd_778 wd_780 wd_3 wd_107 wd_781) rfl rfl rfl (by decide +kernel) ⟨Nat.le_of_ble_eq_true rfl, Nat.le_of_ble_eq_true rfl⟩) (Wd_V hPc hKK hDc (va_recv hK hPc (ci := 11) (q0 := 0) rfl rfl)) rfl rfl hl.1 rfl (lv_room (Nat.le_of_ble_eq_true rfl)) dX11_wish_14 ⟨Nat.le_of_ble_eq_true rfl, Nat.le_of_ble_eq_true rfl⟩) hS (fun q _ h => hFc q h) hFc (fun r_3 u_3 t_3 H1 locs ht_3 hvm_3 hw_3 hB_3 hz_3 hk_3 hS => ?_)
  obtain ⟨hP, hD⟩ := va_join (wr := [(h_5, .inr (1, [.ref h_5_0, .ref h_5_1, .ref h_5_2, .ref h_5_3, .ref h_5_4, .ref h_5_5, .ref h_5_6, .ref h_5_7, .ref h_5_8, .ref h_5_9, .ref h_5_10, .ref h_5_11, .ref h_5_12, .int 0]))]) (w1 := []) hP hD [0] [1] rfl rfl (by decide) (by decide) hk_3 hFc (fun k q h => by simp at h) ⟨fun i j p q h => by simp at h, fun k q h => by simp at h⟩
  generalize H1 = H at hP hS ⊢
  have hP : va_P D vwCl [(h_5, .inr (1, [.ref h_5_0, .ref h_5_1, .ref h_5_2, .ref h_5_3, .ref h_5_4, .ref h_5_5, .ref h_5_6, .ref h_5_7, .ref h_5_8, .ref h_5_9, .ref h_5_10, .ref h_5_11, .ref h_5_12, .int 0]))] H := hP
  have hD : va_D A [(h_5, .inr (1, [.ref h_5_0, .ref h_5_1, .ref h_5_2, .ref h_5_3, .ref h_5_4, .ref h_5_5, .ref h_5_6, .ref h_5_7, .ref h_5_8, .ref h_5_9, .ref h_5_10, .ref h_5_11, .ref h_5_12, .int 0]))] := hD
  subst hw_3
  exact W.iret (v := (-2)) hx hb hr (fun t ht hW => ⟨⟨(-2), (), rfl, (by simp [sp_wish]), trivial⟩, hS.F ht⟩) hS.2.2 dX11_wish_17
def sp_clear  : Int32 := 0
theorem dX11_clear_0 : decode cX11_clear 0 = .ok (.aload_n 0, 1) := by decide +kernel
theorem dX11_clear_1 : decode cX11_clear 1 = .ok (.getfield 96, 3) := by decide +kernel
theorem dX11_clear_4 : decode cX11_clear 4 = .ok (.getfield 408, 3) := by decide +kernel
theorem wd_637 : (Cond.fieldLink "VoteRoll" 408 "VoteRoll$Plan" "size" "I") ∈ gl := gl_at 637 (by decide +kernel) (by decide +kernel)
theorem dX11_clear_7 : decode cX11_clear 7 = .ok (.istore_n 1, 1) := by decide +kernel
theorem dX11_clear_8 : decode cX11_clear 8 = .ok (.aload_n 0, 1) := by decide +kernel
theorem dX11_clear_9 : decode cX11_clear 9 = .ok (.getfield 96, 3) := by decide +kernel
theorem dX11_clear_12 : decode cX11_clear 12 = .ok (.iconst 0, 1) := by decide +kernel
theorem dX11_clear_13 : decode cX11_clear 13 = .ok (.putfield 408, 3) := by decide +kernel
theorem dX11_clear_16 : decode cX11_clear 16 = .ok (.iload_n 1, 1) := by decide +kernel
theorem dX11_clear_17 : decode cX11_clear 17 = .ok (.ireturn, 1) := by decide +kernel
set_option maxHeartbeats 4000000 in
set_option maxRecDepth 100000 in
theorem c_clear (l : Launch) (D : va_G) (ct : Nat → ClassId) (h : Nat) (h_0 : Nat) (h_1 : Nat) (h_2 : Nat) (h_3 : Nat) (h_4 : Nat) (h_5 : Nat) (h_6 : Nat) (h_7 : Nat) (h_8 : Nat) (h_9 : Nat) (h_10 : Nat) (h_11 : Nat) (h_12 : Nat) (h_13 : Int32) (h_14 : Int32) (h_12_0 : Nat) (h_12_1 : Nat) (h_12_3 : Nat) (h_12_4 : Nat) (h_12_5 : Int32) (h_12_6 : Int32) (h_12_7 : Nat) (h_12_9 : Int32) (h_12_11 : Nat) (h_12_12 : Nat) (sz : Nat)  : Met l yX11_clear (wk yX11_clear cX11_clear 2 (some .int)) { frames := 0, cells := 0, slots := 0, locals := 0 } (va_Pc [.ref h] (Wd D [(h, .inr (11, [.ref h_0, .ref h_1, .ref h_2, .ref h_3, .ref h_4, .ref h_5, .ref h_6, .ref h_7, .ref h_8, .ref h_9, .ref h_10, .ref h_11, .ref h_12, .int h_13, .int h_14])), (h_12, .inr (9, [.ref h_12_0, .ref h_12_1, .int 0, .ref h_12_3, .ref h_12_4, .int h_12_5, .int h_12_6, .ref h_12_7, .int 0, .int h_12_9, .int (-1), .ref h_12_11, .ref h_12_12]))] ct sz)) (va_Qi (fun (r : Int32) (u : Unit) => r = sp_clear) (fun _ _ => True) (va_A [(h, .inr (11, [.ref h_0, .ref h_1, .ref h_2, .ref h_3, .ref h_4, .ref h_5, .ref h_6, .ref h_7, .ref h_8, .ref h_9, .ref h_10, .ref h_11, .ref h_12, .int h_13, .int h_14])), (h_12, .inr (9, [.ref h_12_0, .ref h_12_1, .int 0, .ref h_12_3, .ref h_12_4, .int h_12_5, .int h_12_6, .ref h_12_7, .int 0, .int h_12_9, .int (-1), .ref h_12_11, .ref h_12_12]))] sz)) 0 0 (va_A [(h, .inr (11, [.ref h_0, .ref h_1, .ref h_2, .ref h_3, .ref h_4, .ref h_5, .ref h_6, .ref h_7, .ref h_8, .ref h_9, .ref h_10, .ref h_11, .ref h_12, .int h_13, .int h_14])), (h_12, .inr (9, [.ref h_12_0, .ref h_12_1, .int 0, .ref h_12_3, .ref h_12_4, .int h_12_5, .int h_12_6, .ref h_12_7, .int 0, .int h_12_9, .int (-1), .ref h_12_11, .ref h_12_12]))] sz) := by
  refine Met.ofW (cc := cX11_clear) (maxL := 2) (ret := (some .int)) (by decide) rfl ?_
  intro p e s m args below meth c s₁ B hml hv
  obtain ⟨rfl, hsz, hP, hKK, hD0⟩ := hv
  have hK := hKK.1
  have hx := B.exec
  have hb := B.bytes
  have hr := B.returns
  have hg : ∀ w ∈ gl, w.before _ s = true := fun w h => atoms_spec (ws := wk yX11_clear cX11_clear 2 (some .int)) B.pre w (List.mem_cons_of_mem _ h)
  have hown : s.vm.findClass RX11 = some m.cls := findClass_of_methodNamed B.named
  have hlocks := B.notSynchronized
  subst hsz
  have hD := hD0.self (sz := s.heap.size)
  generalize hAe : va_A [(h, .inr (11, [.ref h_0, .ref h_1, .ref h_2, .ref h_3, .ref h_4, .ref h_5, .ref h_6, .ref h_7, .ref h_8, .ref h_9, .ref h_10, .ref h_11, .ref h_12, .int h_13, .int h_14])), (h_12, .inr (9, [.ref h_12_0, .ref h_12_1, .int 0, .ref h_12_3, .ref h_12_4, .int h_12_5, .int h_12_6, .ref h_12_7, .int 0, .int h_12_9, .int (-1), .ref h_12_11, .ref h_12_12]))] s.heap.size = A at hD ⊢
  have hA : ∀ q : Nat, s.heap.size ≤ q → A q := fun q h => by rw [← hAe]; exact Or.inr h
  have hS : va_S A s.heap s.heap [] := va_S.rf
  have hl := lv_entry ([.ref h]) (n := 2) (Nat.le_of_ble_eq_true rfl)
  rw [lg_entry_eq]
  generalize (lg_sl ([.ref h]) ++ List.replicate (2 - (lg_sl ([.ref h])).length) Slot.unset).toArray = ls at hl ⊢
  have hl : lv_has ls 2 [(0, .ref h)] := hl
  refine lv_aload_n hx hb dX11_clear_0 rfl (lv_at hl 0 rfl) ?_
  refine va_get (D := D) (ci := 11) (v := .ref h_12) (C := RX11) (T := TX11) (N := 15) hx hb hg inX11 hown hK hP 0 rfl rfl 12 (by decide) (hg _ wd_695) (fun _ h9 => h9) rfl dX11_clear_1 ?_
  refine va_get (D := D) (ci := 9) (v := .int 0) (C := RX9) (T := TX9) (N := 13) hx hb hg inX9 hown hK hP 1 rfl rfl 2 (by decide) (hg _ wd_637) (fun _ h9 => h9) rfl dX11_clear_4 ?_
  refine lv_istore_n (lv' := [(1, .int 0), (0, .ref h)]) hx hb dX11_clear_7 rfl hl (by decide) rfl (fun ls hl => ?_)
  refine lv_aload_n hx hb dX11_clear_8 rfl (lv_at hl 1 rfl) ?_
  refine va_get (D := D) (ci := 11) (v := .ref h_12) (C := RX11) (T := TX11) (N := 15) hx hb hg inX11 hown hK hP 0 rfl rfl 12 (by decide) (hg _ wd_695) (fun _ h9 => h9) rfl dX11_clear_9 ?_
  refine lv_iconst (v := 0) hx hb dX11_clear_12 (by decide) ?_
  refine va_put (D := D) (ci := 9) (v := .int 0) (ty := .int) (C := RX9) (T := TX9) (N := 13) hx hb hg inX9 tyX9 tyX9_ok nmX9 hown hK hP hD hS 1 rfl rfl 2 (by decide) (hg _ wd_637) (fun _ h9 => h9) rfl (by decide +kernel) rfl rfl (Nat.le_of_ble_eq_true rfl) dX11_clear_13 (fun H locs hP hD hS => ?_)
  have hP : va_P D vwCl [(h, .inr (11, [.ref h_0, .ref h_1, .ref h_2, .ref h_3, .ref h_4, .ref h_5, .ref h_6, .ref h_7, .ref h_8, .ref h_9, .ref h_10, .ref h_11, .ref h_12, .int h_13, .int h_14])), (h_12, .inr (9, [.ref h_12_0, .ref h_12_1, .int 0, .ref h_12_3, .ref h_12_4, .int h_12_5, .int h_12_6, .ref h_12_7, .int 0, .int h_12_9, .int (-1), .ref h_12_11, .ref h_12_12]))] H := hP
  have hD : va_D A [(h, .inr (11, [.ref h_0, .ref h_1, .ref h_2, .ref h_3, .ref h_4, .ref h_5, .ref h_6, .ref h_7, .ref h_8, .ref h_9, .ref h_10, .ref h_11, .ref h_12, .int h_13, .int h_14])), (h_12, .inr (9, [.ref h_12_0, .ref h_12_1, .int 0, .ref h_12_3, .ref h_12_4, .int h_12_5, .int h_12_6, .ref h_12_7, .int 0, .int h_12_9, .int (-1), .ref h_12_11, .ref h_12_12]))] := hD
  refine lv_iload_n hx hb dX11_clear_16 rfl (lv_at hl 0 rfl) ?_
  exact W.iret (v := 0) hx hb hr (fun t ht hW => ⟨⟨0, (), rfl, (by simp [sp_clear]), trivial⟩, hS.F ht⟩) hS.2.2 dX11_clear_17
def sp_status  : Int32 := 0
theorem dX11_status_0 : decode cX11_status 0 = .ok (.aload_n 0, 1) := by decide +kernel
theorem dX11_status_1 : decode cX11_status 1 = .ok (.getfield 104, 3) := by decide +kernel
theorem dX11_status_4 : decode cX11_status 4 = .ok (.ireturn, 1) := by decide +kernel
set_option maxHeartbeats 4000000 in
set_option maxRecDepth 100000 in
theorem c_status (l : Launch) (D : va_G) (ct : Nat → ClassId) (h : Nat) (h_0 : Nat) (h_1 : Nat) (h_2 : Nat) (h_3 : Nat) (h_4 : Nat) (h_5 : Nat) (h_6 : Nat) (h_7 : Nat) (h_8 : Nat) (h_9 : Nat) (h_10 : Nat) (h_11 : Nat) (h_12 : Nat) (h_13 : Int32) (sz : Nat)  : Met l yX11_status (wk yX11_status cX11_status 1 (some .int)) { frames := 0, cells := 0, slots := 0, locals := 0 } (va_Pc [.ref h] (Wd D [(h, .inr (11, [.ref h_0, .ref h_1, .ref h_2, .ref h_3, .ref h_4, .ref h_5, .ref h_6, .ref h_7, .ref h_8, .ref h_9, .ref h_10, .ref h_11, .ref h_12, .int h_13, .int 0]))] ct sz)) (va_Qi (fun (r : Int32) (u : Unit) => r = sp_status) (fun _ _ => True) (va_A [(h, .inr (11, [.ref h_0, .ref h_1, .ref h_2, .ref h_3, .ref h_4, .ref h_5, .ref h_6, .ref h_7, .ref h_8, .ref h_9, .ref h_10, .ref h_11, .ref h_12, .int h_13, .int 0]))] sz)) 0 0 (va_A [(h, .inr (11, [.ref h_0, .ref h_1, .ref h_2, .ref h_3, .ref h_4, .ref h_5, .ref h_6, .ref h_7, .ref h_8, .ref h_9, .ref h_10, .ref h_11, .ref h_12, .int h_13, .int 0]))] sz) := by
  refine Met.ofW (cc := cX11_status) (maxL := 1) (ret := (some .int)) (by decide) rfl ?_
  intro p e s m args below meth c s₁ B hml hv
  obtain ⟨rfl, hsz, hP, hKK, hD0⟩ := hv
  have hK := hKK.1
  have hx := B.exec
  have hb := B.bytes
  have hr := B.returns
  have hg : ∀ w ∈ gl, w.before _ s = true := fun w h => atoms_spec (ws := wk yX11_status cX11_status 1 (some .int)) B.pre w (List.mem_cons_of_mem _ h)
  have hown : s.vm.findClass RX11 = some m.cls := findClass_of_methodNamed B.named
  have hlocks := B.notSynchronized
  subst hsz
  have hD := hD0.self (sz := s.heap.size)
  generalize hAe : va_A [(h, .inr (11, [.ref h_0, .ref h_1, .ref h_2, .ref h_3, .ref h_4, .ref h_5, .ref h_6, .ref h_7, .ref h_8, .ref h_9, .ref h_10, .ref h_11, .ref h_12, .int h_13, .int 0]))] s.heap.size = A at hD ⊢
  have hA : ∀ q : Nat, s.heap.size ≤ q → A q := fun q h => by rw [← hAe]; exact Or.inr h
  have hS : va_S A s.heap s.heap [] := va_S.rf
  have hl := lv_entry ([.ref h]) (n := 1) (Nat.le_of_ble_eq_true rfl)
  rw [lg_entry_eq]
  generalize (lg_sl ([.ref h]) ++ List.replicate (1 - (lg_sl ([.ref h])).length) Slot.unset).toArray = ls at hl ⊢
  have hl : lv_has ls 1 [(0, .ref h)] := hl
  refine lv_aload_n hx hb dX11_status_0 rfl (lv_at hl 0 rfl) ?_
  refine va_get (D := D) (ci := 11) (v := .int 0) (C := RX11) (T := TX11) (N := 15) hx hb hg inX11 hown hK hP 0 rfl rfl 14 (by decide) (hg _ wd_697) (fun _ h9 => h9) rfl dX11_status_1 ?_
  exact W.iret (v := 0) hx hb hr (fun t ht hW => ⟨⟨0, (), rfl, (by simp [sp_status]), trivial⟩, hS.F ht⟩) hS.2.2 dX11_status_4
def sp_planned (a1 : Int32) : Int32 := -1
theorem dX11_planned_0 : decode cX11_planned 0 = .ok (.iload_n 1, 1) := by decide +kernel
theorem dX11_planned_1 : decode cX11_planned 1 = .ok (.iconst (-1), 1) := by decide +kernel
theorem dX11_planned_2 : decode cX11_planned 2 = .ok (.if_icmp .ne 11, 3) := by decide +kernel
theorem dX11_planned_13 : decode cX11_planned 13 = .ok (.iload_n 1, 1) := by decide +kernel
theorem dX11_planned_14 : decode cX11_planned 14 = .ok (.iconst 0, 1) := by decide +kernel
theorem dX11_planned_15 : decode cX11_planned 15 = .ok (.aload_n 0, 1) := by decide +kernel
theorem dX11_planned_16 : decode cX11_planned 16 = .ok (.getfield 96, 3) := by decide +kernel
theorem dX11_planned_19 : decode cX11_planned 19 = .ok (.getfield 427, 3) := by decide +kernel
theorem wd_649 : (Cond.fieldLink "VoteRoll" 427 "VoteRoll$Plan" "plannedSize" "I") ∈ gl := gl_at 649 (by decide +kernel) (by decide +kernel)
theorem dX11_planned_22 : decode cX11_planned 22 = .ok (.iconst 1, 1) := by decide +kernel
theorem dX11_planned_23 : decode cX11_planned 23 = .ok (.isub, 1) := by decide +kernel
theorem dX11_planned_24 : decode cX11_planned 24 = .ok (.invokestatic 150, 3) := by decide +kernel
theorem dX11_planned_27 : decode cX11_planned 27 = .ok (.ifCond .eq 15, 3) := by decide +kernel
theorem dX11_planned_42 : decode cX11_planned 42 = .ok (.iconst (-1), 1) := by decide +kernel
theorem dX11_planned_43 : decode cX11_planned 43 = .ok (.ireturn, 1) := by decide +kernel
theorem dX11_planned_5 : decode cX11_planned 5 = .ok (.aload_n 0, 1) := by decide +kernel
theorem dX11_planned_6 : decode cX11_planned 6 = .ok (.getfield 96, 3) := by decide +kernel
theorem dX11_planned_9 : decode cX11_planned 9 = .ok (.getfield 424, 3) := by decide +kernel
theorem wd_653 : (Cond.fieldLink "VoteRoll" 424 "VoteRoll$Plan" "bestCost" "I") ∈ gl := gl_at 653 (by decide +kernel) (by decide +kernel)
theorem dX11_planned_12 : decode cX11_planned 12 = .ok (.ireturn, 1) := by decide +kernel
set_option maxHeartbeats 4000000 in
set_option maxRecDepth 100000 in
theorem c_planned (l : Launch) (D : va_G) (ct : Nat → ClassId) (h : Nat) (a1 : Int32) (h_0 : Nat) (h_1 : Nat) (h_2 : Nat) (h_3 : Nat) (h_4 : Nat) (h_5 : Nat) (h_6 : Nat) (h_7 : Nat) (h_8 : Nat) (h_9 : Nat) (h_10 : Nat) (h_11 : Nat) (h_12 : Nat) (h_13 : Int32) (h_14 : Int32) (h_12_0 : Nat) (h_12_1 : Nat) (h_12_3 : Nat) (h_12_4 : Nat) (h_12_5 : Int32) (h_12_6 : Int32) (h_12_7 : Nat) (h_12_9 : Int32) (h_12_11 : Nat) (h_12_12 : Nat) (sz : Nat)  : Met l yX11_planned (wk yX11_planned cX11_planned 2 (some .int)) { frames := 1, cells := 0, slots := 0, locals := 22 } (va_Pc [.ref h, .int a1] (Wd D [(h, .inr (11, [.ref h_0, .ref h_1, .ref h_2, .ref h_3, .ref h_4, .ref h_5, .ref h_6, .ref h_7, .ref h_8, .ref h_9, .ref h_10, .ref h_11, .ref h_12, .int h_13, .int h_14])), (h_12, .inr (9, [.ref h_12_0, .ref h_12_1, .int 0, .ref h_12_3, .ref h_12_4, .int h_12_5, .int h_12_6, .ref h_12_7, .int 0, .int h_12_9, .int (-1), .ref h_12_11, .ref h_12_12]))] ct sz)) (va_Qi (fun (r : Int32) (u : Unit) => r = sp_planned a1) (fun _ _ => True) (va_A [(h, .inr (11, [.ref h_0, .ref h_1, .ref h_2, .ref h_3, .ref h_4, .ref h_5, .ref h_6, .ref h_7, .ref h_8, .ref h_9, .ref h_10, .ref h_11, .ref h_12, .int h_13, .int h_14])), (h_12, .inr (9, [.ref h_12_0, .ref h_12_1, .int 0, .ref h_12_3, .ref h_12_4, .int h_12_5, .int h_12_6, .ref h_12_7, .int 0, .int h_12_9, .int (-1), .ref h_12_11, .ref h_12_12]))] sz)) 0 0 (va_A [(h, .inr (11, [.ref h_0, .ref h_1, .ref h_2, .ref h_3, .ref h_4, .ref h_5, .ref h_6, .ref h_7, .ref h_8, .ref h_9, .ref h_10, .ref h_11, .ref h_12, .int h_13, .int h_14])), (h_12, .inr (9, [.ref h_12_0, .ref h_12_1, .int 0, .ref h_12_3, .ref h_12_4, .int h_12_5, .int h_12_6, .ref h_12_7, .int 0, .int h_12_9, .int (-1), .ref h_12_11, .ref h_12_12]))] sz) := by
  refine Met.ofW (cc := cX11_planned) (maxL := 2) (ret := (some .int)) (by decide) rfl ?_
  intro p e s m args below meth c s₁ B hml hv
  obtain ⟨rfl, hsz, hP, hKK, hD0⟩ := hv
  have hK := hKK.1
  have hx := B.exec
  have hb := B.bytes
  have hr := B.returns
  have hg : ∀ w ∈ gl, w.before _ s = true := fun w h => atoms_spec (ws := wk yX11_planned cX11_planned 2 (some .int)) B.pre w (List.mem_cons_of_mem _ h)
  have hown : s.vm.findClass RX11 = some m.cls := findClass_of_methodNamed B.named
  have hlocks := B.notSynchronized
  subst hsz
  have hD := hD0.self (sz := s.heap.size)
  generalize hAe : va_A [(h, .inr (11, [.ref h_0, .ref h_1, .ref h_2, .ref h_3, .ref h_4, .ref h_5, .ref h_6, .ref h_7, .ref h_8, .ref h_9, .ref h_10, .ref h_11, .ref h_12, .int h_13, .int h_14])), (h_12, .inr (9, [.ref h_12_0, .ref h_12_1, .int 0, .ref h_12_3, .ref h_12_4, .int h_12_5, .int h_12_6, .ref h_12_7, .int 0, .int h_12_9, .int (-1), .ref h_12_11, .ref h_12_12]))] s.heap.size = A at hD ⊢
  have hA : ∀ q : Nat, s.heap.size ≤ q → A q := fun q h => by rw [← hAe]; exact Or.inr h
  have hS : va_S A s.heap s.heap [] := va_S.rf
  have hl := lv_entry ([.ref h, .int a1]) (n := 2) (Nat.le_of_ble_eq_true rfl)
  rw [lg_entry_eq]
  generalize (lg_sl ([.ref h, .int a1]) ++ List.replicate (2 - (lg_sl ([.ref h, .int a1])).length) Slot.unset).toArray = ls at hl ⊢
  have hl : lv_has ls 2 [(0, .ref h), (1, .int a1)] := hl
  refine lv_iload_n hx hb dX11_planned_0 rfl (lv_at hl 1 rfl) ?_
  refine lv_iconst (v := (-1)) hx hb dX11_planned_1 (by decide) ?_
  refine lv_icmp_ne (tgt := 13) hx hb dX11_planned_2 (by decide) (fun c_1 => ?_) (fun c_1 => ?_)
  · refine lv_iload_n hx hb dX11_planned_13 rfl (lv_at hl 1 rfl) ?_
    refine lv_iconst (v := 0) hx hb dX11_planned_14 (by decide) ?_
    refine lv_aload_n hx hb dX11_planned_15 rfl (lv_at hl 0 rfl) ?_
    refine va_get (D := D) (ci := 11) (v := .ref h_12) (C := RX11) (T := TX11) (N := 15) hx hb hg inX11 hown hK hP 0 rfl rfl 12 (by decide) (hg _ wd_695) (fun _ h9 => h9) rfl dX11_planned_16 ?_
    refine va_get (D := D) (ci := 9) (v := .int 0) (C := RX9) (T := TX9) (N := 13) hx hb hg inX9 hown hK hP 1 rfl rfl 8 (by decide) (hg _ wd_649) (fun _ h9 => h9) rfl dX11_planned_19 ?_
    refine lv_iconst (v := 1) hx hb dX11_planned_22 (by decide) ?_
    refine lv_isub hx hb dX11_planned_23 ?_
    rw [show ((0 - 1 : Int32) = (-1)) by decide]
    have hPc := hP.sub (ws' := []) [] rfl
    refine z_calli (va_runS (As := [.int a1, .int 0, .int (-1)]) (rest := []) ⟨hx, hb, hml, hown, hg⟩ (c_within l D ct a1 0 (-1) ) (va_cwS 3 hg (gd_S wd_959 wd_917 wd_107 wd_918) rfl rfl rfl (by decide +kernel) ⟨Nat.le_of_ble_eq_true rfl, Nat.le_of_ble_eq_true rfl⟩) (Wr_S hPc hKK) rfl rfl hl.1 rfl (lv_room (Nat.le_of_ble_eq_true rfl)) dX11_planned_24 ⟨Nat.le_of_ble_eq_true rfl, Nat.le_of_ble_eq_true rfl⟩) (fun r_2 hw_2 => ?_)
    subst hw_2
    rw [bw_em]
    refine lv_if_eq (tgt := 42) hx hb dX11_planned_27 (by decide) (fun _ => ?_) (fun h => absurd (by decide) h)
    refine lv_iconst (v := (-1)) hx hb dX11_planned_42 (by decide) ?_
    exact W.iret (v := (-1)) hx hb hr (fun t ht hW => ⟨⟨(-1), (), rfl, (by simp [sp_planned]), trivial⟩, hS.F ht⟩) hS.2.2 dX11_planned_43
  · refine lv_aload_n hx hb dX11_planned_5 rfl (lv_at hl 0 rfl) ?_
    refine va_get (D := D) (ci := 11) (v := .ref h_12) (C := RX11) (T := TX11) (N := 15) hx hb hg inX11 hown hK hP 0 rfl rfl 12 (by decide) (hg _ wd_695) (fun _ h9 => h9) rfl dX11_planned_6 ?_
    refine va_get (D := D) (ci := 9) (v := .int (-1)) (C := RX9) (T := TX9) (N := 13) hx hb hg inX9 hown hK hP 1 rfl rfl 10 (by decide) (hg _ wd_653) (fun _ h9 => h9) rfl dX11_planned_9 ?_
    exact W.iret (v := (-1)) hx hb hr (fun t ht hW => ⟨⟨(-1), (), rfl, (by simp [sp_planned]), trivial⟩, hS.F ht⟩) hS.2.2 dX11_planned_12
def sp_count (a1 : Int32) : Int32 := if a1 = 0 then 0 else if a1 = 1 then 0 else if a1 = 2 then 0 else if a1 = 3 then 0 else if a1 = 4 then 0 else if a1 = 5 then 0 else if a1 = 6 then 0 else if a1 = 7 then 0 else (-1)
theorem dX11_count_0 : decode cX11_count 0 = .ok (.iload_n 1, 1) := by decide +kernel
theorem dX11_count_1 : decode cX11_count 1 = .ok (.tableswitch 111 0 7 #[47, 55, 63, 71, 79, 87, 95, 103], 47) := by decide +kernel
theorem dX11_count_48 : decode cX11_count 48 = .ok (.aload_n 0, 1) := by decide +kernel
theorem dX11_count_49 : decode cX11_count 49 = .ok (.getfield 39, 3) := by decide +kernel
theorem dX11_count_52 : decode cX11_count 52 = .ok (.getfield 126, 3) := by decide +kernel
theorem wd_282 : (Cond.fieldLink "VoteRoll" 126 "VoteRoll$Book" "size" "I") ∈ gl := gl_at 282 (by decide +kernel) (by decide +kernel)
theorem dX11_count_55 : decode cX11_count 55 = .ok (.ireturn, 1) := by decide +kernel
theorem dX11_count_56 : decode cX11_count 56 = .ok (.aload_n 0, 1) := by decide +kernel
theorem dX11_count_57 : decode cX11_count 57 = .ok (.getfield 19, 3) := by decide +kernel
theorem wd_684 : (Cond.fieldLink "VoteRoll" 19 "VoteRoll" "liveFolds" "LVoteRoll$Folds;") ∈ gl := gl_at 684 (by decide +kernel) (by decide +kernel)
theorem dX11_count_60 : decode cX11_count 60 = .ok (.getfield 137, 3) := by decide +kernel
theorem wd_180 : (Cond.fieldLink "VoteRoll" 137 "VoteRoll$Folds" "pairs" "I") ∈ gl := gl_at 180 (by decide +kernel) (by decide +kernel)
theorem dX11_count_63 : decode cX11_count 63 = .ok (.ireturn, 1) := by decide +kernel
theorem dX11_count_64 : decode cX11_count 64 = .ok (.aload_n 0, 1) := by decide +kernel
theorem dX11_count_65 : decode cX11_count 65 = .ok (.getfield 29, 3) := by decide +kernel
theorem wd_686 : (Cond.fieldLink "VoteRoll" 29 "VoteRoll" "liveLaw" "LVoteRoll$Law;") ∈ gl := gl_at 686 (by decide +kernel) (by decide +kernel)
theorem dX11_count_68 : decode cX11_count 68 = .ok (.getfield 147, 3) := by decide +kernel
theorem wd_216 : (Cond.fieldLink "VoteRoll" 147 "VoteRoll$Law" "clauses" "I") ∈ gl := gl_at 216 (by decide +kernel) (by decide +kernel)
theorem dX11_count_71 : decode cX11_count 71 = .ok (.ireturn, 1) := by decide +kernel
theorem dX11_count_72 : decode cX11_count 72 = .ok (.aload_n 0, 1) := by decide +kernel
theorem dX11_count_73 : decode cX11_count 73 = .ok (.getfield 29, 3) := by decide +kernel
theorem dX11_count_76 : decode cX11_count 76 = .ok (.getfield 433, 3) := by decide +kernel
theorem wd_218 : (Cond.fieldLink "VoteRoll" 433 "VoteRoll$Law" "causeFacts" "I") ∈ gl := gl_at 218 (by decide +kernel) (by decide +kernel)
theorem dX11_count_79 : decode cX11_count 79 = .ok (.ireturn, 1) := by decide +kernel
theorem dX11_count_80 : decode cX11_count 80 = .ok (.aload_n 0, 1) := by decide +kernel
theorem dX11_count_81 : decode cX11_count 81 = .ok (.getfield 46, 3) := by decide +kernel
theorem wd_689 : (Cond.fieldLink "VoteRoll" 46 "VoteRoll" "acts" "LVoteRoll$Acts;") ∈ gl := gl_at 689 (by decide +kernel) (by decide +kernel)
theorem dX11_count_84 : decode cX11_count 84 = .ok (.getfield 311, 3) := by decide +kernel
theorem wd_340 : (Cond.fieldLink "VoteRoll" 311 "VoteRoll$Acts" "size" "I") ∈ gl := gl_at 340 (by decide +kernel) (by decide +kernel)
theorem dX11_count_87 : decode cX11_count 87 = .ok (.ireturn, 1) := by decide +kernel
theorem dX11_count_88 : decode cX11_count 88 = .ok (.aload_n 0, 1) := by decide +kernel
theorem dX11_count_89 : decode cX11_count 89 = .ok (.getfield 46, 3) := by decide +kernel
theorem dX11_count_92 : decode cX11_count 92 = .ok (.getfield 320, 3) := by decide +kernel
theorem wd_342 : (Cond.fieldLink "VoteRoll" 320 "VoteRoll$Acts" "voteCount" "I") ∈ gl := gl_at 342 (by decide +kernel) (by decide +kernel)
theorem dX11_count_95 : decode cX11_count 95 = .ok (.ireturn, 1) := by decide +kernel
theorem dX11_count_96 : decode cX11_count 96 = .ok (.aload_n 0, 1) := by decide +kernel
theorem dX11_count_97 : decode cX11_count 97 = .ok (.getfield 96, 3) := by decide +kernel
theorem dX11_count_100 : decode cX11_count 100 = .ok (.getfield 408, 3) := by decide +kernel
theorem dX11_count_103 : decode cX11_count 103 = .ok (.ireturn, 1) := by decide +kernel
theorem dX11_count_104 : decode cX11_count 104 = .ok (.aload_n 0, 1) := by decide +kernel
theorem dX11_count_105 : decode cX11_count 105 = .ok (.getfield 12, 3) := by decide +kernel
theorem dX11_count_108 : decode cX11_count 108 = .ok (.getfield 107, 3) := by decide +kernel
theorem dX11_count_111 : decode cX11_count 111 = .ok (.ireturn, 1) := by decide +kernel
theorem dX11_count_112 : decode cX11_count 112 = .ok (.iconst (-1), 1) := by decide +kernel
theorem dX11_count_113 : decode cX11_count 113 = .ok (.ireturn, 1) := by decide +kernel
set_option maxHeartbeats 4000000 in
set_option maxRecDepth 100000 in
theorem c_count (l : Launch) (D : va_G) (ct : Nat → ClassId) (h : Nat) (a1 : Int32) (h_0 : Nat) (h_1 : Nat) (h_2 : Nat) (h_3 : Nat) (h_4 : Nat) (h_5 : Nat) (h_6 : Nat) (h_7 : Nat) (h_8 : Nat) (h_9 : Nat) (h_10 : Nat) (h_11 : Nat) (h_12 : Nat) (h_13 : Int32) (h_14 : Int32) (h_5_0 : Nat) (h_5_1 : Nat) (h_5_2 : Nat) (h_5_3 : Nat) (h_5_4 : Nat) (h_5_5 : Nat) (h_5_6 : Nat) (h_5_7 : Nat) (h_5_8 : Nat) (h_5_9 : Nat) (h_5_10 : Nat) (h_5_11 : Nat) (h_5_12 : Nat) (h_1_0 : Nat) (h_1_1 : Nat) (h_1_2 : Nat) (h_1_3 : Nat) (h_3_0 : Nat) (h_3_1 : Nat) (h_3_5 : Int32) (h_6_0 : Nat) (h_6_1 : Nat) (h_6_2 : Nat) (h_6_3 : Nat) (h_6_4 : Nat) (h_6_5 : Nat) (h_12_0 : Nat) (h_12_1 : Nat) (h_12_3 : Nat) (h_12_4 : Nat) (h_12_5 : Int32) (h_12_6 : Int32) (h_12_7 : Nat) (h_12_9 : Int32) (h_12_11 : Nat) (h_12_12 : Nat) (h_0_0 : Nat) (h_0_2 : Int32) (h_0_3 : Int32) (h_0_4 : Int32) (sz : Nat)  : Met l yX11_count (wk yX11_count cX11_count 2 (some .int)) { frames := 0, cells := 0, slots := 0, locals := 0 } (va_Pc [.ref h, .int a1] (Wd D [(h, .inr (11, [.ref h_0, .ref h_1, .ref h_2, .ref h_3, .ref h_4, .ref h_5, .ref h_6, .ref h_7, .ref h_8, .ref h_9, .ref h_10, .ref h_11, .ref h_12, .int h_13, .int h_14])), (h_5, .inr (1, [.ref h_5_0, .ref h_5_1, .ref h_5_2, .ref h_5_3, .ref h_5_4, .ref h_5_5, .ref h_5_6, .ref h_5_7, .ref h_5_8, .ref h_5_9, .ref h_5_10, .ref h_5_11, .ref h_5_12, .int 0])), (h_1, .inr (4, [.ref h_1_0, .ref h_1_1, .ref h_1_2, .ref h_1_3, .int 0])), (h_3, .inr (5, [.ref h_3_0, .ref h_3_1, .int 0, .int 0, .int 0, .int h_3_5])), (h_6, .inr (0, [.ref h_6_0, .ref h_6_1, .ref h_6_2, .ref h_6_3, .ref h_6_4, .ref h_6_5, .int 0, .int 0])), (h_12, .inr (9, [.ref h_12_0, .ref h_12_1, .int 0, .ref h_12_3, .ref h_12_4, .int h_12_5, .int h_12_6, .ref h_12_7, .int 0, .int h_12_9, .int (-1), .ref h_12_11, .ref h_12_12])), (h_0, .inr (10, [.ref h_0_0, .int 0, .int h_0_2, .int h_0_3, .int h_0_4]))] ct sz)) (va_Qi (fun (r : Int32) (u : Unit) => r = sp_count a1) (fun _ _ => True) (va_A [(h, .inr (11, [.ref h_0, .ref h_1, .ref h_2, .ref h_3, .ref h_4, .ref h_5, .ref h_6, .ref h_7, .ref h_8, .ref h_9, .ref h_10, .ref h_11, .ref h_12, .int h_13, .int h_14])), (h_5, .inr (1, [.ref h_5_0, .ref h_5_1, .ref h_5_2, .ref h_5_3, .ref h_5_4, .ref h_5_5, .ref h_5_6, .ref h_5_7, .ref h_5_8, .ref h_5_9, .ref h_5_10, .ref h_5_11, .ref h_5_12, .int 0])), (h_1, .inr (4, [.ref h_1_0, .ref h_1_1, .ref h_1_2, .ref h_1_3, .int 0])), (h_3, .inr (5, [.ref h_3_0, .ref h_3_1, .int 0, .int 0, .int 0, .int h_3_5])), (h_6, .inr (0, [.ref h_6_0, .ref h_6_1, .ref h_6_2, .ref h_6_3, .ref h_6_4, .ref h_6_5, .int 0, .int 0])), (h_12, .inr (9, [.ref h_12_0, .ref h_12_1, .int 0, .ref h_12_3, .ref h_12_4, .int h_12_5, .int h_12_6, .ref h_12_7, .int 0, .int h_12_9, .int (-1), .ref h_12_11, .ref h_12_12])), (h_0, .inr (10, [.ref h_0_0, .int 0, .int h_0_2, .int h_0_3, .int h_0_4]))] sz)) 0 0 (va_A [(h, .inr (11, [.ref h_0, .ref h_1, .ref h_2, .ref h_3, .ref h_4, .ref h_5, .ref h_6, .ref h_7, .ref h_8, .ref h_9, .ref h_10, .ref h_11, .ref h_12, .int h_13, .int h_14])), (h_5, .inr (1, [.ref h_5_0, .ref h_5_1, .ref h_5_2, .ref h_5_3, .ref h_5_4, .ref h_5_5, .ref h_5_6, .ref h_5_7, .ref h_5_8, .ref h_5_9, .ref h_5_10, .ref h_5_11, .ref h_5_12, .int 0])), (h_1, .inr (4, [.ref h_1_0, .ref h_1_1, .ref h_1_2, .ref h_1_3, .int 0])), (h_3, .inr (5, [.ref h_3_0, .ref h_3_1, .int 0, .int 0, .int 0, .int h_3_5])), (h_6, .inr (0, [.ref h_6_0, .ref h_6_1, .ref h_6_2, .ref h_6_3, .ref h_6_4, .ref h_6_5, .int 0, .int 0])), (h_12, .inr (9, [.ref h_12_0, .ref h_12_1, .int 0, .ref h_12_3, .ref h_12_4, .int h_12_5, .int h_12_6, .ref h_12_7, .int 0, .int h_12_9, .int (-1), .ref h_12_11, .ref h_12_12])), (h_0, .inr (10, [.ref h_0_0, .int 0, .int h_0_2, .int h_0_3, .int h_0_4]))] sz) := by
  refine Met.ofW (cc := cX11_count) (maxL := 2) (ret := (some .int)) (by decide) rfl ?_
  intro p e s m args below meth c s₁ B hml hv
  obtain ⟨rfl, hsz, hP, hKK, hD0⟩ := hv
  have hK := hKK.1
  have hx := B.exec
  have hb := B.bytes
  have hr := B.returns
  have hg : ∀ w ∈ gl, w.before _ s = true := fun w h => atoms_spec (ws := wk yX11_count cX11_count 2 (some .int)) B.pre w (List.mem_cons_of_mem _ h)
  have hown : s.vm.findClass RX11 = some m.cls := findClass_of_methodNamed B.named
  have hlocks := B.notSynchronized
  subst hsz
  have hD := hD0.self (sz := s.heap.size)
  generalize hAe : va_A [(h, .inr (11, [.ref h_0, .ref h_1, .ref h_2, .ref h_3, .ref h_4, .ref h_5, .ref h_6, .ref h_7, .ref h_8, .ref h_9, .ref h_10, .ref h_11, .ref h_12, .int h_13, .int h_14])), (h_5, .inr (1, [.ref h_5_0, .ref h_5_1, .ref h_5_2, .ref h_5_3, .ref h_5_4, .ref h_5_5, .ref h_5_6, .ref h_5_7, .ref h_5_8, .ref h_5_9, .ref h_5_10, .ref h_5_11, .ref h_5_12, .int 0])), (h_1, .inr (4, [.ref h_1_0, .ref h_1_1, .ref h_1_2, .ref h_1_3, .int 0])), (h_3, .inr (5, [.ref h_3_0, .ref h_3_1, .int 0, .int 0, .int 0, .int h_3_5])), (h_6, .inr (0, [.ref h_6_0, .ref h_6_1, .ref h_6_2, .ref h_6_3, .ref h_6_4, .ref h_6_5, .int 0, .int 0])), (h_12, .inr (9, [.ref h_12_0, .ref h_12_1, .int 0, .ref h_12_3, .ref h_12_4, .int h_12_5, .int h_12_6, .ref h_12_7, .int 0, .int h_12_9, .int (-1), .ref h_12_11, .ref h_12_12])), (h_0, .inr (10, [.ref h_0_0, .int 0, .int h_0_2, .int h_0_3, .int h_0_4]))] s.heap.size = A at hD ⊢
  have hA : ∀ q : Nat, s.heap.size ≤ q → A q := fun q h => by rw [← hAe]; exact Or.inr h
  have hS : va_S A s.heap s.heap [] := va_S.rf
  have hl := lv_entry ([.ref h, .int a1]) (n := 2) (Nat.le_of_ble_eq_true rfl)
  rw [lg_entry_eq]
  generalize (lg_sl ([.ref h, .int a1]) ++ List.replicate (2 - (lg_sl ([.ref h, .int a1])).length) Slot.unset).toArray = ls at hl ⊢
  have hl : lv_has ls 2 [(0, .ref h), (1, .int a1)] := hl
  refine lv_iload_n hx hb dX11_count_0 rfl (lv_at hl 1 rfl) ?_
  by_cases c_1 : a1 = 0
  · refine lv_tableIn (off := 47) (tgt := 48) hx hb dX11_count_1 (by rw [c_1]; decide) (by rw [c_1]; decide) (by rw [c_1]; decide) (by decide) ?_
    refine lv_aload_n hx hb dX11_count_48 rfl (lv_at hl 0 rfl) ?_
    refine va_get (D := D) (ci := 11) (v := .ref h_5) (C := RX11) (T := TX11) (N := 15) hx hb hg inX11 hown hK hP 0 rfl rfl 5 (by decide) (hg _ wd_688) (fun _ h9 => h9) rfl dX11_count_49 ?_
    refine va_get (D := D) (ci := 1) (v := .int 0) (C := RX1) (T := TX1) (N := 14) hx hb hg inX1 hown hK hP 1 rfl rfl 13 (by decide) (hg _ wd_282) (fun _ h9 => h9) rfl dX11_count_52 ?_
    exact W.iret (v := 0) hx hb hr (fun t ht hW => ⟨⟨0, (), rfl, (by simp [sp_count, c_1]), trivial⟩, hS.F ht⟩) hS.2.2 dX11_count_55
  by_cases c_2 : a1 = 1
  · refine lv_tableIn (off := 55) (tgt := 56) hx hb dX11_count_1 (by rw [c_2]; decide) (by rw [c_2]; decide) (by rw [c_2]; decide) (by decide) ?_
    refine lv_aload_n hx hb dX11_count_56 rfl (lv_at hl 0 rfl) ?_
    refine va_get (D := D) (ci := 11) (v := .ref h_1) (C := RX11) (T := TX11) (N := 15) hx hb hg inX11 hown hK hP 0 rfl rfl 1 (by decide) (hg _ wd_684) (fun _ h9 => h9) rfl dX11_count_57 ?_
    refine va_get (D := D) (ci := 4) (v := .int 0) (C := RX4) (T := TX4) (N := 5) hx hb hg inX4 hown hK hP 2 rfl rfl 4 (by decide) (hg _ wd_180) (fun _ h9 => h9) rfl dX11_count_60 ?_
    exact W.iret (v := 0) hx hb hr (fun t ht hW => ⟨⟨0, (), rfl, (by simp [sp_count, c_1, c_2]), trivial⟩, hS.F ht⟩) hS.2.2 dX11_count_63
  by_cases c_3 : a1 = 2
  · refine lv_tableIn (off := 63) (tgt := 64) hx hb dX11_count_1 (by rw [c_3]; decide) (by rw [c_3]; decide) (by rw [c_3]; decide) (by decide) ?_
    refine lv_aload_n hx hb dX11_count_64 rfl (lv_at hl 0 rfl) ?_
    refine va_get (D := D) (ci := 11) (v := .ref h_3) (C := RX11) (T := TX11) (N := 15) hx hb hg inX11 hown hK hP 0 rfl rfl 3 (by decide) (hg _ wd_686) (fun _ h9 => h9) rfl dX11_count_65 ?_
    refine va_get (D := D) (ci := 5) (v := .int 0) (C := RX5) (T := TX5) (N := 6) hx hb hg inX5 hown hK hP 3 rfl rfl 3 (by decide) (hg _ wd_216) (fun _ h9 => h9) rfl dX11_count_68 ?_
    exact W.iret (v := 0) hx hb hr (fun t ht hW => ⟨⟨0, (), rfl, (by simp [sp_count, c_1, c_2, c_3]), trivial⟩, hS.F ht⟩) hS.2.2 dX11_count_71
  by_cases c_4 : a1 = 3
  · refine lv_tableIn (off := 71) (tgt := 72) hx hb dX11_count_1 (by rw [c_4]; decide) (by rw [c_4]; decide) (by rw [c_4]; decide) (by decide) ?_
    refine lv_aload_n hx hb dX11_count_72 rfl (lv_at hl 0 rfl) ?_
    refine va_get (D := D) (ci := 11) (v := .ref h_3) (C := RX11) (T := TX11) (N := 15) hx hb hg inX11 hown hK hP 0 rfl rfl 3 (by decide) (hg _ wd_686) (fun _ h9 => h9) rfl dX11_count_73 ?_
    refine va_get (D := D) (ci := 5) (v := .int 0) (C := RX5) (T := TX5) (N := 6) hx hb hg inX5 hown hK hP 3 rfl rfl 4 (by decide) (hg _ wd_218) (fun _ h9 => h9) rfl dX11_count_76 ?_
    exact W.iret (v := 0) hx hb hr (fun t ht hW => ⟨⟨0, (), rfl, (by simp [sp_count, c_1, c_2, c_3, c_4]), trivial⟩, hS.F ht⟩) hS.2.2 dX11_count_79
  by_cases c_5 : a1 = 4
  · refine lv_tableIn (off := 79) (tgt := 80) hx hb dX11_count_1 (by rw [c_5]; decide) (by rw [c_5]; decide) (by rw [c_5]; decide) (by decide) ?_
    refine lv_aload_n hx hb dX11_count_80 rfl (lv_at hl 0 rfl) ?_
    refine va_get (D := D) (ci := 11) (v := .ref h_6) (C := RX11) (T := TX11) (N := 15) hx hb hg inX11 hown hK hP 0 rfl rfl 6 (by decide) (hg _ wd_689) (fun _ h9 => h9) rfl dX11_count_81 ?_
    refine va_get (D := D) (ci := 0) (v := .int 0) (C := RX0) (T := TX0) (N := 8) hx hb hg inX0 hown hK hP 4 rfl rfl 6 (by decide) (hg _ wd_340) (fun _ h9 => h9) rfl dX11_count_84 ?_
    exact W.iret (v := 0) hx hb hr (fun t ht hW => ⟨⟨0, (), rfl, (by simp [sp_count, c_1, c_2, c_3, c_4, c_5]), trivial⟩, hS.F ht⟩) hS.2.2 dX11_count_87
  by_cases c_6 : a1 = 5
  · refine lv_tableIn (off := 87) (tgt := 88) hx hb dX11_count_1 (by rw [c_6]; decide) (by rw [c_6]; decide) (by rw [c_6]; decide) (by decide) ?_
    refine lv_aload_n hx hb dX11_count_88 rfl (lv_at hl 0 rfl) ?_
    refine va_get (D := D) (ci := 11) (v := .ref h_6) (C := RX11) (T := TX11) (N := 15) hx hb hg inX11 hown hK hP 0 rfl rfl 6 (by decide) (hg _ wd_689) (fun _ h9 => h9) rfl dX11_count_89 ?_
    refine va_get (D := D) (ci := 0) (v := .int 0) (C := RX0) (T := TX0) (N := 8) hx hb hg inX0 hown hK hP 4 rfl rfl 7 (by decide) (hg _ wd_342) (fun _ h9 => h9) rfl dX11_count_92 ?_
    exact W.iret (v := 0) hx hb hr (fun t ht hW => ⟨⟨0, (), rfl, (by simp [sp_count, c_1, c_2, c_3, c_4, c_5, c_6]), trivial⟩, hS.F ht⟩) hS.2.2 dX11_count_95
  by_cases c_7 : a1 = 6
  · refine lv_tableIn (off := 95) (tgt := 96) hx hb dX11_count_1 (by rw [c_7]; decide) (by rw [c_7]; decide) (by rw [c_7]; decide) (by decide) ?_
    refine lv_aload_n hx hb dX11_count_96 rfl (lv_at hl 0 rfl) ?_
    refine va_get (D := D) (ci := 11) (v := .ref h_12) (C := RX11) (T := TX11) (N := 15) hx hb hg inX11 hown hK hP 0 rfl rfl 12 (by decide) (hg _ wd_695) (fun _ h9 => h9) rfl dX11_count_97 ?_
    refine va_get (D := D) (ci := 9) (v := .int 0) (C := RX9) (T := TX9) (N := 13) hx hb hg inX9 hown hK hP 5 rfl rfl 2 (by decide) (hg _ wd_637) (fun _ h9 => h9) rfl dX11_count_100 ?_
    exact W.iret (v := 0) hx hb hr (fun t ht hW => ⟨⟨0, (), rfl, (by simp [sp_count, c_1, c_2, c_3, c_4, c_5, c_6, c_7]), trivial⟩, hS.F ht⟩) hS.2.2 dX11_count_103
  by_cases c_8 : a1 = 7
  · refine lv_tableIn (off := 103) (tgt := 104) hx hb dX11_count_1 (by rw [c_8]; decide) (by rw [c_8]; decide) (by rw [c_8]; decide) (by decide) ?_
    refine lv_aload_n hx hb dX11_count_104 rfl (lv_at hl 0 rfl) ?_
    refine va_get (D := D) (ci := 11) (v := .ref h_0) (C := RX11) (T := TX11) (N := 15) hx hb hg inX11 hown hK hP 0 rfl rfl 0 (by decide) (hg _ wd_683) (fun _ h9 => h9) rfl dX11_count_105 ?_
    refine va_get (D := D) (ci := 10) (v := .int 0) (C := RX10) (T := TX10) (N := 5) hx hb hg inX10 hown hK hP 6 rfl rfl 1 (by decide) (hg _ wd_144) (fun _ h9 => h9) rfl dX11_count_108 ?_
    exact W.iret (v := 0) hx hb hr (fun t ht hW => ⟨⟨0, (), rfl, (by simp [sp_count, c_1, c_2, c_3, c_4, c_5, c_6, c_7, c_8]), trivial⟩, hS.F ht⟩) hS.2.2 dX11_count_111
  refine lv_tableOut (tgt := 112) hx hb dX11_count_1 (sw_out8 (x := a1) trivial c_1 c_2 c_3 c_4 c_5 c_6 c_7 c_8) (by decide) ?_
  refine lv_iconst (v := (-1)) hx hb dX11_count_112 (by decide) ?_
  exact W.iret (v := (-1)) hx hb hr (fun t ht hW => ⟨⟨(-1), (), rfl, (by simp [sp_count, c_1, c_2, c_3, c_4, c_5, c_6, c_7, c_8]), trivial⟩, hS.F ht⟩) hS.2.2 dX11_count_113
def sp_lacks (a1 : Int32) (a2 : Int32) : Int32 := -1
theorem dX11_lacks_0 : decode cX11_lacks 0 = .ok (.iload_n 1, 1) := by decide +kernel
theorem dX11_lacks_1 : decode cX11_lacks 1 = .ok (.iconst 0, 1) := by decide +kernel
theorem dX11_lacks_2 : decode cX11_lacks 2 = .ok (.aload_n 0, 1) := by decide +kernel
theorem dX11_lacks_3 : decode cX11_lacks 3 = .ok (.getfield 46, 3) := by decide +kernel
theorem dX11_lacks_6 : decode cX11_lacks 6 = .ok (.getfield 311, 3) := by decide +kernel
theorem dX11_lacks_9 : decode cX11_lacks 9 = .ok (.iconst 1, 1) := by decide +kernel
theorem dX11_lacks_10 : decode cX11_lacks 10 = .ok (.isub, 1) := by decide +kernel
theorem dX11_lacks_11 : decode cX11_lacks 11 = .ok (.invokestatic 150, 3) := by decide +kernel
theorem dX11_lacks_14 : decode cX11_lacks 14 = .ok (.ifCond .eq 10, 3) := by decide +kernel
theorem dX11_lacks_24 : decode cX11_lacks 24 = .ok (.iconst (-1), 1) := by decide +kernel
theorem dX11_lacks_25 : decode cX11_lacks 25 = .ok (.ireturn, 1) := by decide +kernel
set_option maxHeartbeats 4000000 in
set_option maxRecDepth 100000 in
theorem c_lacks (l : Launch) (D : va_G) (ct : Nat → ClassId) (h : Nat) (a1 : Int32) (a2 : Int32) (h_0 : Nat) (h_1 : Nat) (h_2 : Nat) (h_3 : Nat) (h_4 : Nat) (h_5 : Nat) (h_6 : Nat) (h_7 : Nat) (h_8 : Nat) (h_9 : Nat) (h_10 : Nat) (h_11 : Nat) (h_12 : Nat) (h_13 : Int32) (h_14 : Int32) (h_6_0 : Nat) (h_6_1 : Nat) (h_6_2 : Nat) (h_6_3 : Nat) (h_6_4 : Nat) (h_6_5 : Nat) (sz : Nat)  : Met l yX11_lacks (wk yX11_lacks cX11_lacks 3 (some .int)) { frames := 1, cells := 0, slots := 0, locals := 22 } (va_Pc [.ref h, .int a1, .int a2] (Wd D [(h, .inr (11, [.ref h_0, .ref h_1, .ref h_2, .ref h_3, .ref h_4, .ref h_5, .ref h_6, .ref h_7, .ref h_8, .ref h_9, .ref h_10, .ref h_11, .ref h_12, .int h_13, .int h_14])), (h_6, .inr (0, [.ref h_6_0, .ref h_6_1, .ref h_6_2, .ref h_6_3, .ref h_6_4, .ref h_6_5, .int 0, .int 0]))] ct sz)) (va_Qi (fun (r : Int32) (u : Unit) => r = sp_lacks a1 a2) (fun _ _ => True) (va_A [(h, .inr (11, [.ref h_0, .ref h_1, .ref h_2, .ref h_3, .ref h_4, .ref h_5, .ref h_6, .ref h_7, .ref h_8, .ref h_9, .ref h_10, .ref h_11, .ref h_12, .int h_13, .int h_14])), (h_6, .inr (0, [.ref h_6_0, .ref h_6_1, .ref h_6_2, .ref h_6_3, .ref h_6_4, .ref h_6_5, .int 0, .int 0]))] sz)) 0 0 (va_A [(h, .inr (11, [.ref h_0, .ref h_1, .ref h_2, .ref h_3, .ref h_4, .ref h_5, .ref h_6, .ref h_7, .ref h_8, .ref h_9, .ref h_10, .ref h_11, .ref h_12, .int h_13, .int h_14])), (h_6, .inr (0, [.ref h_6_0, .ref h_6_1, .ref h_6_2, .ref h_6_3, .ref h_6_4, .ref h_6_5, .int 0, .int 0]))] sz) := by
  refine Met.ofW (cc := cX11_lacks) (maxL := 3) (ret := (some .int)) (by decide) rfl ?_
  intro p e s m args below meth c s₁ B hml hv
  obtain ⟨rfl, hsz, hP, hKK, hD0⟩ := hv
  have hK := hKK.1
  have hx := B.exec
  have hb := B.bytes
  have hr := B.returns
  have hg : ∀ w ∈ gl, w.before _ s = true := fun w h => atoms_spec (ws := wk yX11_lacks cX11_lacks 3 (some .int)) B.pre w (List.mem_cons_of_mem _ h)
  have hown : s.vm.findClass RX11 = some m.cls := findClass_of_methodNamed B.named
  have hlocks := B.notSynchronized
  subst hsz
  have hD := hD0.self (sz := s.heap.size)
  generalize hAe : va_A [(h, .inr (11, [.ref h_0, .ref h_1, .ref h_2, .ref h_3, .ref h_4, .ref h_5, .ref h_6, .ref h_7, .ref h_8, .ref h_9, .ref h_10, .ref h_11, .ref h_12, .int h_13, .int h_14])), (h_6, .inr (0, [.ref h_6_0, .ref h_6_1, .ref h_6_2, .ref h_6_3, .ref h_6_4, .ref h_6_5, .int 0, .int 0]))] s.heap.size = A at hD ⊢
  have hA : ∀ q : Nat, s.heap.size ≤ q → A q := fun q h => by rw [← hAe]; exact Or.inr h
  have hS : va_S A s.heap s.heap [] := va_S.rf
  have hl := lv_entry ([.ref h, .int a1, .int a2]) (n := 3) (Nat.le_of_ble_eq_true rfl)
  rw [lg_entry_eq]
  generalize (lg_sl ([.ref h, .int a1, .int a2]) ++ List.replicate (3 - (lg_sl ([.ref h, .int a1, .int a2])).length) Slot.unset).toArray = ls at hl ⊢
  have hl : lv_has ls 3 [(0, .ref h), (1, .int a1), (2, .int a2)] := hl
  refine lv_iload_n hx hb dX11_lacks_0 rfl (lv_at hl 1 rfl) ?_
  refine lv_iconst (v := 0) hx hb dX11_lacks_1 (by decide) ?_
  refine lv_aload_n hx hb dX11_lacks_2 rfl (lv_at hl 0 rfl) ?_
  refine va_get (D := D) (ci := 11) (v := .ref h_6) (C := RX11) (T := TX11) (N := 15) hx hb hg inX11 hown hK hP 0 rfl rfl 6 (by decide) (hg _ wd_689) (fun _ h9 => h9) rfl dX11_lacks_3 ?_
  refine va_get (D := D) (ci := 0) (v := .int 0) (C := RX0) (T := TX0) (N := 8) hx hb hg inX0 hown hK hP 1 rfl rfl 6 (by decide) (hg _ wd_340) (fun _ h9 => h9) rfl dX11_lacks_6 ?_
  refine lv_iconst (v := 1) hx hb dX11_lacks_9 (by decide) ?_
  refine lv_isub hx hb dX11_lacks_10 ?_
  rw [show ((0 - 1 : Int32) = (-1)) by decide]
  have hPc := hP.sub (ws' := []) [] rfl
  refine z_calli (va_runS (As := [.int a1, .int 0, .int (-1)]) (rest := []) ⟨hx, hb, hml, hown, hg⟩ (c_within l D ct a1 0 (-1) ) (va_cwS 3 hg (gd_S wd_959 wd_917 wd_107 wd_918) rfl rfl rfl (by decide +kernel) ⟨Nat.le_of_ble_eq_true rfl, Nat.le_of_ble_eq_true rfl⟩) (Wr_S hPc hKK) rfl rfl hl.1 rfl (lv_room (Nat.le_of_ble_eq_true rfl)) dX11_lacks_11 ⟨Nat.le_of_ble_eq_true rfl, Nat.le_of_ble_eq_true rfl⟩) (fun r_1 hw_1 => ?_)
  subst hw_1
  rw [bw_em]
  refine lv_if_eq (tgt := 24) hx hb dX11_lacks_14 (by decide) (fun _ => ?_) (fun h => absurd (by decide) h)
  refine lv_iconst (v := (-1)) hx hb dX11_lacks_24 (by decide) ?_
  exact W.iret (v := (-1)) hx hb hr (fun t ht hW => ⟨⟨(-1), (), rfl, (by simp [sp_lacks]), trivial⟩, hS.F ht⟩) hS.2.2 dX11_lacks_25
def sp_caseOf (a1 : Int32) (a2 : Int32) (a3 : Int32) : Int32 := -1
theorem dX11_caseOf_0 : decode cX11_caseOf 0 = .ok (.iload_n 1, 1) := by decide +kernel
theorem dX11_caseOf_1 : decode cX11_caseOf 1 = .ok (.iconst 0, 1) := by decide +kernel
theorem dX11_caseOf_2 : decode cX11_caseOf 2 = .ok (.aload_n 0, 1) := by decide +kernel
theorem dX11_caseOf_3 : decode cX11_caseOf 3 = .ok (.getfield 96, 3) := by decide +kernel
theorem dX11_caseOf_6 : decode cX11_caseOf 6 = .ok (.getfield 408, 3) := by decide +kernel
theorem dX11_caseOf_9 : decode cX11_caseOf 9 = .ok (.iconst 1, 1) := by decide +kernel
theorem dX11_caseOf_10 : decode cX11_caseOf 10 = .ok (.isub, 1) := by decide +kernel
theorem dX11_caseOf_11 : decode cX11_caseOf 11 = .ok (.invokestatic 150, 3) := by decide +kernel
theorem dX11_caseOf_14 : decode cX11_caseOf 14 = .ok (.ifCond .eq 17, 3) := by decide +kernel
theorem dX11_caseOf_31 : decode cX11_caseOf 31 = .ok (.iconst (-1), 1) := by decide +kernel
theorem dX11_caseOf_32 : decode cX11_caseOf 32 = .ok (.ireturn, 1) := by decide +kernel
set_option maxHeartbeats 4000000 in
set_option maxRecDepth 100000 in
theorem c_caseOf (l : Launch) (D : va_G) (ct : Nat → ClassId) (h : Nat) (a1 : Int32) (a2 : Int32) (a3 : Int32) (h_0 : Nat) (h_1 : Nat) (h_2 : Nat) (h_3 : Nat) (h_4 : Nat) (h_5 : Nat) (h_6 : Nat) (h_7 : Nat) (h_8 : Nat) (h_9 : Nat) (h_10 : Nat) (h_11 : Nat) (h_12 : Nat) (h_13 : Int32) (h_14 : Int32) (h_12_0 : Nat) (h_12_1 : Nat) (h_12_3 : Nat) (h_12_4 : Nat) (h_12_5 : Int32) (h_12_6 : Int32) (h_12_7 : Nat) (h_12_9 : Int32) (h_12_11 : Nat) (h_12_12 : Nat) (sz : Nat)  : Met l yX11_caseOf (wk yX11_caseOf cX11_caseOf 4 (some .int)) { frames := 1, cells := 0, slots := 0, locals := 22 } (va_Pc [.ref h, .int a1, .int a2, .int a3] (Wd D [(h, .inr (11, [.ref h_0, .ref h_1, .ref h_2, .ref h_3, .ref h_4, .ref h_5, .ref h_6, .ref h_7, .ref h_8, .ref h_9, .ref h_10, .ref h_11, .ref h_12, .int h_13, .int h_14])), (h_12, .inr (9, [.ref h_12_0, .ref h_12_1, .int 0, .ref h_12_3, .ref h_12_4, .int h_12_5, .int h_12_6, .ref h_12_7, .int 0, .int h_12_9, .int (-1), .ref h_12_11, .ref h_12_12]))] ct sz)) (va_Qi (fun (r : Int32) (u : Unit) => r = sp_caseOf a1 a2 a3) (fun _ _ => True) (va_A [(h, .inr (11, [.ref h_0, .ref h_1, .ref h_2, .ref h_3, .ref h_4, .ref h_5, .ref h_6, .ref h_7, .ref h_8, .ref h_9, .ref h_10, .ref h_11, .ref h_12, .int h_13, .int h_14])), (h_12, .inr (9, [.ref h_12_0, .ref h_12_1, .int 0, .ref h_12_3, .ref h_12_4, .int h_12_5, .int h_12_6, .ref h_12_7, .int 0, .int h_12_9, .int (-1), .ref h_12_11, .ref h_12_12]))] sz)) 0 0 (va_A [(h, .inr (11, [.ref h_0, .ref h_1, .ref h_2, .ref h_3, .ref h_4, .ref h_5, .ref h_6, .ref h_7, .ref h_8, .ref h_9, .ref h_10, .ref h_11, .ref h_12, .int h_13, .int h_14])), (h_12, .inr (9, [.ref h_12_0, .ref h_12_1, .int 0, .ref h_12_3, .ref h_12_4, .int h_12_5, .int h_12_6, .ref h_12_7, .int 0, .int h_12_9, .int (-1), .ref h_12_11, .ref h_12_12]))] sz) := by
  refine Met.ofW (cc := cX11_caseOf) (maxL := 4) (ret := (some .int)) (by decide) rfl ?_
  intro p e s m args below meth c s₁ B hml hv
  obtain ⟨rfl, hsz, hP, hKK, hD0⟩ := hv
  have hK := hKK.1
  have hx := B.exec
  have hb := B.bytes
  have hr := B.returns
  have hg : ∀ w ∈ gl, w.before _ s = true := fun w h => atoms_spec (ws := wk yX11_caseOf cX11_caseOf 4 (some .int)) B.pre w (List.mem_cons_of_mem _ h)
  have hown : s.vm.findClass RX11 = some m.cls := findClass_of_methodNamed B.named
  have hlocks := B.notSynchronized
  subst hsz
  have hD := hD0.self (sz := s.heap.size)
  generalize hAe : va_A [(h, .inr (11, [.ref h_0, .ref h_1, .ref h_2, .ref h_3, .ref h_4, .ref h_5, .ref h_6, .ref h_7, .ref h_8, .ref h_9, .ref h_10, .ref h_11, .ref h_12, .int h_13, .int h_14])), (h_12, .inr (9, [.ref h_12_0, .ref h_12_1, .int 0, .ref h_12_3, .ref h_12_4, .int h_12_5, .int h_12_6, .ref h_12_7, .int 0, .int h_12_9, .int (-1), .ref h_12_11, .ref h_12_12]))] s.heap.size = A at hD ⊢
  have hA : ∀ q : Nat, s.heap.size ≤ q → A q := fun q h => by rw [← hAe]; exact Or.inr h
  have hS : va_S A s.heap s.heap [] := va_S.rf
  have hl := lv_entry ([.ref h, .int a1, .int a2, .int a3]) (n := 4) (Nat.le_of_ble_eq_true rfl)
  rw [lg_entry_eq]
  generalize (lg_sl ([.ref h, .int a1, .int a2, .int a3]) ++ List.replicate (4 - (lg_sl ([.ref h, .int a1, .int a2, .int a3])).length) Slot.unset).toArray = ls at hl ⊢
  have hl : lv_has ls 4 [(0, .ref h), (1, .int a1), (2, .int a2), (3, .int a3)] := hl
  refine lv_iload_n hx hb dX11_caseOf_0 rfl (lv_at hl 1 rfl) ?_
  refine lv_iconst (v := 0) hx hb dX11_caseOf_1 (by decide) ?_
  refine lv_aload_n hx hb dX11_caseOf_2 rfl (lv_at hl 0 rfl) ?_
  refine va_get (D := D) (ci := 11) (v := .ref h_12) (C := RX11) (T := TX11) (N := 15) hx hb hg inX11 hown hK hP 0 rfl rfl 12 (by decide) (hg _ wd_695) (fun _ h9 => h9) rfl dX11_caseOf_3 ?_
  refine va_get (D := D) (ci := 9) (v := .int 0) (C := RX9) (T := TX9) (N := 13) hx hb hg inX9 hown hK hP 1 rfl rfl 2 (by decide) (hg _ wd_637) (fun _ h9 => h9) rfl dX11_caseOf_6 ?_
  refine lv_iconst (v := 1) hx hb dX11_caseOf_9 (by decide) ?_
  refine lv_isub hx hb dX11_caseOf_10 ?_
  rw [show ((0 - 1 : Int32) = (-1)) by decide]
  have hPc := hP.sub (ws' := []) [] rfl
  refine z_calli (va_runS (As := [.int a1, .int 0, .int (-1)]) (rest := []) ⟨hx, hb, hml, hown, hg⟩ (c_within l D ct a1 0 (-1) ) (va_cwS 3 hg (gd_S wd_959 wd_917 wd_107 wd_918) rfl rfl rfl (by decide +kernel) ⟨Nat.le_of_ble_eq_true rfl, Nat.le_of_ble_eq_true rfl⟩) (Wr_S hPc hKK) rfl rfl hl.1 rfl (lv_room (Nat.le_of_ble_eq_true rfl)) dX11_caseOf_11 ⟨Nat.le_of_ble_eq_true rfl, Nat.le_of_ble_eq_true rfl⟩) (fun r_1 hw_1 => ?_)
  subst hw_1
  rw [bw_em]
  refine lv_if_eq (tgt := 31) hx hb dX11_caseOf_14 (by decide) (fun _ => ?_) (fun h => absurd (by decide) h)
  refine lv_iconst (v := (-1)) hx hb dX11_caseOf_31 (by decide) ?_
  exact W.iret (v := (-1)) hx hb hr (fun t ht hW => ⟨⟨(-1), (), rfl, (by simp [sp_caseOf]), trivial⟩, hS.F ht⟩) hS.2.2 dX11_caseOf_32
theorem dX0_hasVoteWithin_0 : decode cX0_hasVoteWithin 0 = .ok (.iconst 0, 1) := by decide +kernel
theorem dX0_hasVoteWithin_1 : decode cX0_hasVoteWithin 1 = .ok (.istore_n 3, 1) := by decide +kernel
theorem dX0_hasVoteWithin_2 : decode cX0_hasVoteWithin 2 = .ok (.iload_n 3, 1) := by decide +kernel
theorem dX0_hasVoteWithin_3 : decode cX0_hasVoteWithin 3 = .ok (.aload_n 0, 1) := by decide +kernel
theorem dX0_hasVoteWithin_4 : decode cX0_hasVoteWithin 4 = .ok (.getfield 32, 3) := by decide +kernel
theorem wd_341 : (Cond.fieldLink "VoteRoll$Acts" 32 "VoteRoll$Acts" "voteCount" "I") ∈ gl := gl_at 341 (by decide +kernel) (by decide +kernel)
theorem dX0_hasVoteWithin_7 : decode cX0_hasVoteWithin 7 = .ok (.if_icmp .ge 31, 3) := by decide +kernel
theorem dX0_hasVoteWithin_38 : decode cX0_hasVoteWithin 38 = .ok (.iconst 0, 1) := by decide +kernel
theorem dX0_hasVoteWithin_39 : decode cX0_hasVoteWithin 39 = .ok (.ireturn, 1) := by decide +kernel
set_option maxHeartbeats 4000000 in
set_option maxRecDepth 100000 in
theorem c_hasVote0 (l : Launch) (D : va_G) (ct : Nat → ClassId) (q : Nat) (a1 : Int32) (a2 : Int32) (q_0 : Nat) (q_1 : Nat) (q_2 : Nat) (q_3 : Nat) (q_4 : Nat) (q_5 : Nat)  : Met l yX0_hasVoteWithin (wk yX0_hasVoteWithin cX0_hasVoteWithin 4 (some .boolean)) { frames := 0, cells := 0, slots := 0, locals := 0 } (va_Pc [.ref q, .int a1, .int a2] (Wr D [(q, .inr (0, [.ref q_0, .ref q_1, .ref q_2, .ref q_3, .ref q_4, .ref q_5, .int 0, .int 0]))] ct)) (zI (fun r : Int32 => r = 0)) 0 0 (fun _ => False) := by
  refine Met.ofW (cc := cX0_hasVoteWithin) (maxL := 4) (ret := (some .boolean)) (by decide) rfl ?_
  intro p e s m args below meth c s₁ B hml hv
  obtain ⟨rfl, hP, hKK⟩ := hv
  have hK := hKK.1
  have hx := B.exec
  have hb := B.bytes
  have hr := B.returns
  have hg : ∀ w ∈ gl, w.before _ s = true := fun w h => atoms_spec (ws := wk yX0_hasVoteWithin cX0_hasVoteWithin 4 (some .boolean)) B.pre w (List.mem_cons_of_mem _ h)
  have hown : s.vm.findClass RX0 = some m.cls := findClass_of_methodNamed B.named
  have hlocks := B.notSynchronized
  have hl := lv_entry ([.ref q, .int a1, .int a2]) (n := 4) (Nat.le_of_ble_eq_true rfl)
  rw [lg_entry_eq]
  generalize (lg_sl ([.ref q, .int a1, .int a2]) ++ List.replicate (4 - (lg_sl ([.ref q, .int a1, .int a2])).length) Slot.unset).toArray = ls at hl ⊢
  have hl : lv_has ls 4 [(0, .ref q), (1, .int a1), (2, .int a2)] := hl
  refine lv_iconst (v := 0) hx hb dX0_hasVoteWithin_0 (by decide) ?_
  refine lv_istore_n (lv' := [(3, .int 0), (0, .ref q), (1, .int a1), (2, .int a2)]) hx hb dX0_hasVoteWithin_1 rfl hl (by decide) rfl (fun ls hl => ?_)
  refine lv_iload_n hx hb dX0_hasVoteWithin_2 rfl (lv_at hl 0 rfl) ?_
  refine lv_aload_n hx hb dX0_hasVoteWithin_3 rfl (lv_at hl 1 rfl) ?_
  refine va_get (D := D) (ci := 0) (v := .int 0) (C := RX0) (T := TX0) (N := 8) hx hb hg inX0 hown hK hP 0 rfl rfl 7 (by decide) (hg _ wd_341) (fun _ h9 => h9) rfl dX0_hasVoteWithin_4 ?_
  refine lv_icmp_ge (tgt := 38) hx hb dX0_hasVoteWithin_7 (by decide) (fun _ => ?_) (fun h => absurd (by decide) h)
  refine lv_iconst (v := 0) hx hb dX0_hasVoteWithin_38 (by decide) ?_
  exact W.zret (v := 0) hx hb hr rfl (fun t ht hW => ⟨0, rfl, rfl, ht⟩) (fun q h => by cases h) dX0_hasVoteWithin_39
def sp_vote (a1 : Int32) : Int32 := if bw a1 0 40000 = 0 then (-1) else 1
theorem dX11_vote_0 : decode cX11_vote 0 = .ok (.iload_n 1, 1) := by decide +kernel
theorem dX11_vote_1 : decode cX11_vote 1 = .ok (.invokestatic 159, 3) := by decide +kernel
theorem dX11_vote_4 : decode cX11_vote 4 = .ok (.ifCond .ne 9, 3) := by decide +kernel
theorem dX11_vote_13 : decode cX11_vote 13 = .ok (.aload_n 0, 1) := by decide +kernel
theorem dX11_vote_14 : decode cX11_vote 14 = .ok (.getfield 46, 3) := by decide +kernel
theorem dX11_vote_17 : decode cX11_vote 17 = .ok (.iload_n 1, 1) := by decide +kernel
theorem dX11_vote_18 : decode cX11_vote 18 = .ok (.iload_n 1, 1) := by decide +kernel
theorem dX11_vote_19 : decode cX11_vote 19 = .ok (.invokevirtual 316, 3) := by decide +kernel
theorem wd_1174 : (Cond.code yX0_hasVoteWithin cX0_hasVoteWithin 4 (some .boolean)) ∈ gl := gl_at 1174 (by decide +kernel) (by decide +kernel)
theorem wd_1171 : (Cond.methodLink "VoteRoll" 316 yX0_hasVoteWithin) ∈ gl := gl_at 1171 (by decide +kernel) (by decide +kernel)
theorem wd_112 : (Cond.initialized "VoteRoll$Acts") ∈ gl := gl_at 112 (by decide +kernel) (by decide +kernel)
theorem wd_1172 : (Cond.instanceMethod yX0_hasVoteWithin) ∈ gl := gl_at 1172 (by decide +kernel) (by decide +kernel)
theorem wd_1173 : (Cond.selects "VoteRoll$Acts" yX0_hasVoteWithin yX0_hasVoteWithin) ∈ gl := gl_at 1173 (by decide +kernel) (by decide +kernel)
theorem dX11_vote_22 : decode cX11_vote 22 = .ok (.ifCond .eq 10, 3) := by decide +kernel
theorem dX11_vote_32 : decode cX11_vote 32 = .ok (.aload_n 0, 1) := by decide +kernel
theorem dX11_vote_33 : decode cX11_vote 33 = .ok (.getfield 46, 3) := by decide +kernel
theorem dX11_vote_36 : decode cX11_vote 36 = .ok (.getfield 320, 3) := by decide +kernel
theorem dX11_vote_39 : decode cX11_vote 39 = .ok (.bipush 12, 2) := by decide +kernel
theorem dX11_vote_41 : decode cX11_vote 41 = .ok (.if_icmp .lt 10, 3) := by decide +kernel
theorem dX11_vote_51 : decode cX11_vote 51 = .ok (.aload_n 0, 1) := by decide +kernel
theorem dX11_vote_52 : decode cX11_vote 52 = .ok (.getfield 46, 3) := by decide +kernel
theorem dX11_vote_55 : decode cX11_vote 55 = .ok (.getfield 323, 3) := by decide +kernel
theorem wd_337 : (Cond.fieldLink "VoteRoll" 323 "VoteRoll$Acts" "votes" "[I") ∈ gl := gl_at 337 (by decide +kernel) (by decide +kernel)
theorem dX11_vote_58 : decode cX11_vote 58 = .ok (.aload_n 0, 1) := by decide +kernel
theorem dX11_vote_59 : decode cX11_vote 59 = .ok (.getfield 46, 3) := by decide +kernel
theorem dX11_vote_62 : decode cX11_vote 62 = .ok (.getfield 320, 3) := by decide +kernel
theorem dX11_vote_65 : decode cX11_vote 65 = .ok (.iload_n 1, 1) := by decide +kernel
theorem dX11_vote_66 : decode cX11_vote 66 = .ok (.iastore, 1) := by decide +kernel
theorem dX11_vote_67 : decode cX11_vote 67 = .ok (.aload_n 0, 1) := by decide +kernel
theorem dX11_vote_68 : decode cX11_vote 68 = .ok (.getfield 46, 3) := by decide +kernel
theorem dX11_vote_71 : decode cX11_vote 71 = .ok (.dup, 1) := by decide +kernel
theorem dX11_vote_72 : decode cX11_vote 72 = .ok (.getfield 320, 3) := by decide +kernel
theorem dX11_vote_75 : decode cX11_vote 75 = .ok (.iconst 1, 1) := by decide +kernel
theorem dX11_vote_76 : decode cX11_vote 76 = .ok (.iadd, 1) := by decide +kernel
theorem dX11_vote_77 : decode cX11_vote 77 = .ok (.putfield 320, 3) := by decide +kernel
theorem dX11_vote_80 : decode cX11_vote 80 = .ok (.aload_n 0, 1) := by decide +kernel
theorem dX11_vote_81 : decode cX11_vote 81 = .ok (.aload_n 0, 1) := by decide +kernel
theorem dX11_vote_82 : decode cX11_vote 82 = .ok (.getfield 46, 3) := by decide +kernel
theorem dX11_vote_85 : decode cX11_vote 85 = .ok (.getfield 320, 3) := by decide +kernel
theorem dX11_vote_88 : decode cX11_vote 88 = .ok (.invokevirtual 140, 3) := by decide +kernel
theorem dX11_vote_91 : decode cX11_vote 91 = .ok (.ireturn, 1) := by decide +kernel
theorem dX11_vote_7 : decode cX11_vote 7 = .ok (.aload_n 0, 1) := by decide +kernel
theorem dX11_vote_8 : decode cX11_vote 8 = .ok (.iconst (-1), 1) := by decide +kernel
theorem dX11_vote_9 : decode cX11_vote 9 = .ok (.invokevirtual 118, 3) := by decide +kernel
theorem dX11_vote_12 : decode cX11_vote 12 = .ok (.ireturn, 1) := by decide +kernel
set_option maxHeartbeats 4000000 in
set_option maxRecDepth 100000 in
theorem c_vote (l : Launch) (D : va_G) (ct : Nat → ClassId) (h : Nat) (a1 : Int32) (h_0 : Nat) (h_1 : Nat) (h_2 : Nat) (h_3 : Nat) (h_4 : Nat) (h_5 : Nat) (h_6 : Nat) (h_7 : Nat) (h_8 : Nat) (h_9 : Nat) (h_10 : Nat) (h_11 : Nat) (h_12 : Nat) (h_13 : Int32) (h_14 : Int32) (h_6_0 : Nat) (h_6_1 : Nat) (h_6_2 : Nat) (h_6_3 : Nat) (h_6_4 : Nat) (h_6_5 : Nat) (f : Nat → Int32) (sz : Nat)  : Met l yX11_vote (wk yX11_vote cX11_vote 2 (some .int)) { frames := 2, cells := 0, slots := 0, locals := 42 } (va_Pc [.ref h, .int a1] (Wd D [(h, .inr (11, [.ref h_0, .ref h_1, .ref h_2, .ref h_3, .ref h_4, .ref h_5, .ref h_6, .ref h_7, .ref h_8, .ref h_9, .ref h_10, .ref h_11, .ref h_12, .int h_13, .int h_14])), (h_6, .inr (0, [.ref h_6_0, .ref h_6_1, .ref h_6_2, .ref h_6_3, .ref h_6_4, .ref h_6_5, .int 0, .int 0])), (h_6_5, .inl (ct 1, 12, .inl f))] ct sz)) (va_Qi (fun (r : Int32) (u : Unit) => r = sp_vote a1) (fun _ _ => True) (va_A [(h, .inr (11, [.ref h_0, .ref h_1, .ref h_2, .ref h_3, .ref h_4, .ref h_5, .ref h_6, .ref h_7, .ref h_8, .ref h_9, .ref h_10, .ref h_11, .ref h_12, .int h_13, .int h_14])), (h_6, .inr (0, [.ref h_6_0, .ref h_6_1, .ref h_6_2, .ref h_6_3, .ref h_6_4, .ref h_6_5, .int 0, .int 0])), (h_6_5, .inl (ct 1, 12, .inl f))] sz)) 0 0 (va_A [(h, .inr (11, [.ref h_0, .ref h_1, .ref h_2, .ref h_3, .ref h_4, .ref h_5, .ref h_6, .ref h_7, .ref h_8, .ref h_9, .ref h_10, .ref h_11, .ref h_12, .int h_13, .int h_14])), (h_6, .inr (0, [.ref h_6_0, .ref h_6_1, .ref h_6_2, .ref h_6_3, .ref h_6_4, .ref h_6_5, .int 0, .int 0])), (h_6_5, .inl (ct 1, 12, .inl f))] sz) := by
  refine Met.ofW (cc := cX11_vote) (maxL := 2) (ret := (some .int)) (by decide) rfl ?_
  intro p e s m args below meth c s₁ B hml hv
  obtain ⟨rfl, hsz, hP, hKK, hD0⟩ := hv
  have hK := hKK.1
  have hx := B.exec
  have hb := B.bytes
  have hr := B.returns
  have hg : ∀ w ∈ gl, w.before _ s = true := fun w h => atoms_spec (ws := wk yX11_vote cX11_vote 2 (some .int)) B.pre w (List.mem_cons_of_mem _ h)
  have hown : s.vm.findClass RX11 = some m.cls := findClass_of_methodNamed B.named
  have hlocks := B.notSynchronized
  subst hsz
  have hD := hD0.self (sz := s.heap.size)
  generalize hAe : va_A [(h, .inr (11, [.ref h_0, .ref h_1, .ref h_2, .ref h_3, .ref h_4, .ref h_5, .ref h_6, .ref h_7, .ref h_8, .ref h_9, .ref h_10, .ref h_11, .ref h_12, .int h_13, .int h_14])), (h_6, .inr (0, [.ref h_6_0, .ref h_6_1, .ref h_6_2, .ref h_6_3, .ref h_6_4, .ref h_6_5, .int 0, .int 0])), (h_6_5, .inl (ct 1, 12, .inl f))] s.heap.size = A at hD ⊢
  have hA : ∀ q : Nat, s.heap.size ≤ q → A q := fun q h => by rw [← hAe]; exact Or.inr h
  have hS : va_S A s.heap s.heap [] := va_S.rf
  have hl := lv_entry ([.ref h, .int a1]) (n := 2) (Nat.le_of_ble_eq_true rfl)
  rw [lg_entry_eq]
  generalize (lg_sl ([.ref h, .int a1]) ++ List.replicate (2 - (lg_sl ([.ref h, .int a1])).length) Slot.unset).toArray = ls at hl ⊢
  have hl : lv_has ls 2 [(0, .ref h), (1, .int a1)] := hl
  refine lv_iload_n hx hb dX11_vote_0 rfl (lv_at hl 1 rfl) ?_
  have hPc := hP.sub (ws' := []) [] rfl
  refine z_calli (va_runS (As := [.int a1]) (rest := []) ⟨hx, hb, hml, hown, hg⟩ (c_isDay l D ct a1 ) (va_cwS 1 hg (gd_S wd_964 wd_965 wd_107 wd_966) rfl rfl rfl (by decide +kernel) ⟨Nat.le_of_ble_eq_true rfl, Nat.le_of_ble_eq_true rfl⟩) (Wr_S hPc hKK) rfl rfl hl.1 rfl (lv_room (Nat.le_of_ble_eq_true rfl)) dX11_vote_1 ⟨Nat.le_of_ble_eq_true rfl, Nat.le_of_ble_eq_true rfl⟩) (fun r_1 hw_1 => ?_)
  subst hw_1
  refine lv_if_ne (tgt := 13) hx hb dX11_vote_4 (by decide) (fun c_2 => ?_) (fun c_2 => ?_)
  · refine lv_aload_n hx hb dX11_vote_13 rfl (lv_at hl 0 rfl) ?_
    refine va_get (D := D) (ci := 11) (v := .ref h_6) (C := RX11) (T := TX11) (N := 15) hx hb hg inX11 hown hK hP 0 rfl rfl 6 (by decide) (hg _ wd_689) (fun _ h9 => h9) rfl dX11_vote_14 ?_
    refine lv_iload_n hx hb dX11_vote_17 rfl (lv_at hl 1 rfl) ?_
    refine lv_iload_n hx hb dX11_vote_18 rfl (lv_at hl 1 rfl) ?_
    have hPc := hP.sub (ws' := [(h_6, .inr (0, [.ref h_6_0, .ref h_6_1, .ref h_6_2, .ref h_6_3, .ref h_6_4, .ref h_6_5, .int 0, .int 0]))]) [1] rfl
    refine z_calli (va_runV (As := [.int a1, .int a1]) (rest := []) ⟨hx, hb, hml, hown, hg⟩ (c_hasVote0 l D ct h_6 a1 a1 h_6_0 h_6_1 h_6_2 h_6_3 h_6_4 h_6_5 ) (cwV 2 hg (gd_V wd_1171 wd_1172 wd_1173 wd_112 wd_1174) rfl rfl rfl (by decide +kernel) ⟨Nat.le_of_ble_eq_true rfl, Nat.le_of_ble_eq_true rfl⟩) (Wr_V hPc hKK (va_recv hK hPc (ci := 0) (q0 := 0) rfl rfl)) rfl rfl hl.1 rfl (lv_room (Nat.le_of_ble_eq_true rfl)) dX11_vote_19 ⟨Nat.le_of_ble_eq_true rfl, Nat.le_of_ble_eq_true rfl⟩) (fun r_3 hw_3 => ?_)
    subst hw_3
    refine lv_if_eq (tgt := 32) hx hb dX11_vote_22 (by decide) (fun _ => ?_) (fun h => absurd (by decide) h)
    refine lv_aload_n hx hb dX11_vote_32 rfl (lv_at hl 0 rfl) ?_
    refine va_get (D := D) (ci := 11) (v := .ref h_6) (C := RX11) (T := TX11) (N := 15) hx hb hg inX11 hown hK hP 0 rfl rfl 6 (by decide) (hg _ wd_689) (fun _ h9 => h9) rfl dX11_vote_33 ?_
    refine va_get (D := D) (ci := 0) (v := .int 0) (C := RX0) (T := TX0) (N := 8) hx hb hg inX0 hown hK hP 1 rfl rfl 7 (by decide) (hg _ wd_342) (fun _ h9 => h9) rfl dX11_vote_36 ?_
    refine lv_bipush (v := 12) hx hb dX11_vote_39 (by decide) ?_
    refine lv_icmp_lt (tgt := 51) hx hb dX11_vote_41 (by decide) (fun _ => ?_) (fun h => absurd (by decide) h)
    refine lv_aload_n hx hb dX11_vote_51 rfl (lv_at hl 0 rfl) ?_
    refine va_get (D := D) (ci := 11) (v := .ref h_6) (C := RX11) (T := TX11) (N := 15) hx hb hg inX11 hown hK hP 0 rfl rfl 6 (by decide) (hg _ wd_689) (fun _ h9 => h9) rfl dX11_vote_52 ?_
    refine va_get (D := D) (ci := 0) (v := .ref h_6_5) (C := RX0) (T := TX0) (N := 8) hx hb hg inX0 hown hK hP 1 rfl rfl 5 (by decide) (hg _ wd_337) (fun _ h9 => h9) rfl dX11_vote_55 ?_
    refine lv_aload_n hx hb dX11_vote_58 rfl (lv_at hl 0 rfl) ?_
    refine va_get (D := D) (ci := 11) (v := .ref h_6) (C := RX11) (T := TX11) (N := 15) hx hb hg inX11 hown hK hP 0 rfl rfl 6 (by decide) (hg _ wd_689) (fun _ h9 => h9) rfl dX11_vote_59 ?_
    refine va_get (D := D) (ci := 0) (v := .int 0) (C := RX0) (T := TX0) (N := 8) hx hb hg inX0 hown hK hP 1 rfl rfl 7 (by decide) (hg _ wd_342) (fun _ h9 => h9) rfl dX11_vote_62 ?_
    refine lv_iload_n hx hb dX11_vote_65 rfl (lv_at hl 1 rfl) ?_
    refine va_iast hx hb hK hP hD hS 2 1 rfl rfl (by unfold vp_in; decide) dX11_vote_66 (fun H locs hP hD hS => ?_)
    obtain ⟨f_6, ef_6⟩ : ∃ z : Nat → Int32, z = upd f 0.toNatClampNeg a1 := ⟨_, rfl⟩
    have hP : va_P D vwCl [(h, .inr (11, [.ref h_0, .ref h_1, .ref h_2, .ref h_3, .ref h_4, .ref h_5, .ref h_6, .ref h_7, .ref h_8, .ref h_9, .ref h_10, .ref h_11, .ref h_12, .int h_13, .int h_14])), (h_6, .inr (0, [.ref h_6_0, .ref h_6_1, .ref h_6_2, .ref h_6_3, .ref h_6_4, .ref h_6_5, .int 0, .int 0])), (h_6_5, .inl (ct 1, 12, .inl f_6))] H := by rw [ef_6]; exact hP
    have hD : va_D A [(h, .inr (11, [.ref h_0, .ref h_1, .ref h_2, .ref h_3, .ref h_4, .ref h_5, .ref h_6, .ref h_7, .ref h_8, .ref h_9, .ref h_10, .ref h_11, .ref h_12, .int h_13, .int h_14])), (h_6, .inr (0, [.ref h_6_0, .ref h_6_1, .ref h_6_2, .ref h_6_3, .ref h_6_4, .ref h_6_5, .int 0, .int 0])), (h_6_5, .inl (ct 1, 12, .inl f_6))] := by rw [ef_6]; exact hD
    refine lv_aload_n hx hb dX11_vote_67 rfl (lv_at hl 0 rfl) ?_
    refine va_get (D := D) (ci := 11) (v := .ref h_6) (C := RX11) (T := TX11) (N := 15) hx hb hg inX11 hown hK hP 0 rfl rfl 6 (by decide) (hg _ wd_689) (fun _ h9 => h9) rfl dX11_vote_68 ?_
    refine lv_dup hx hb dX11_vote_71 rfl ?_
    refine va_get (D := D) (ci := 0) (v := .int 0) (C := RX0) (T := TX0) (N := 8) hx hb hg inX0 hown hK hP 1 rfl rfl 7 (by decide) (hg _ wd_342) (fun _ h9 => h9) rfl dX11_vote_72 ?_
    refine lv_iconst (v := 1) hx hb dX11_vote_75 (by decide) ?_
    refine lv_iadd hx hb dX11_vote_76 ?_
    rw [show ((0 + 1 : Int32) = 1) by decide]
    refine va_put (D := D) (ci := 0) (v := .int 1) (ty := .int) (C := RX0) (T := TX0) (N := 8) hx hb hg inX0 tyX0 tyX0_ok nmX0 hown hK hP hD hS 1 rfl rfl 7 (by decide) (hg _ wd_342) (fun _ h9 => h9) rfl (by decide +kernel) rfl rfl (Nat.le_of_ble_eq_true rfl) dX11_vote_77 (fun H locs hP hD hS => ?_)
    have hP : va_P D vwCl [(h, .inr (11, [.ref h_0, .ref h_1, .ref h_2, .ref h_3, .ref h_4, .ref h_5, .ref h_6, .ref h_7, .ref h_8, .ref h_9, .ref h_10, .ref h_11, .ref h_12, .int h_13, .int h_14])), (h_6, .inr (0, [.ref h_6_0, .ref h_6_1, .ref h_6_2, .ref h_6_3, .ref h_6_4, .ref h_6_5, .int 0, .int 1])), (h_6_5, .inl (ct 1, 12, .inl f_6))] H := hP
    have hD : va_D A [(h, .inr (11, [.ref h_0, .ref h_1, .ref h_2, .ref h_3, .ref h_4, .ref h_5, .ref h_6, .ref h_7, .ref h_8, .ref h_9, .ref h_10, .ref h_11, .ref h_12, .int h_13, .int h_14])), (h_6, .inr (0, [.ref h_6_0, .ref h_6_1, .ref h_6_2, .ref h_6_3, .ref h_6_4, .ref h_6_5, .int 0, .int 1])), (h_6_5, .inl (ct 1, 12, .inl f_6))] := hD
    refine lv_aload_n hx hb dX11_vote_80 rfl (lv_at hl 0 rfl) ?_
    refine lv_aload_n hx hb dX11_vote_81 rfl (lv_at hl 0 rfl) ?_
    refine va_get (D := D) (ci := 11) (v := .ref h_6) (C := RX11) (T := TX11) (N := 15) hx hb hg inX11 hown hK hP 0 rfl rfl 6 (by decide) (hg _ wd_689) (fun _ h9 => h9) rfl dX11_vote_82 ?_
    refine va_get (D := D) (ci := 0) (v := .int 1) (C := RX0) (T := TX0) (N := 8) hx hb hg inX0 hown hK hP 1 rfl rfl 7 (by decide) (hg _ wd_342) (fun _ h9 => h9) rfl dX11_vote_85 ?_
    have hPc := hP.sub (ws' := [(h, .inr (11, [.ref h_0, .ref h_1, .ref h_2, .ref h_3, .ref h_4, .ref h_5, .ref h_6, .ref h_7, .ref h_8, .ref h_9, .ref h_10, .ref h_11, .ref h_12, .int h_13, .int h_14]))]) [0] rfl
    have hDc := hD.sub (ws' := [(h, .inr (11, [.ref h_0, .ref h_1, .ref h_2, .ref h_3, .ref h_4, .ref h_5, .ref h_6, .ref h_7, .ref h_8, .ref h_9, .ref h_10, .ref h_11, .ref h_12, .int h_13, .int h_14]))]) [0] (by decide) rfl
    have hFc := va_free (wc := [(h, .inr (11, [.ref h_0, .ref h_1, .ref h_2, .ref h_3, .ref h_4, .ref h_5, .ref h_6, .ref h_7, .ref h_8, .ref h_9, .ref h_10, .ref h_11, .ref h_12, .int h_13, .int h_14]))]) hD hS hA [0] rfl
    refine va_calli (va_runV (As := [.int 1]) (rest := []) ⟨hx, hb, hml, hown, hg⟩ (c_accept l D ct h 1 h_0 h_1 h_2 h_3 h_4 h_5 h_6 h_7 h_8 h_9 h_10 h_11 h_12 h_13 h_14 H.size ) (cwV 1 hg (gd_V wd_805 wd_807 wd_5 wd_107 wd_808) rfl rfl rfl (by decide +kernel) ⟨Nat.le_of_ble_eq_true rfl, Nat.le_of_ble_eq_true rfl⟩) (Wd_V hPc hKK hDc (va_recv hK hPc (ci := 11) (q0 := 0) rfl rfl)) rfl rfl hl.1 rfl (lv_room (Nat.le_of_ble_eq_true rfl)) dX11_vote_88 ⟨Nat.le_of_ble_eq_true rfl, Nat.le_of_ble_eq_true rfl⟩) hS (fun q _ h => hFc q h) hFc (fun r_7 u_7 t_7 H1 locs ht_7 hvm_7 hw_7 hB_7 hz_7 hk_7 hS => ?_)
    obtain ⟨hP, hD⟩ := va_join (wr := [(h_6, .inr (0, [.ref h_6_0, .ref h_6_1, .ref h_6_2, .ref h_6_3, .ref h_6_4, .ref h_6_5, .int 0, .int 1])), (h_6_5, .inl (ct 1, 12, .inl f_6))]) (w1 := []) hP hD [0] [1, 2] rfl rfl (by decide) (by decide) hk_7 hFc (fun k q h => by simp at h) ⟨fun i j p q h => by simp at h, fun k q h => by simp at h⟩
    generalize H1 = H at hP hS ⊢
    have hP : va_P D vwCl [(h_6, .inr (0, [.ref h_6_0, .ref h_6_1, .ref h_6_2, .ref h_6_3, .ref h_6_4, .ref h_6_5, .int 0, .int 1])), (h_6_5, .inl (ct 1, 12, .inl f_6))] H := hP
    have hD : va_D A [(h_6, .inr (0, [.ref h_6_0, .ref h_6_1, .ref h_6_2, .ref h_6_3, .ref h_6_4, .ref h_6_5, .int 0, .int 1])), (h_6_5, .inl (ct 1, 12, .inl f_6))] := hD
    subst hw_7
    exact W.iret (v := 1) hx hb hr (fun t ht hW => ⟨⟨1, (), rfl, (by simp [sp_vote, c_2]), trivial⟩, hS.F ht⟩) hS.2.2 dX11_vote_91
  · refine lv_aload_n hx hb dX11_vote_7 rfl (lv_at hl 0 rfl) ?_
    refine lv_iconst (v := (-1)) hx hb dX11_vote_8 (by decide) ?_
    have hPc := hP.sub (ws' := [(h, .inr (11, [.ref h_0, .ref h_1, .ref h_2, .ref h_3, .ref h_4, .ref h_5, .ref h_6, .ref h_7, .ref h_8, .ref h_9, .ref h_10, .ref h_11, .ref h_12, .int h_13, .int h_14]))]) [0] rfl
    have hDc := hD.sub (ws' := [(h, .inr (11, [.ref h_0, .ref h_1, .ref h_2, .ref h_3, .ref h_4, .ref h_5, .ref h_6, .ref h_7, .ref h_8, .ref h_9, .ref h_10, .ref h_11, .ref h_12, .int h_13, .int h_14]))]) [0] (by decide) rfl
    have hFc := va_free (wc := [(h, .inr (11, [.ref h_0, .ref h_1, .ref h_2, .ref h_3, .ref h_4, .ref h_5, .ref h_6, .ref h_7, .ref h_8, .ref h_9, .ref h_10, .ref h_11, .ref h_12, .int h_13, .int h_14]))]) hD hS hA [0] rfl
    refine va_calli (va_runV (As := [.int (-1)]) (rest := []) ⟨hx, hb, hml, hown, hg⟩ (c_refuse l D ct h (-1) h_0 h_1 h_2 h_3 h_4 h_5 h_6 h_7 h_8 h_9 h_10 h_11 h_12 h_13 h_14 s.heap.size ) (cwV 1 hg (gd_V wd_778 wd_780 wd_3 wd_107 wd_781) rfl rfl rfl (by decide +kernel) ⟨Nat.le_of_ble_eq_true rfl, Nat.le_of_ble_eq_true rfl⟩) (Wd_V hPc hKK hDc (va_recv hK hPc (ci := 11) (q0 := 0) rfl rfl)) rfl rfl hl.1 rfl (lv_room (Nat.le_of_ble_eq_true rfl)) dX11_vote_9 ⟨Nat.le_of_ble_eq_true rfl, Nat.le_of_ble_eq_true rfl⟩) hS (fun q _ h => hFc q h) hFc (fun r_8 u_8 t_8 H1 locs ht_8 hvm_8 hw_8 hB_8 hz_8 hk_8 hS => ?_)
    obtain ⟨hP, hD⟩ := va_join (wr := [(h_6, .inr (0, [.ref h_6_0, .ref h_6_1, .ref h_6_2, .ref h_6_3, .ref h_6_4, .ref h_6_5, .int 0, .int 0])), (h_6_5, .inl (ct 1, 12, .inl f))]) (w1 := []) hP hD [0] [1, 2] rfl rfl (by decide) (by decide) hk_8 hFc (fun k q h => by simp at h) ⟨fun i j p q h => by simp at h, fun k q h => by simp at h⟩
    generalize H1 = H at hP hS ⊢
    have hP : va_P D vwCl [(h_6, .inr (0, [.ref h_6_0, .ref h_6_1, .ref h_6_2, .ref h_6_3, .ref h_6_4, .ref h_6_5, .int 0, .int 0])), (h_6_5, .inl (ct 1, 12, .inl f))] H := hP
    have hD : va_D A [(h_6, .inr (0, [.ref h_6_0, .ref h_6_1, .ref h_6_2, .ref h_6_3, .ref h_6_4, .ref h_6_5, .int 0, .int 0])), (h_6_5, .inl (ct 1, 12, .inl f))] := hD
    subst hw_8
    exact W.iret (v := (-1)) hx hb hr (fun t ht hW => ⟨⟨(-1), (), rfl, (by simp [sp_vote, c_2]), trivial⟩, hS.F ht⟩) hS.2.2 dX11_vote_12
def sp_doors (a1 : Int32) (a2 : Int32) (a3 : Int32) (a4 : Int32) : Int32 := if bw a1 0 19 = 0 then (-1) else if bw a2 1 60 = 0 then (-1) else if bw a3 0 a2 = 0 then (-1) else if bw a4 0 a3 = 0 then (-1) else 0
theorem dX11_doors_0 : decode cX11_doors 0 = .ok (.iload_n 1, 1) := by decide +kernel
theorem dX11_doors_1 : decode cX11_doors 1 = .ok (.iconst 0, 1) := by decide +kernel
theorem dX11_doors_2 : decode cX11_doors 2 = .ok (.bipush 19, 2) := by decide +kernel
theorem dX11_doors_4 : decode cX11_doors 4 = .ok (.invokestatic 150, 3) := by decide +kernel
theorem dX11_doors_7 : decode cX11_doors 7 = .ok (.ifCond .eq 32, 3) := by decide +kernel
theorem dX11_doors_39 : decode cX11_doors 39 = .ok (.aload_n 0, 1) := by decide +kernel
theorem dX11_doors_40 : decode cX11_doors 40 = .ok (.iconst (-1), 1) := by decide +kernel
theorem dX11_doors_41 : decode cX11_doors 41 = .ok (.invokevirtual 118, 3) := by decide +kernel
theorem dX11_doors_44 : decode cX11_doors 44 = .ok (.ireturn, 1) := by decide +kernel
theorem dX11_doors_10 : decode cX11_doors 10 = .ok (.iload_n 2, 1) := by decide +kernel
theorem dX11_doors_11 : decode cX11_doors 11 = .ok (.iconst 1, 1) := by decide +kernel
theorem dX11_doors_12 : decode cX11_doors 12 = .ok (.bipush 60, 2) := by decide +kernel
theorem dX11_doors_14 : decode cX11_doors 14 = .ok (.invokestatic 150, 3) := by decide +kernel
theorem dX11_doors_17 : decode cX11_doors 17 = .ok (.ifCond .eq 22, 3) := by decide +kernel
theorem dX11_doors_20 : decode cX11_doors 20 = .ok (.iload_n 3, 1) := by decide +kernel
theorem dX11_doors_21 : decode cX11_doors 21 = .ok (.iconst 0, 1) := by decide +kernel
theorem dX11_doors_22 : decode cX11_doors 22 = .ok (.iload_n 2, 1) := by decide +kernel
theorem dX11_doors_23 : decode cX11_doors 23 = .ok (.invokestatic 150, 3) := by decide +kernel
theorem dX11_doors_26 : decode cX11_doors 26 = .ok (.ifCond .eq 13, 3) := by decide +kernel
theorem dX11_doors_29 : decode cX11_doors 29 = .ok (.iload 4, 2) := by decide +kernel
theorem dX11_doors_31 : decode cX11_doors 31 = .ok (.iconst 0, 1) := by decide +kernel
theorem dX11_doors_32 : decode cX11_doors 32 = .ok (.iload_n 3, 1) := by decide +kernel
theorem dX11_doors_33 : decode cX11_doors 33 = .ok (.invokestatic 150, 3) := by decide +kernel
theorem dX11_doors_36 : decode cX11_doors 36 = .ok (.ifCond .ne 9, 3) := by decide +kernel
theorem dX11_doors_45 : decode cX11_doors 45 = .ok (.aload_n 0, 1) := by decide +kernel
theorem dX11_doors_46 : decode cX11_doors 46 = .ok (.getfield 89, 3) := by decide +kernel
theorem wd_694 : (Cond.fieldLink "VoteRoll" 89 "VoteRoll" "draws" "LVoteRoll$Draws;") ∈ gl := gl_at 694 (by decide +kernel) (by decide +kernel)
theorem dX11_doors_49 : decode cX11_doors 49 = .ok (.getfield 363, 3) := by decide +kernel
theorem wd_600 : (Cond.fieldLink "VoteRoll" 363 "VoteRoll$Draws" "doors" "[I") ∈ gl := gl_at 600 (by decide +kernel) (by decide +kernel)
theorem dX11_doors_52 : decode cX11_doors 52 = .ok (.iload_n 1, 1) := by decide +kernel
theorem dX11_doors_53 : decode cX11_doors 53 = .ok (.iload_n 2, 1) := by decide +kernel
theorem dX11_doors_54 : decode cX11_doors 54 = .ok (.iastore, 1) := by decide +kernel
theorem dX11_doors_55 : decode cX11_doors 55 = .ok (.aload_n 0, 1) := by decide +kernel
theorem dX11_doors_56 : decode cX11_doors 56 = .ok (.getfield 89, 3) := by decide +kernel
theorem dX11_doors_59 : decode cX11_doors 59 = .ok (.getfield 366, 3) := by decide +kernel
theorem wd_602 : (Cond.fieldLink "VoteRoll" 366 "VoteRoll$Draws" "drawn" "[I") ∈ gl := gl_at 602 (by decide +kernel) (by decide +kernel)
theorem dX11_doors_62 : decode cX11_doors 62 = .ok (.iload_n 1, 1) := by decide +kernel
theorem dX11_doors_63 : decode cX11_doors 63 = .ok (.iload_n 3, 1) := by decide +kernel
theorem dX11_doors_64 : decode cX11_doors 64 = .ok (.iastore, 1) := by decide +kernel
theorem dX11_doors_65 : decode cX11_doors 65 = .ok (.aload_n 0, 1) := by decide +kernel
theorem dX11_doors_66 : decode cX11_doors 66 = .ok (.getfield 89, 3) := by decide +kernel
theorem dX11_doors_69 : decode cX11_doors 69 = .ok (.getfield 369, 3) := by decide +kernel
theorem wd_604 : (Cond.fieldLink "VoteRoll" 369 "VoteRoll$Draws" "lacking" "[I") ∈ gl := gl_at 604 (by decide +kernel) (by decide +kernel)
theorem dX11_doors_72 : decode cX11_doors 72 = .ok (.iload_n 1, 1) := by decide +kernel
theorem dX11_doors_73 : decode cX11_doors 73 = .ok (.iload 4, 2) := by decide +kernel
theorem dX11_doors_75 : decode cX11_doors 75 = .ok (.iastore, 1) := by decide +kernel
theorem dX11_doors_76 : decode cX11_doors 76 = .ok (.aload_n 0, 1) := by decide +kernel
theorem dX11_doors_77 : decode cX11_doors 77 = .ok (.iconst 0, 1) := by decide +kernel
theorem dX11_doors_78 : decode cX11_doors 78 = .ok (.invokevirtual 140, 3) := by decide +kernel
theorem dX11_doors_81 : decode cX11_doors 81 = .ok (.ireturn, 1) := by decide +kernel
set_option maxHeartbeats 4000000 in
set_option maxRecDepth 100000 in
theorem c_doors (l : Launch) (D : va_G) (ct : Nat → ClassId) (h : Nat) (a1 : Int32) (a2 : Int32) (a3 : Int32) (a4 : Int32) (h_0 : Nat) (h_1 : Nat) (h_2 : Nat) (h_3 : Nat) (h_4 : Nat) (h_5 : Nat) (h_6 : Nat) (h_7 : Nat) (h_8 : Nat) (h_9 : Nat) (h_10 : Nat) (h_11 : Nat) (h_12 : Nat) (h_13 : Int32) (h_14 : Int32) (h_11_0 : Nat) (h_11_1 : Nat) (h_11_2 : Nat) (h_11_3 : Nat) (h_11_4 : Nat) (h_11_5 : Int64) (h_11_6 : Int64) (f : Nat → Int32) (g : Nat → Int32) (k : Nat → Int32) (sz : Nat)  : Met l yX11_doors (wk yX11_doors cX11_doors 5 (some .int)) { frames := 1, cells := 0, slots := 0, locals := 22 } (va_Pc [.ref h, .int a1, .int a2, .int a3, .int a4] (Wd D [(h, .inr (11, [.ref h_0, .ref h_1, .ref h_2, .ref h_3, .ref h_4, .ref h_5, .ref h_6, .ref h_7, .ref h_8, .ref h_9, .ref h_10, .ref h_11, .ref h_12, .int h_13, .int h_14])), (h_11, .inr (2, [.ref h_11_0, .ref h_11_1, .ref h_11_2, .ref h_11_3, .ref h_11_4, .long h_11_5, .long h_11_6])), (h_11_0, .inl (ct 1, 20, .inl f)), (h_11_1, .inl (ct 1, 20, .inl g)), (h_11_2, .inl (ct 1, 20, .inl k))] ct sz)) (va_Qi (fun (r : Int32) (u : Unit) => r = sp_doors a1 a2 a3 a4) (fun _ _ => True) (va_A [(h, .inr (11, [.ref h_0, .ref h_1, .ref h_2, .ref h_3, .ref h_4, .ref h_5, .ref h_6, .ref h_7, .ref h_8, .ref h_9, .ref h_10, .ref h_11, .ref h_12, .int h_13, .int h_14])), (h_11, .inr (2, [.ref h_11_0, .ref h_11_1, .ref h_11_2, .ref h_11_3, .ref h_11_4, .long h_11_5, .long h_11_6])), (h_11_0, .inl (ct 1, 20, .inl f)), (h_11_1, .inl (ct 1, 20, .inl g)), (h_11_2, .inl (ct 1, 20, .inl k))] sz)) 0 0 (va_A [(h, .inr (11, [.ref h_0, .ref h_1, .ref h_2, .ref h_3, .ref h_4, .ref h_5, .ref h_6, .ref h_7, .ref h_8, .ref h_9, .ref h_10, .ref h_11, .ref h_12, .int h_13, .int h_14])), (h_11, .inr (2, [.ref h_11_0, .ref h_11_1, .ref h_11_2, .ref h_11_3, .ref h_11_4, .long h_11_5, .long h_11_6])), (h_11_0, .inl (ct 1, 20, .inl f)), (h_11_1, .inl (ct 1, 20, .inl g)), (h_11_2, .inl (ct 1, 20, .inl k))] sz) := by
  refine Met.ofW (cc := cX11_doors) (maxL := 5) (ret := (some .int)) (by decide) rfl ?_
  intro p e s m args below meth c s₁ B hml hv
  obtain ⟨rfl, hsz, hP, hKK, hD0⟩ := hv
  have hK := hKK.1
  have hx := B.exec
  have hb := B.bytes
  have hr := B.returns
  have hg : ∀ w ∈ gl, w.before _ s = true := fun w h => atoms_spec (ws := wk yX11_doors cX11_doors 5 (some .int)) B.pre w (List.mem_cons_of_mem _ h)
  have hown : s.vm.findClass RX11 = some m.cls := findClass_of_methodNamed B.named
  have hlocks := B.notSynchronized
  subst hsz
  have hD := hD0.self (sz := s.heap.size)
  generalize hAe : va_A [(h, .inr (11, [.ref h_0, .ref h_1, .ref h_2, .ref h_3, .ref h_4, .ref h_5, .ref h_6, .ref h_7, .ref h_8, .ref h_9, .ref h_10, .ref h_11, .ref h_12, .int h_13, .int h_14])), (h_11, .inr (2, [.ref h_11_0, .ref h_11_1, .ref h_11_2, .ref h_11_3, .ref h_11_4, .long h_11_5, .long h_11_6])), (h_11_0, .inl (ct 1, 20, .inl f)), (h_11_1, .inl (ct 1, 20, .inl g)), (h_11_2, .inl (ct 1, 20, .inl k))] s.heap.size = A at hD ⊢
  have hA : ∀ q : Nat, s.heap.size ≤ q → A q := fun q h => by rw [← hAe]; exact Or.inr h
  have hS : va_S A s.heap s.heap [] := va_S.rf
  have hl := lv_entry ([.ref h, .int a1, .int a2, .int a3, .int a4]) (n := 5) (Nat.le_of_ble_eq_true rfl)
  rw [lg_entry_eq]
  generalize (lg_sl ([.ref h, .int a1, .int a2, .int a3, .int a4]) ++ List.replicate (5 - (lg_sl ([.ref h, .int a1, .int a2, .int a3, .int a4])).length) Slot.unset).toArray = ls at hl ⊢
  have hl : lv_has ls 5 [(0, .ref h), (1, .int a1), (2, .int a2), (3, .int a3), (4, .int a4)] := hl
  refine lv_iload_n hx hb dX11_doors_0 rfl (lv_at hl 1 rfl) ?_
  refine lv_iconst (v := 0) hx hb dX11_doors_1 (by decide) ?_
  refine lv_bipush (v := 19) hx hb dX11_doors_2 (by decide) ?_
  have hPc := hP.sub (ws' := []) [] rfl
  refine z_calli (va_runS (As := [.int a1, .int 0, .int 19]) (rest := []) ⟨hx, hb, hml, hown, hg⟩ (c_within l D ct a1 0 19 ) (va_cwS 3 hg (gd_S wd_959 wd_917 wd_107 wd_918) rfl rfl rfl (by decide +kernel) ⟨Nat.le_of_ble_eq_true rfl, Nat.le_of_ble_eq_true rfl⟩) (Wr_S hPc hKK) rfl rfl hl.1 rfl (lv_room (Nat.le_of_ble_eq_true rfl)) dX11_doors_4 ⟨Nat.le_of_ble_eq_true rfl, Nat.le_of_ble_eq_true rfl⟩) (fun r_1 hw_1 => ?_)
  subst hw_1
  refine lv_if_eq (tgt := 39) hx hb dX11_doors_7 (by decide) (fun c_2 => ?_) (fun c_2 => ?_)
  · refine lv_aload_n hx hb dX11_doors_39 rfl (lv_at hl 0 rfl) ?_
    refine lv_iconst (v := (-1)) hx hb dX11_doors_40 (by decide) ?_
    have hPc := hP.sub (ws' := [(h, .inr (11, [.ref h_0, .ref h_1, .ref h_2, .ref h_3, .ref h_4, .ref h_5, .ref h_6, .ref h_7, .ref h_8, .ref h_9, .ref h_10, .ref h_11, .ref h_12, .int h_13, .int h_14]))]) [0] rfl
    have hDc := hD.sub (ws' := [(h, .inr (11, [.ref h_0, .ref h_1, .ref h_2, .ref h_3, .ref h_4, .ref h_5, .ref h_6, .ref h_7, .ref h_8, .ref h_9, .ref h_10, .ref h_11, .ref h_12, .int h_13, .int h_14]))]) [0] (by decide) rfl
    have hFc := va_free (wc := [(h, .inr (11, [.ref h_0, .ref h_1, .ref h_2, .ref h_3, .ref h_4, .ref h_5, .ref h_6, .ref h_7, .ref h_8, .ref h_9, .ref h_10, .ref h_11, .ref h_12, .int h_13, .int h_14]))]) hD hS hA [0] rfl
    refine va_calli (va_runV (As := [.int (-1)]) (rest := []) ⟨hx, hb, hml, hown, hg⟩ (c_refuse l D ct h (-1) h_0 h_1 h_2 h_3 h_4 h_5 h_6 h_7 h_8 h_9 h_10 h_11 h_12 h_13 h_14 s.heap.size ) (cwV 1 hg (gd_V wd_778 wd_780 wd_3 wd_107 wd_781) rfl rfl rfl (by decide +kernel) ⟨Nat.le_of_ble_eq_true rfl, Nat.le_of_ble_eq_true rfl⟩) (Wd_V hPc hKK hDc (va_recv hK hPc (ci := 11) (q0 := 0) rfl rfl)) rfl rfl hl.1 rfl (lv_room (Nat.le_of_ble_eq_true rfl)) dX11_doors_41 ⟨Nat.le_of_ble_eq_true rfl, Nat.le_of_ble_eq_true rfl⟩) hS (fun q _ h => hFc q h) hFc (fun r_3 u_3 t_3 H1 locs ht_3 hvm_3 hw_3 hB_3 hz_3 hk_3 hS => ?_)
    obtain ⟨hP, hD⟩ := va_join (wr := [(h_11, .inr (2, [.ref h_11_0, .ref h_11_1, .ref h_11_2, .ref h_11_3, .ref h_11_4, .long h_11_5, .long h_11_6])), (h_11_0, .inl (ct 1, 20, .inl f)), (h_11_1, .inl (ct 1, 20, .inl g)), (h_11_2, .inl (ct 1, 20, .inl k))]) (w1 := []) hP hD [0] [1, 2, 3, 4] rfl rfl (by decide) (by decide) hk_3 hFc (fun k q h => by simp at h) ⟨fun i j p q h => by simp at h, fun k q h => by simp at h⟩
    generalize H1 = H at hP hS ⊢
    have hP : va_P D vwCl [(h_11, .inr (2, [.ref h_11_0, .ref h_11_1, .ref h_11_2, .ref h_11_3, .ref h_11_4, .long h_11_5, .long h_11_6])), (h_11_0, .inl (ct 1, 20, .inl f)), (h_11_1, .inl (ct 1, 20, .inl g)), (h_11_2, .inl (ct 1, 20, .inl k))] H := hP
    have hD : va_D A [(h_11, .inr (2, [.ref h_11_0, .ref h_11_1, .ref h_11_2, .ref h_11_3, .ref h_11_4, .long h_11_5, .long h_11_6])), (h_11_0, .inl (ct 1, 20, .inl f)), (h_11_1, .inl (ct 1, 20, .inl g)), (h_11_2, .inl (ct 1, 20, .inl k))] := hD
    subst hw_3
    exact W.iret (v := (-1)) hx hb hr (fun t ht hW => ⟨⟨(-1), (), rfl, (by simp [sp_doors, c_2]), trivial⟩, hS.F ht⟩) hS.2.2 dX11_doors_44
  · refine lv_iload_n hx hb dX11_doors_10 rfl (lv_at hl 2 rfl) ?_
    refine lv_iconst (v := 1) hx hb dX11_doors_11 (by decide) ?_
    refine lv_bipush (v := 60) hx hb dX11_doors_12 (by decide) ?_
    have hPc := hP.sub (ws' := []) [] rfl
    refine z_calli (va_runS (As := [.int a2, .int 1, .int 60]) (rest := []) ⟨hx, hb, hml, hown, hg⟩ (c_within l D ct a2 1 60 ) (va_cwS 3 hg (gd_S wd_959 wd_917 wd_107 wd_918) rfl rfl rfl (by decide +kernel) ⟨Nat.le_of_ble_eq_true rfl, Nat.le_of_ble_eq_true rfl⟩) (Wr_S hPc hKK) rfl rfl hl.1 rfl (lv_room (Nat.le_of_ble_eq_true rfl)) dX11_doors_14 ⟨Nat.le_of_ble_eq_true rfl, Nat.le_of_ble_eq_true rfl⟩) (fun r_4 hw_4 => ?_)
    subst hw_4
    refine lv_if_eq (tgt := 39) hx hb dX11_doors_17 (by decide) (fun c_5 => ?_) (fun c_5 => ?_)
    · refine lv_aload_n hx hb dX11_doors_39 rfl (lv_at hl 0 rfl) ?_
      refine lv_iconst (v := (-1)) hx hb dX11_doors_40 (by decide) ?_
      have hPc := hP.sub (ws' := [(h, .inr (11, [.ref h_0, .ref h_1, .ref h_2, .ref h_3, .ref h_4, .ref h_5, .ref h_6, .ref h_7, .ref h_8, .ref h_9, .ref h_10, .ref h_11, .ref h_12, .int h_13, .int h_14]))]) [0] rfl
      have hDc := hD.sub (ws' := [(h, .inr (11, [.ref h_0, .ref h_1, .ref h_2, .ref h_3, .ref h_4, .ref h_5, .ref h_6, .ref h_7, .ref h_8, .ref h_9, .ref h_10, .ref h_11, .ref h_12, .int h_13, .int h_14]))]) [0] (by decide) rfl
      have hFc := va_free (wc := [(h, .inr (11, [.ref h_0, .ref h_1, .ref h_2, .ref h_3, .ref h_4, .ref h_5, .ref h_6, .ref h_7, .ref h_8, .ref h_9, .ref h_10, .ref h_11, .ref h_12, .int h_13, .int h_14]))]) hD hS hA [0] rfl
      refine va_calli (va_runV (As := [.int (-1)]) (rest := []) ⟨hx, hb, hml, hown, hg⟩ (c_refuse l D ct h (-1) h_0 h_1 h_2 h_3 h_4 h_5 h_6 h_7 h_8 h_9 h_10 h_11 h_12 h_13 h_14 s.heap.size ) (cwV 1 hg (gd_V wd_778 wd_780 wd_3 wd_107 wd_781) rfl rfl rfl (by decide +kernel) ⟨Nat.le_of_ble_eq_true rfl, Nat.le_of_ble_eq_true rfl⟩) (Wd_V hPc hKK hDc (va_recv hK hPc (ci := 11) (q0 := 0) rfl rfl)) rfl rfl hl.1 rfl (lv_room (Nat.le_of_ble_eq_true rfl)) dX11_doors_41 ⟨Nat.le_of_ble_eq_true rfl, Nat.le_of_ble_eq_true rfl⟩) hS (fun q _ h => hFc q h) hFc (fun r_6 u_6 t_6 H1 locs ht_6 hvm_6 hw_6 hB_6 hz_6 hk_6 hS => ?_)
      obtain ⟨hP, hD⟩ := va_join (wr := [(h_11, .inr (2, [.ref h_11_0, .ref h_11_1, .ref h_11_2, .ref h_11_3, .ref h_11_4, .long h_11_5, .long h_11_6])), (h_11_0, .inl (ct 1, 20, .inl f)), (h_11_1, .inl (ct 1, 20, .inl g)), (h_11_2, .inl (ct 1, 20, .inl k))]) (w1 := []) hP hD [0] [1, 2, 3, 4] rfl rfl (by decide) (by decide) hk_6 hFc (fun k q h => by simp at h) ⟨fun i j p q h => by simp at h, fun k q h => by simp at h⟩
      generalize H1 = H at hP hS ⊢
      have hP : va_P D vwCl [(h_11, .inr (2, [.ref h_11_0, .ref h_11_1, .ref h_11_2, .ref h_11_3, .ref h_11_4, .long h_11_5, .long h_11_6])), (h_11_0, .inl (ct 1, 20, .inl f)), (h_11_1, .inl (ct 1, 20, .inl g)), (h_11_2, .inl (ct 1, 20, .inl k))] H := hP
      have hD : va_D A [(h_11, .inr (2, [.ref h_11_0, .ref h_11_1, .ref h_11_2, .ref h_11_3, .ref h_11_4, .long h_11_5, .long h_11_6])), (h_11_0, .inl (ct 1, 20, .inl f)), (h_11_1, .inl (ct 1, 20, .inl g)), (h_11_2, .inl (ct 1, 20, .inl k))] := hD
      subst hw_6
      exact W.iret (v := (-1)) hx hb hr (fun t ht hW => ⟨⟨(-1), (), rfl, (by simp [sp_doors, c_2, c_5]), trivial⟩, hS.F ht⟩) hS.2.2 dX11_doors_44
    · refine lv_iload_n hx hb dX11_doors_20 rfl (lv_at hl 3 rfl) ?_
      refine lv_iconst (v := 0) hx hb dX11_doors_21 (by decide) ?_
      refine lv_iload_n hx hb dX11_doors_22 rfl (lv_at hl 2 rfl) ?_
      have hPc := hP.sub (ws' := []) [] rfl
      refine z_calli (va_runS (As := [.int a3, .int 0, .int a2]) (rest := []) ⟨hx, hb, hml, hown, hg⟩ (c_within l D ct a3 0 a2 ) (va_cwS 3 hg (gd_S wd_959 wd_917 wd_107 wd_918) rfl rfl rfl (by decide +kernel) ⟨Nat.le_of_ble_eq_true rfl, Nat.le_of_ble_eq_true rfl⟩) (Wr_S hPc hKK) rfl rfl hl.1 rfl (lv_room (Nat.le_of_ble_eq_true rfl)) dX11_doors_23 ⟨Nat.le_of_ble_eq_true rfl, Nat.le_of_ble_eq_true rfl⟩) (fun r_7 hw_7 => ?_)
      subst hw_7
      refine lv_if_eq (tgt := 39) hx hb dX11_doors_26 (by decide) (fun c_8 => ?_) (fun c_8 => ?_)
      · refine lv_aload_n hx hb dX11_doors_39 rfl (lv_at hl 0 rfl) ?_
        refine lv_iconst (v := (-1)) hx hb dX11_doors_40 (by decide) ?_
        have hPc := hP.sub (ws' := [(h, .inr (11, [.ref h_0, .ref h_1, .ref h_2, .ref h_3, .ref h_4, .ref h_5, .ref h_6, .ref h_7, .ref h_8, .ref h_9, .ref h_10, .ref h_11, .ref h_12, .int h_13, .int h_14]))]) [0] rfl
        have hDc := hD.sub (ws' := [(h, .inr (11, [.ref h_0, .ref h_1, .ref h_2, .ref h_3, .ref h_4, .ref h_5, .ref h_6, .ref h_7, .ref h_8, .ref h_9, .ref h_10, .ref h_11, .ref h_12, .int h_13, .int h_14]))]) [0] (by decide) rfl
        have hFc := va_free (wc := [(h, .inr (11, [.ref h_0, .ref h_1, .ref h_2, .ref h_3, .ref h_4, .ref h_5, .ref h_6, .ref h_7, .ref h_8, .ref h_9, .ref h_10, .ref h_11, .ref h_12, .int h_13, .int h_14]))]) hD hS hA [0] rfl
        refine va_calli (va_runV (As := [.int (-1)]) (rest := []) ⟨hx, hb, hml, hown, hg⟩ (c_refuse l D ct h (-1) h_0 h_1 h_2 h_3 h_4 h_5 h_6 h_7 h_8 h_9 h_10 h_11 h_12 h_13 h_14 s.heap.size ) (cwV 1 hg (gd_V wd_778 wd_780 wd_3 wd_107 wd_781) rfl rfl rfl (by decide +kernel) ⟨Nat.le_of_ble_eq_true rfl, Nat.le_of_ble_eq_true rfl⟩) (Wd_V hPc hKK hDc (va_recv hK hPc (ci := 11) (q0 := 0) rfl rfl)) rfl rfl hl.1 rfl (lv_room (Nat.le_of_ble_eq_true rfl)) dX11_doors_41 ⟨Nat.le_of_ble_eq_true rfl, Nat.le_of_ble_eq_true rfl⟩) hS (fun q _ h => hFc q h) hFc (fun r_9 u_9 t_9 H1 locs ht_9 hvm_9 hw_9 hB_9 hz_9 hk_9 hS => ?_)
        obtain ⟨hP, hD⟩ := va_join (wr := [(h_11, .inr (2, [.ref h_11_0, .ref h_11_1, .ref h_11_2, .ref h_11_3, .ref h_11_4, .long h_11_5, .long h_11_6])), (h_11_0, .inl (ct 1, 20, .inl f)), (h_11_1, .inl (ct 1, 20, .inl g)), (h_11_2, .inl (ct 1, 20, .inl k))]) (w1 := []) hP hD [0] [1, 2, 3, 4] rfl rfl (by decide) (by decide) hk_9 hFc (fun k q h => by simp at h) ⟨fun i j p q h => by simp at h, fun k q h => by simp at h⟩
        generalize H1 = H at hP hS ⊢
        have hP : va_P D vwCl [(h_11, .inr (2, [.ref h_11_0, .ref h_11_1, .ref h_11_2, .ref h_11_3, .ref h_11_4, .long h_11_5, .long h_11_6])), (h_11_0, .inl (ct 1, 20, .inl f)), (h_11_1, .inl (ct 1, 20, .inl g)), (h_11_2, .inl (ct 1, 20, .inl k))] H := hP
        have hD : va_D A [(h_11, .inr (2, [.ref h_11_0, .ref h_11_1, .ref h_11_2, .ref h_11_3, .ref h_11_4, .long h_11_5, .long h_11_6])), (h_11_0, .inl (ct 1, 20, .inl f)), (h_11_1, .inl (ct 1, 20, .inl g)), (h_11_2, .inl (ct 1, 20, .inl k))] := hD
        subst hw_9
        exact W.iret (v := (-1)) hx hb hr (fun t ht hW => ⟨⟨(-1), (), rfl, (by simp [sp_doors, c_2, c_5, c_8]), trivial⟩, hS.F ht⟩) hS.2.2 dX11_doors_44
      · refine lv_iload hx hb dX11_doors_29 (lv_at hl 4 rfl) ?_
        refine lv_iconst (v := 0) hx hb dX11_doors_31 (by decide) ?_
        refine lv_iload_n hx hb dX11_doors_32 rfl (lv_at hl 3 rfl) ?_
        have hPc := hP.sub (ws' := []) [] rfl
        refine z_calli (va_runS (As := [.int a4, .int 0, .int a3]) (rest := []) ⟨hx, hb, hml, hown, hg⟩ (c_within l D ct a4 0 a3 ) (va_cwS 3 hg (gd_S wd_959 wd_917 wd_107 wd_918) rfl rfl rfl (by decide +kernel) ⟨Nat.le_of_ble_eq_true rfl, Nat.le_of_ble_eq_true rfl⟩) (Wr_S hPc hKK) rfl rfl hl.1 rfl (lv_room (Nat.le_of_ble_eq_true rfl)) dX11_doors_33 ⟨Nat.le_of_ble_eq_true rfl, Nat.le_of_ble_eq_true rfl⟩) (fun r_10 hw_10 => ?_)
        subst hw_10
        refine lv_if_ne (tgt := 45) hx hb dX11_doors_36 (by decide) (fun c_11 => ?_) (fun c_11 => ?_)
        · refine lv_aload_n hx hb dX11_doors_45 rfl (lv_at hl 0 rfl) ?_
          refine va_get (D := D) (ci := 11) (v := .ref h_11) (C := RX11) (T := TX11) (N := 15) hx hb hg inX11 hown hK hP 0 rfl rfl 11 (by decide) (hg _ wd_694) (fun _ h9 => h9) rfl dX11_doors_46 ?_
          refine va_get (D := D) (ci := 2) (v := .ref h_11_0) (C := RX2) (T := TX2) (N := 7) hx hb hg inX2 hown hK hP 1 rfl rfl 0 (by decide) (hg _ wd_600) (fun _ h9 => h9) rfl dX11_doors_49 ?_
          refine lv_iload_n hx hb dX11_doors_52 rfl (lv_at hl 1 rfl) ?_
          refine lv_iload_n hx hb dX11_doors_53 rfl (lv_at hl 2 rfl) ?_
          refine va_iast hx hb hK hP hD hS 2 1 rfl rfl (bw_in (by assumption) (by decide)) dX11_doors_54 (fun H locs hP hD hS => ?_)
          obtain ⟨f_12, ef_12⟩ : ∃ z : Nat → Int32, z = upd f a1.toNatClampNeg a2 := ⟨_, rfl⟩
          have hP : va_P D vwCl [(h, .inr (11, [.ref h_0, .ref h_1, .ref h_2, .ref h_3, .ref h_4, .ref h_5, .ref h_6, .ref h_7, .ref h_8, .ref h_9, .ref h_10, .ref h_11, .ref h_12, .int h_13, .int h_14])), (h_11, .inr (2, [.ref h_11_0, .ref h_11_1, .ref h_11_2, .ref h_11_3, .ref h_11_4, .long h_11_5, .long h_11_6])), (h_11_0, .inl (ct 1, 20, .inl f_12)), (h_11_1, .inl (ct 1, 20, .inl g)), (h_11_2, .inl (ct 1, 20, .inl k))] H := by rw [ef_12]; exact hP
          have hD : va_D A [(h, .inr (11, [.ref h_0, .ref h_1, .ref h_2, .ref h_3, .ref h_4, .ref h_5, .ref h_6, .ref h_7, .ref h_8, .ref h_9, .ref h_10, .ref h_11, .ref h_12, .int h_13, .int h_14])), (h_11, .inr (2, [.ref h_11_0, .ref h_11_1, .ref h_11_2, .ref h_11_3, .ref h_11_4, .long h_11_5, .long h_11_6])), (h_11_0, .inl (ct 1, 20, .inl f_12)), (h_11_1, .inl (ct 1, 20, .inl g)), (h_11_2, .inl (ct 1, 20, .inl k))] := by rw [ef_12]; exact hD
          refine lv_aload_n hx hb dX11_doors_55 rfl (lv_at hl 0 rfl) ?_
          refine va_get (D := D) (ci := 11) (v := .ref h_11) (C := RX11) (T := TX11) (N := 15) hx hb hg inX11 hown hK hP 0 rfl rfl 11 (by decide) (hg _ wd_694) (fun _ h9 => h9) rfl dX11_doors_56 ?_
          refine va_get (D := D) (ci := 2) (v := .ref h_11_1) (C := RX2) (T := TX2) (N := 7) hx hb hg inX2 hown hK hP 1 rfl rfl 1 (by decide) (hg _ wd_602) (fun _ h9 => h9) rfl dX11_doors_59 ?_
          refine lv_iload_n hx hb dX11_doors_62 rfl (lv_at hl 1 rfl) ?_
          refine lv_iload_n hx hb dX11_doors_63 rfl (lv_at hl 3 rfl) ?_
          refine va_iast hx hb hK hP hD hS 3 1 rfl rfl (bw_in (by assumption) (by decide)) dX11_doors_64 (fun H locs hP hD hS => ?_)
          obtain ⟨f_13, ef_13⟩ : ∃ z : Nat → Int32, z = upd g a1.toNatClampNeg a3 := ⟨_, rfl⟩
          have hP : va_P D vwCl [(h, .inr (11, [.ref h_0, .ref h_1, .ref h_2, .ref h_3, .ref h_4, .ref h_5, .ref h_6, .ref h_7, .ref h_8, .ref h_9, .ref h_10, .ref h_11, .ref h_12, .int h_13, .int h_14])), (h_11, .inr (2, [.ref h_11_0, .ref h_11_1, .ref h_11_2, .ref h_11_3, .ref h_11_4, .long h_11_5, .long h_11_6])), (h_11_0, .inl (ct 1, 20, .inl f_12)), (h_11_1, .inl (ct 1, 20, .inl f_13)), (h_11_2, .inl (ct 1, 20, .inl k))] H := by rw [ef_13]; exact hP
          have hD : va_D A [(h, .inr (11, [.ref h_0, .ref h_1, .ref h_2, .ref h_3, .ref h_4, .ref h_5, .ref h_6, .ref h_7, .ref h_8, .ref h_9, .ref h_10, .ref h_11, .ref h_12, .int h_13, .int h_14])), (h_11, .inr (2, [.ref h_11_0, .ref h_11_1, .ref h_11_2, .ref h_11_3, .ref h_11_4, .long h_11_5, .long h_11_6])), (h_11_0, .inl (ct 1, 20, .inl f_12)), (h_11_1, .inl (ct 1, 20, .inl f_13)), (h_11_2, .inl (ct 1, 20, .inl k))] := by rw [ef_13]; exact hD
          refine lv_aload_n hx hb dX11_doors_65 rfl (lv_at hl 0 rfl) ?_
          refine va_get (D := D) (ci := 11) (v := .ref h_11) (C := RX11) (T := TX11) (N := 15) hx hb hg inX11 hown hK hP 0 rfl rfl 11 (by decide) (hg _ wd_694) (fun _ h9 => h9) rfl dX11_doors_66 ?_
          refine va_get (D := D) (ci := 2) (v := .ref h_11_2) (C := RX2) (T := TX2) (N := 7) hx hb hg inX2 hown hK hP 1 rfl rfl 2 (by decide) (hg _ wd_604) (fun _ h9 => h9) rfl dX11_doors_69 ?_
          refine lv_iload_n hx hb dX11_doors_72 rfl (lv_at hl 1 rfl) ?_
          refine lv_iload hx hb dX11_doors_73 (lv_at hl 4 rfl) ?_
          refine va_iast hx hb hK hP hD hS 4 1 rfl rfl (bw_in (by assumption) (by decide)) dX11_doors_75 (fun H locs hP hD hS => ?_)
          obtain ⟨f_14, ef_14⟩ : ∃ z : Nat → Int32, z = upd k a1.toNatClampNeg a4 := ⟨_, rfl⟩
          have hP : va_P D vwCl [(h, .inr (11, [.ref h_0, .ref h_1, .ref h_2, .ref h_3, .ref h_4, .ref h_5, .ref h_6, .ref h_7, .ref h_8, .ref h_9, .ref h_10, .ref h_11, .ref h_12, .int h_13, .int h_14])), (h_11, .inr (2, [.ref h_11_0, .ref h_11_1, .ref h_11_2, .ref h_11_3, .ref h_11_4, .long h_11_5, .long h_11_6])), (h_11_0, .inl (ct 1, 20, .inl f_12)), (h_11_1, .inl (ct 1, 20, .inl f_13)), (h_11_2, .inl (ct 1, 20, .inl f_14))] H := by rw [ef_14]; exact hP
          have hD : va_D A [(h, .inr (11, [.ref h_0, .ref h_1, .ref h_2, .ref h_3, .ref h_4, .ref h_5, .ref h_6, .ref h_7, .ref h_8, .ref h_9, .ref h_10, .ref h_11, .ref h_12, .int h_13, .int h_14])), (h_11, .inr (2, [.ref h_11_0, .ref h_11_1, .ref h_11_2, .ref h_11_3, .ref h_11_4, .long h_11_5, .long h_11_6])), (h_11_0, .inl (ct 1, 20, .inl f_12)), (h_11_1, .inl (ct 1, 20, .inl f_13)), (h_11_2, .inl (ct 1, 20, .inl f_14))] := by rw [ef_14]; exact hD
          refine lv_aload_n hx hb dX11_doors_76 rfl (lv_at hl 0 rfl) ?_
          refine lv_iconst (v := 0) hx hb dX11_doors_77 (by decide) ?_
          have hPc := hP.sub (ws' := [(h, .inr (11, [.ref h_0, .ref h_1, .ref h_2, .ref h_3, .ref h_4, .ref h_5, .ref h_6, .ref h_7, .ref h_8, .ref h_9, .ref h_10, .ref h_11, .ref h_12, .int h_13, .int h_14]))]) [0] rfl
          have hDc := hD.sub (ws' := [(h, .inr (11, [.ref h_0, .ref h_1, .ref h_2, .ref h_3, .ref h_4, .ref h_5, .ref h_6, .ref h_7, .ref h_8, .ref h_9, .ref h_10, .ref h_11, .ref h_12, .int h_13, .int h_14]))]) [0] (by decide) rfl
          have hFc := va_free (wc := [(h, .inr (11, [.ref h_0, .ref h_1, .ref h_2, .ref h_3, .ref h_4, .ref h_5, .ref h_6, .ref h_7, .ref h_8, .ref h_9, .ref h_10, .ref h_11, .ref h_12, .int h_13, .int h_14]))]) hD hS hA [0] rfl
          refine va_calli (va_runV (As := [.int 0]) (rest := []) ⟨hx, hb, hml, hown, hg⟩ (c_accept l D ct h 0 h_0 h_1 h_2 h_3 h_4 h_5 h_6 h_7 h_8 h_9 h_10 h_11 h_12 h_13 h_14 H.size ) (cwV 1 hg (gd_V wd_805 wd_807 wd_5 wd_107 wd_808) rfl rfl rfl (by decide +kernel) ⟨Nat.le_of_ble_eq_true rfl, Nat.le_of_ble_eq_true rfl⟩) (Wd_V hPc hKK hDc (va_recv hK hPc (ci := 11) (q0 := 0) rfl rfl)) rfl rfl hl.1 rfl (lv_room (Nat.le_of_ble_eq_true rfl)) dX11_doors_78 ⟨Nat.le_of_ble_eq_true rfl, Nat.le_of_ble_eq_true rfl⟩) hS (fun q _ h => hFc q h) hFc (fun r_15 u_15 t_15 H1 locs ht_15 hvm_15 hw_15 hB_15 hz_15 hk_15 hS => ?_)
          obtain ⟨hP, hD⟩ := va_join (wr := [(h_11, .inr (2, [.ref h_11_0, .ref h_11_1, .ref h_11_2, .ref h_11_3, .ref h_11_4, .long h_11_5, .long h_11_6])), (h_11_0, .inl (ct 1, 20, .inl f_12)), (h_11_1, .inl (ct 1, 20, .inl f_13)), (h_11_2, .inl (ct 1, 20, .inl f_14))]) (w1 := []) hP hD [0] [1, 2, 3, 4] rfl rfl (by decide) (by decide) hk_15 hFc (fun k q h => by simp at h) ⟨fun i j p q h => by simp at h, fun k q h => by simp at h⟩
          generalize H1 = H at hP hS ⊢
          have hP : va_P D vwCl [(h_11, .inr (2, [.ref h_11_0, .ref h_11_1, .ref h_11_2, .ref h_11_3, .ref h_11_4, .long h_11_5, .long h_11_6])), (h_11_0, .inl (ct 1, 20, .inl f_12)), (h_11_1, .inl (ct 1, 20, .inl f_13)), (h_11_2, .inl (ct 1, 20, .inl f_14))] H := hP
          have hD : va_D A [(h_11, .inr (2, [.ref h_11_0, .ref h_11_1, .ref h_11_2, .ref h_11_3, .ref h_11_4, .long h_11_5, .long h_11_6])), (h_11_0, .inl (ct 1, 20, .inl f_12)), (h_11_1, .inl (ct 1, 20, .inl f_13)), (h_11_2, .inl (ct 1, 20, .inl f_14))] := hD
          subst hw_15
          exact W.iret (v := 0) hx hb hr (fun t ht hW => ⟨⟨0, (), rfl, (by simp [sp_doors, c_2, c_5, c_8, c_11]), trivial⟩, hS.F ht⟩) hS.2.2 dX11_doors_81
        · refine lv_aload_n hx hb dX11_doors_39 rfl (lv_at hl 0 rfl) ?_
          refine lv_iconst (v := (-1)) hx hb dX11_doors_40 (by decide) ?_
          have hPc := hP.sub (ws' := [(h, .inr (11, [.ref h_0, .ref h_1, .ref h_2, .ref h_3, .ref h_4, .ref h_5, .ref h_6, .ref h_7, .ref h_8, .ref h_9, .ref h_10, .ref h_11, .ref h_12, .int h_13, .int h_14]))]) [0] rfl
          have hDc := hD.sub (ws' := [(h, .inr (11, [.ref h_0, .ref h_1, .ref h_2, .ref h_3, .ref h_4, .ref h_5, .ref h_6, .ref h_7, .ref h_8, .ref h_9, .ref h_10, .ref h_11, .ref h_12, .int h_13, .int h_14]))]) [0] (by decide) rfl
          have hFc := va_free (wc := [(h, .inr (11, [.ref h_0, .ref h_1, .ref h_2, .ref h_3, .ref h_4, .ref h_5, .ref h_6, .ref h_7, .ref h_8, .ref h_9, .ref h_10, .ref h_11, .ref h_12, .int h_13, .int h_14]))]) hD hS hA [0] rfl
          refine va_calli (va_runV (As := [.int (-1)]) (rest := []) ⟨hx, hb, hml, hown, hg⟩ (c_refuse l D ct h (-1) h_0 h_1 h_2 h_3 h_4 h_5 h_6 h_7 h_8 h_9 h_10 h_11 h_12 h_13 h_14 s.heap.size ) (cwV 1 hg (gd_V wd_778 wd_780 wd_3 wd_107 wd_781) rfl rfl rfl (by decide +kernel) ⟨Nat.le_of_ble_eq_true rfl, Nat.le_of_ble_eq_true rfl⟩) (Wd_V hPc hKK hDc (va_recv hK hPc (ci := 11) (q0 := 0) rfl rfl)) rfl rfl hl.1 rfl (lv_room (Nat.le_of_ble_eq_true rfl)) dX11_doors_41 ⟨Nat.le_of_ble_eq_true rfl, Nat.le_of_ble_eq_true rfl⟩) hS (fun q _ h => hFc q h) hFc (fun r_16 u_16 t_16 H1 locs ht_16 hvm_16 hw_16 hB_16 hz_16 hk_16 hS => ?_)
          obtain ⟨hP, hD⟩ := va_join (wr := [(h_11, .inr (2, [.ref h_11_0, .ref h_11_1, .ref h_11_2, .ref h_11_3, .ref h_11_4, .long h_11_5, .long h_11_6])), (h_11_0, .inl (ct 1, 20, .inl f)), (h_11_1, .inl (ct 1, 20, .inl g)), (h_11_2, .inl (ct 1, 20, .inl k))]) (w1 := []) hP hD [0] [1, 2, 3, 4] rfl rfl (by decide) (by decide) hk_16 hFc (fun k q h => by simp at h) ⟨fun i j p q h => by simp at h, fun k q h => by simp at h⟩
          generalize H1 = H at hP hS ⊢
          have hP : va_P D vwCl [(h_11, .inr (2, [.ref h_11_0, .ref h_11_1, .ref h_11_2, .ref h_11_3, .ref h_11_4, .long h_11_5, .long h_11_6])), (h_11_0, .inl (ct 1, 20, .inl f)), (h_11_1, .inl (ct 1, 20, .inl g)), (h_11_2, .inl (ct 1, 20, .inl k))] H := hP
          have hD : va_D A [(h_11, .inr (2, [.ref h_11_0, .ref h_11_1, .ref h_11_2, .ref h_11_3, .ref h_11_4, .long h_11_5, .long h_11_6])), (h_11_0, .inl (ct 1, 20, .inl f)), (h_11_1, .inl (ct 1, 20, .inl g)), (h_11_2, .inl (ct 1, 20, .inl k))] := hD
          subst hw_16
          exact W.iret (v := (-1)) hx hb hr (fun t ht hW => ⟨⟨(-1), (), rfl, (by simp [sp_doors, c_2, c_5, c_8, c_11]), trivial⟩, hS.F ht⟩) hS.2.2 dX11_doors_44
end
