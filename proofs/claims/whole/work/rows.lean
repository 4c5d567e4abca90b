section
-- ===== PART A: goes FIRST, ahead of the names: the tables' words, and 'selects' of the private methods out of them =====
/-- a private method of a class that the tables say can be made, by its rows of tables_1 -/
def lw_okq (q : MethodName × Nat) : Prop := (q.1.cls ≠ "java/lang/invoke/MethodHandle" ∧ q.1.cls ≠ "java/lang/invoke/VarHandle") ∧ Cond.instantiable q.1.cls q.2 ∈ tables_1 ∧ Cond.privateMethod q.1 ∈ tables_1 ∧ Cond.instanceMethod q.1 ∈ tables_1
theorem lw_p0 : lw_okq (⟨"ShuffledViews$Text", "letterAt", "(I)I"⟩, 5) := ⟨⟨by decide +kernel, by decide +kernel⟩, List.mem_of_getElem? (i := 26) (by decide +kernel), List.mem_of_getElem? (i := 291) (by decide +kernel), List.mem_of_getElem? (i := 292) (by decide +kernel)⟩
theorem lw_p1 : lw_okq (⟨"ShuffledViews$Text", "kindAt", "(I)I"⟩, 5) := ⟨⟨by decide +kernel, by decide +kernel⟩, List.mem_of_getElem? (i := 26) (by decide +kernel), List.mem_of_getElem? (i := 295) (by decide +kernel), List.mem_of_getElem? (i := 296) (by decide +kernel)⟩
theorem lw_p2 : lw_okq (⟨"ShuffledViews$Clauses", "readClause", "(LShuffledViews$Text;I)Z"⟩, 4) := ⟨⟨by decide +kernel, by decide +kernel⟩, List.mem_of_getElem? (i := 52) (by decide +kernel), List.mem_of_getElem? (i := 300) (by decide +kernel), List.mem_of_getElem? (i := 301) (by decide +kernel)⟩
theorem lw_p3 : lw_okq (⟨"ShuffledViews$Clauses", "fits", "(III)Z"⟩, 4) := ⟨⟨by decide +kernel, by decide +kernel⟩, List.mem_of_getElem? (i := 52) (by decide +kernel), List.mem_of_getElem? (i := 371) (by decide +kernel), List.mem_of_getElem? (i := 372) (by decide +kernel)⟩
theorem lw_p4 : lw_okq (⟨"ShuffledViews$Clauses", "formAt", "(I)I"⟩, 4) := ⟨⟨by decide +kernel, by decide +kernel⟩, List.mem_of_getElem? (i := 52) (by decide +kernel), List.mem_of_getElem? (i := 375) (by decide +kernel), List.mem_of_getElem? (i := 376) (by decide +kernel)⟩
theorem lw_p5 : lw_okq (⟨"ShuffledViews$Clauses", "mostOfNet", "(II)I"⟩, 4) := ⟨⟨by decide +kernel, by decide +kernel⟩, List.mem_of_getElem? (i := 52) (by decide +kernel), List.mem_of_getElem? (i := 382) (by decide +kernel), List.mem_of_getElem? (i := 383) (by decide +kernel)⟩
theorem lw_p6 : lw_okq (⟨"ShuffledViews$Clauses", "numberOf", "(II)I"⟩, 4) := ⟨⟨by decide +kernel, by decide +kernel⟩, List.mem_of_getElem? (i := 52) (by decide +kernel), List.mem_of_getElem? (i := 386) (by decide +kernel), List.mem_of_getElem? (i := 387) (by decide +kernel)⟩
theorem lw_p7 : lw_okq (⟨"ShuffledViews$Clauses", "doOne", "(LShuffledViews$Net;I)V"⟩, 4) := ⟨⟨by decide +kernel, by decide +kernel⟩, List.mem_of_getElem? (i := 52) (by decide +kernel), List.mem_of_getElem? (i := 399) (by decide +kernel), List.mem_of_getElem? (i := 400) (by decide +kernel)⟩
theorem lw_p8 : lw_okq (⟨"ShuffledViews$View", "isAskedBefore", "(II)Z"⟩, 3) := ⟨⟨by decide +kernel, by decide +kernel⟩, List.mem_of_getElem? (i := 79) (by decide +kernel), List.mem_of_getElem? (i := 510) (by decide +kernel), List.mem_of_getElem? (i := 511) (by decide +kernel)⟩
theorem lw_p9 : lw_okq (⟨"ShuffledViews$Shuffle", "swap", "(LShuffledViews$Net;II)V"⟩, 2) := ⟨⟨by decide +kernel, by decide +kernel⟩, List.mem_of_getElem? (i := 153) (by decide +kernel), List.mem_of_getElem? (i := 516) (by decide +kernel), List.mem_of_getElem? (i := 517) (by decide +kernel)⟩
theorem lw_p10 : lw_okq (⟨"ShuffledViews$Net", "waysOut", "(I)I"⟩, 7) := ⟨⟨by decide +kernel, by decide +kernel⟩, List.mem_of_getElem? (i := 72) (by decide +kernel), List.mem_of_getElem? (i := 636) (by decide +kernel), List.mem_of_getElem? (i := 637) (by decide +kernel)⟩
theorem lw_p11 : lw_okq (⟨"ShuffledViews$Net", "partOf", "(I)I"⟩, 7) := ⟨⟨by decide +kernel, by decide +kernel⟩, List.mem_of_getElem? (i := 72) (by decide +kernel), List.mem_of_getElem? (i := 715) (by decide +kernel), List.mem_of_getElem? (i := 716) (by decide +kernel)⟩
theorem lw_p12 : lw_okq (⟨"ShuffledViews$Net", "waysInto", "(I)I"⟩, 7) := ⟨⟨by decide +kernel, by decide +kernel⟩, List.mem_of_getElem? (i := 72) (by decide +kernel), List.mem_of_getElem? (i := 719) (by decide +kernel), List.mem_of_getElem? (i := 720) (by decide +kernel)⟩
theorem lw_p13 : lw_okq (⟨"ShuffledViews", "ringNumbers", "()I"⟩, 9) := ⟨⟨by decide +kernel, by decide +kernel⟩, List.mem_of_getElem? (i := 18) (by decide +kernel), List.mem_of_getElem? (i := 723) (by decide +kernel), List.mem_of_getElem? (i := 724) (by decide +kernel)⟩
theorem lw_p14 : lw_okq (⟨"ShuffledViewsModel", "anew", "(IIII)V"⟩, 22) := ⟨⟨by decide +kernel, by decide +kernel⟩, List.mem_of_getElem? (i := 727) (by decide +kernel), List.mem_of_getElem? (i := 733) (by decide +kernel), List.mem_of_getElem? (i := 734) (by decide +kernel)⟩
theorem lw_p15 : lw_okq (⟨"ShuffledViewsModel", "put", "(IIII)V"⟩, 22) := ⟨⟨by decide +kernel, by decide +kernel⟩, List.mem_of_getElem? (i := 727) (by decide +kernel), List.mem_of_getElem? (i := 737) (by decide +kernel), List.mem_of_getElem? (i := 738) (by decide +kernel)⟩
def lw_privs_1 : List (MethodName × Nat) := [(⟨"ShuffledViews$Text", "letterAt", "(I)I"⟩, 5), (⟨"ShuffledViews$Text", "kindAt", "(I)I"⟩, 5), (⟨"ShuffledViews$Clauses", "readClause", "(LShuffledViews$Text;I)Z"⟩, 4), (⟨"ShuffledViews$Clauses", "fits", "(III)Z"⟩, 4), (⟨"ShuffledViews$Clauses", "formAt", "(I)I"⟩, 4), (⟨"ShuffledViews$Clauses", "mostOfNet", "(II)I"⟩, 4), (⟨"ShuffledViews$Clauses", "numberOf", "(II)I"⟩, 4), (⟨"ShuffledViews$Clauses", "doOne", "(LShuffledViews$Net;I)V"⟩, 4), (⟨"ShuffledViews$View", "isAskedBefore", "(II)Z"⟩, 3), (⟨"ShuffledViews$Shuffle", "swap", "(LShuffledViews$Net;II)V"⟩, 2), (⟨"ShuffledViews$Net", "waysOut", "(I)I"⟩, 7), (⟨"ShuffledViews$Net", "partOf", "(I)I"⟩, 7), (⟨"ShuffledViews$Net", "waysInto", "(I)I"⟩, 7), (⟨"ShuffledViews", "ringNumbers", "()I"⟩, 9), (⟨"ShuffledViewsModel", "anew", "(IIII)V"⟩, 22), (⟨"ShuffledViewsModel", "put", "(IIII)V"⟩, 22)]
theorem lw_r1 : ∀ q ∈ lw_privs_1, lw_okq q := List.forall_mem_cons.mpr ⟨lw_p0, List.forall_mem_cons.mpr ⟨lw_p1, List.forall_mem_cons.mpr ⟨lw_p2, List.forall_mem_cons.mpr ⟨lw_p3, List.forall_mem_cons.mpr ⟨lw_p4, List.forall_mem_cons.mpr ⟨lw_p5, List.forall_mem_cons.mpr ⟨lw_p6, List.forall_mem_cons.mpr ⟨lw_p7, List.forall_mem_cons.mpr ⟨lw_p8, List.forall_mem_cons.mpr ⟨lw_p9, List.forall_mem_cons.mpr ⟨lw_p10, List.forall_mem_cons.mpr ⟨lw_p11, List.forall_mem_cons.mpr ⟨lw_p12, List.forall_mem_cons.mpr ⟨lw_p13, List.forall_mem_cons.mpr ⟨lw_p14, List.forall_mem_cons.mpr ⟨lw_p15, fun _ h => absurd h List.not_mem_nil⟩⟩⟩⟩⟩⟩⟩⟩⟩⟩⟩⟩⟩⟩⟩⟩
theorem lw_p16 : lw_okq (⟨"ShuffledViewsModel", "reads", "(Z)Z"⟩, 22) := ⟨⟨by decide +kernel, by decide +kernel⟩, List.mem_of_getElem? (i := 727) (by decide +kernel), List.mem_of_getElem? (i := 824) (by decide +kernel), List.mem_of_getElem? (i := 825) (by decide +kernel)⟩
theorem lw_p17 : lw_okq (⟨"ShuffledViewsModel", "nextToken", "()V"⟩, 22) := ⟨⟨by decide +kernel, by decide +kernel⟩, List.mem_of_getElem? (i := 727) (by decide +kernel), List.mem_of_getElem? (i := 828) (by decide +kernel), List.mem_of_getElem? (i := 829) (by decide +kernel)⟩
theorem lw_p18 : lw_okq (⟨"ShuffledViewsModel", "readsClause", "()Z"⟩, 22) := ⟨⟨by decide +kernel, by decide +kernel⟩, List.mem_of_getElem? (i := 727) (by decide +kernel), List.mem_of_getElem? (i := 842) (by decide +kernel), List.mem_of_getElem? (i := 843) (by decide +kernel)⟩
theorem lw_p19 : lw_okq (⟨"ShuffledViewsModel", "wordHere", "()I"⟩, 22) := ⟨⟨by decide +kernel, by decide +kernel⟩, List.mem_of_getElem? (i := 727) (by decide +kernel), List.mem_of_getElem? (i := 846) (by decide +kernel), List.mem_of_getElem? (i := 847) (by decide +kernel)⟩
theorem lw_p20 : lw_okq (⟨"ShuffledViewsModel", "readsRest", "(I)Z"⟩, 22) := ⟨⟨by decide +kernel, by decide +kernel⟩, List.mem_of_getElem? (i := 727) (by decide +kernel), List.mem_of_getElem? (i := 850) (by decide +kernel), List.mem_of_getElem? (i := 851) (by decide +kernel)⟩
theorem lw_p21 : lw_okq (⟨"ShuffledViewsModel", "number", "(IIII)Z"⟩, 22) := ⟨⟨by decide +kernel, by decide +kernel⟩, List.mem_of_getElem? (i := 727) (by decide +kernel), List.mem_of_getElem? (i := 854) (by decide +kernel), List.mem_of_getElem? (i := 855) (by decide +kernel)⟩
theorem lw_p22 : lw_okq (⟨"ShuffledViewsModel", "readsNode", "(II)Z"⟩, 22) := ⟨⟨by decide +kernel, by decide +kernel⟩, List.mem_of_getElem? (i := 727) (by decide +kernel), List.mem_of_getElem? (i := 858) (by decide +kernel), List.mem_of_getElem? (i := 859) (by decide +kernel)⟩
theorem lw_p23 : lw_okq (⟨"ShuffledViewsModel", "does", "(I)V"⟩, 22) := ⟨⟨by decide +kernel, by decide +kernel⟩, List.mem_of_getElem? (i := 727) (by decide +kernel), List.mem_of_getElem? (i := 862) (by decide +kernel), List.mem_of_getElem? (i := 863) (by decide +kernel)⟩
theorem lw_p24 : lw_okq (⟨"ShuffledViewsModel", "links", "(III)V"⟩, 22) := ⟨⟨by decide +kernel, by decide +kernel⟩, List.mem_of_getElem? (i := 727) (by decide +kernel), List.mem_of_getElem? (i := 866) (by decide +kernel), List.mem_of_getElem? (i := 867) (by decide +kernel)⟩
theorem lw_p25 : lw_okq (⟨"ShuffledViewsModel", "placeOf", "(III)I"⟩, 22) := ⟨⟨by decide +kernel, by decide +kernel⟩, List.mem_of_getElem? (i := 727) (by decide +kernel), List.mem_of_getElem? (i := 870) (by decide +kernel), List.mem_of_getElem? (i := 871) (by decide +kernel)⟩
theorem lw_p26 : lw_okq (⟨"ShuffledViewsModel", "replace", "(IIIII)V"⟩, 22) := ⟨⟨by decide +kernel, by decide +kernel⟩, List.mem_of_getElem? (i := 727) (by decide +kernel), List.mem_of_getElem? (i := 874) (by decide +kernel), List.mem_of_getElem? (i := 875) (by decide +kernel)⟩
theorem lw_p27 : lw_okq (⟨"ShuffledViewsModel", "strike", "(III)V"⟩, 22) := ⟨⟨by decide +kernel, by decide +kernel⟩, List.mem_of_getElem? (i := 727) (by decide +kernel), List.mem_of_getElem? (i := 878) (by decide +kernel), List.mem_of_getElem? (i := 879) (by decide +kernel)⟩
theorem lw_p28 : lw_okq (⟨"ShuffledViewsModel", "isNode", "(I)Z"⟩, 22) := ⟨⟨by decide +kernel, by decide +kernel⟩, List.mem_of_getElem? (i := 727) (by decide +kernel), List.mem_of_getElem? (i := 890) (by decide +kernel), List.mem_of_getElem? (i := 891) (by decide +kernel)⟩
theorem lw_p29 : lw_okq (⟨"ShuffledViewsModel", "isDead", "(II)Z"⟩, 22) := ⟨⟨by decide +kernel, by decide +kernel⟩, List.mem_of_getElem? (i := 727) (by decide +kernel), List.mem_of_getElem? (i := 894) (by decide +kernel), List.mem_of_getElem? (i := 895) (by decide +kernel)⟩
theorem lw_p30 : lw_okq (⟨"ShuffledViewsModel", "known", "(II)I"⟩, 22) := ⟨⟨by decide +kernel, by decide +kernel⟩, List.mem_of_getElem? (i := 727) (by decide +kernel), List.mem_of_getElem? (i := 901) (by decide +kernel), List.mem_of_getElem? (i := 902) (by decide +kernel)⟩
theorem lw_p31 : lw_okq (⟨"ShuffledViewsModel", "viewOf", "(I)I"⟩, 22) := ⟨⟨by decide +kernel, by decide +kernel⟩, List.mem_of_getElem? (i := 727) (by decide +kernel), List.mem_of_getElem? (i := 905) (by decide +kernel), List.mem_of_getElem? (i := 906) (by decide +kernel)⟩
def lw_privs_2 : List (MethodName × Nat) := [(⟨"ShuffledViewsModel", "reads", "(Z)Z"⟩, 22), (⟨"ShuffledViewsModel", "nextToken", "()V"⟩, 22), (⟨"ShuffledViewsModel", "readsClause", "()Z"⟩, 22), (⟨"ShuffledViewsModel", "wordHere", "()I"⟩, 22), (⟨"ShuffledViewsModel", "readsRest", "(I)Z"⟩, 22), (⟨"ShuffledViewsModel", "number", "(IIII)Z"⟩, 22), (⟨"ShuffledViewsModel", "readsNode", "(II)Z"⟩, 22), (⟨"ShuffledViewsModel", "does", "(I)V"⟩, 22), (⟨"ShuffledViewsModel", "links", "(III)V"⟩, 22), (⟨"ShuffledViewsModel", "placeOf", "(III)I"⟩, 22), (⟨"ShuffledViewsModel", "replace", "(IIIII)V"⟩, 22), (⟨"ShuffledViewsModel", "strike", "(III)V"⟩, 22), (⟨"ShuffledViewsModel", "isNode", "(I)Z"⟩, 22), (⟨"ShuffledViewsModel", "isDead", "(II)Z"⟩, 22), (⟨"ShuffledViewsModel", "known", "(II)I"⟩, 22), (⟨"ShuffledViewsModel", "viewOf", "(I)I"⟩, 22)]
theorem lw_r2 : ∀ q ∈ lw_privs_2, lw_okq q := List.forall_mem_cons.mpr ⟨lw_p16, List.forall_mem_cons.mpr ⟨lw_p17, List.forall_mem_cons.mpr ⟨lw_p18, List.forall_mem_cons.mpr ⟨lw_p19, List.forall_mem_cons.mpr ⟨lw_p20, List.forall_mem_cons.mpr ⟨lw_p21, List.forall_mem_cons.mpr ⟨lw_p22, List.forall_mem_cons.mpr ⟨lw_p23, List.forall_mem_cons.mpr ⟨lw_p24, List.forall_mem_cons.mpr ⟨lw_p25, List.forall_mem_cons.mpr ⟨lw_p26, List.forall_mem_cons.mpr ⟨lw_p27, List.forall_mem_cons.mpr ⟨lw_p28, List.forall_mem_cons.mpr ⟨lw_p29, List.forall_mem_cons.mpr ⟨lw_p30, List.forall_mem_cons.mpr ⟨lw_p31, fun _ h => absurd h List.not_mem_nil⟩⟩⟩⟩⟩⟩⟩⟩⟩⟩⟩⟩⟩⟩⟩⟩
theorem lw_p32 : lw_okq (⟨"ShuffledViewsModel", "keepPast", "()V"⟩, 22) := ⟨⟨by decide +kernel, by decide +kernel⟩, List.mem_of_getElem? (i := 727) (by decide +kernel), List.mem_of_getElem? (i := 917) (by decide +kernel), List.mem_of_getElem? (i := 918) (by decide +kernel)⟩
theorem lw_p33 : lw_okq (⟨"ShuffledViewsModel", "copyRow", "(II)V"⟩, 22) := ⟨⟨by decide +kernel, by decide +kernel⟩, List.mem_of_getElem? (i := 727) (by decide +kernel), List.mem_of_getElem? (i := 921) (by decide +kernel), List.mem_of_getElem? (i := 922) (by decide +kernel)⟩
theorem lw_p34 : lw_okq (⟨"ShuffledViewsModel", "rounds", "(II)I"⟩, 22) := ⟨⟨by decide +kernel, by decide +kernel⟩, List.mem_of_getElem? (i := 727) (by decide +kernel), List.mem_of_getElem? (i := 925) (by decide +kernel), List.mem_of_getElem? (i := 926) (by decide +kernel)⟩
theorem lw_p35 : lw_okq (⟨"ShuffledViewsModel", "ages", "(II)V"⟩, 22) := ⟨⟨by decide +kernel, by decide +kernel⟩, List.mem_of_getElem? (i := 727) (by decide +kernel), List.mem_of_getElem? (i := 929) (by decide +kernel), List.mem_of_getElem? (i := 930) (by decide +kernel)⟩
theorem lw_p36 : lw_okq (⟨"ShuffledViewsModel", "oldest", "(II)I"⟩, 22) := ⟨⟨by decide +kernel, by decide +kernel⟩, List.mem_of_getElem? (i := 727) (by decide +kernel), List.mem_of_getElem? (i := 933) (by decide +kernel), List.mem_of_getElem? (i := 934) (by decide +kernel)⟩
theorem lw_p37 : lw_okq (⟨"ShuffledViewsModel", "send", "(III)V"⟩, 22) := ⟨⟨by decide +kernel, by decide +kernel⟩, List.mem_of_getElem? (i := 727) (by decide +kernel), List.mem_of_getElem? (i := 937) (by decide +kernel), List.mem_of_getElem? (i := 938) (by decide +kernel)⟩
theorem lw_p38 : lw_okq (⟨"ShuffledViewsModel", "sends", "(III)V"⟩, 22) := ⟨⟨by decide +kernel, by decide +kernel⟩, List.mem_of_getElem? (i := 727) (by decide +kernel), List.mem_of_getElem? (i := 941) (by decide +kernel), List.mem_of_getElem? (i := 942) (by decide +kernel)⟩
theorem lw_p39 : lw_okq (⟨"ShuffledViewsModel", "draw", "(II)I"⟩, 22) := ⟨⟨by decide +kernel, by decide +kernel⟩, List.mem_of_getElem? (i := 727) (by decide +kernel), List.mem_of_getElem? (i := 945) (by decide +kernel), List.mem_of_getElem? (i := 946) (by decide +kernel)⟩
theorem lw_p40 : lw_okq (⟨"ShuffledViewsModel", "isSent", "(II)Z"⟩, 22) := ⟨⟨by decide +kernel, by decide +kernel⟩, List.mem_of_getElem? (i := 727) (by decide +kernel), List.mem_of_getElem? (i := 950) (by decide +kernel), List.mem_of_getElem? (i := 951) (by decide +kernel)⟩
theorem lw_p41 : lw_okq (⟨"ShuffledViewsModel", "takes", "(III)V"⟩, 22) := ⟨⟨by decide +kernel, by decide +kernel⟩, List.mem_of_getElem? (i := 727) (by decide +kernel), List.mem_of_getElem? (i := 954) (by decide +kernel), List.mem_of_getElem? (i := 955) (by decide +kernel)⟩
theorem lw_p42 : lw_okq (⟨"ShuffledViewsModel", "giveUp", "(III)I"⟩, 22) := ⟨⟨by decide +kernel, by decide +kernel⟩, List.mem_of_getElem? (i := 727) (by decide +kernel), List.mem_of_getElem? (i := 958) (by decide +kernel), List.mem_of_getElem? (i := 959) (by decide +kernel)⟩
theorem lw_p43 : lw_okq (⟨"ShuffledViewsModel", "cycles", "(I)V"⟩, 22) := ⟨⟨by decide +kernel, by decide +kernel⟩, List.mem_of_getElem? (i := 727) (by decide +kernel), List.mem_of_getElem? (i := 967) (by decide +kernel), List.mem_of_getElem? (i := 968) (by decide +kernel)⟩
theorem lw_p44 : lw_okq (⟨"ShuffledViewsModel", "entries", "()I"⟩, 22) := ⟨⟨by decide +kernel, by decide +kernel⟩, List.mem_of_getElem? (i := 727) (by decide +kernel), List.mem_of_getElem? (i := 971) (by decide +kernel), List.mem_of_getElem? (i := 972) (by decide +kernel)⟩
theorem lw_p45 : lw_okq (⟨"ShuffledViewsModel", "alive", "(I)I"⟩, 22) := ⟨⟨by decide +kernel, by decide +kernel⟩, List.mem_of_getElem? (i := 727) (by decide +kernel), List.mem_of_getElem? (i := 979) (by decide +kernel), List.mem_of_getElem? (i := 980) (by decide +kernel)⟩
theorem lw_p46 : lw_okq (⟨"ShuffledViewsModel", "extreme", "(IZ)I"⟩, 22) := ⟨⟨by decide +kernel, by decide +kernel⟩, List.mem_of_getElem? (i := 727) (by decide +kernel), List.mem_of_getElem? (i := 1015) (by decide +kernel), List.mem_of_getElem? (i := 1016) (by decide +kernel)⟩
theorem lw_p47 : lw_okq (⟨"ShuffledViewsModel", "goesOn", "(I)V"⟩, 22) := ⟨⟨by decide +kernel, by decide +kernel⟩, List.mem_of_getElem? (i := 727) (by decide +kernel), List.mem_of_getElem? (i := 1042) (by decide +kernel), List.mem_of_getElem? (i := 1043) (by decide +kernel)⟩
def lw_privs_3 : List (MethodName × Nat) := [(⟨"ShuffledViewsModel", "keepPast", "()V"⟩, 22), (⟨"ShuffledViewsModel", "copyRow", "(II)V"⟩, 22), (⟨"ShuffledViewsModel", "rounds", "(II)I"⟩, 22), (⟨"ShuffledViewsModel", "ages", "(II)V"⟩, 22), (⟨"ShuffledViewsModel", "oldest", "(II)I"⟩, 22), (⟨"ShuffledViewsModel", "send", "(III)V"⟩, 22), (⟨"ShuffledViewsModel", "sends", "(III)V"⟩, 22), (⟨"ShuffledViewsModel", "draw", "(II)I"⟩, 22), (⟨"ShuffledViewsModel", "isSent", "(II)Z"⟩, 22), (⟨"ShuffledViewsModel", "takes", "(III)V"⟩, 22), (⟨"ShuffledViewsModel", "giveUp", "(III)I"⟩, 22), (⟨"ShuffledViewsModel", "cycles", "(I)V"⟩, 22), (⟨"ShuffledViewsModel", "entries", "()I"⟩, 22), (⟨"ShuffledViewsModel", "alive", "(I)I"⟩, 22), (⟨"ShuffledViewsModel", "extreme", "(IZ)I"⟩, 22), (⟨"ShuffledViewsModel", "goesOn", "(I)V"⟩, 22)]
theorem lw_r3 : ∀ q ∈ lw_privs_3, lw_okq q := List.forall_mem_cons.mpr ⟨lw_p32, List.forall_mem_cons.mpr ⟨lw_p33, List.forall_mem_cons.mpr ⟨lw_p34, List.forall_mem_cons.mpr ⟨lw_p35, List.forall_mem_cons.mpr ⟨lw_p36, List.forall_mem_cons.mpr ⟨lw_p37, List.forall_mem_cons.mpr ⟨lw_p38, List.forall_mem_cons.mpr ⟨lw_p39, List.forall_mem_cons.mpr ⟨lw_p40, List.forall_mem_cons.mpr ⟨lw_p41, List.forall_mem_cons.mpr ⟨lw_p42, List.forall_mem_cons.mpr ⟨lw_p43, List.forall_mem_cons.mpr ⟨lw_p44, List.forall_mem_cons.mpr ⟨lw_p45, List.forall_mem_cons.mpr ⟨lw_p46, List.forall_mem_cons.mpr ⟨lw_p47, fun _ h => absurd h List.not_mem_nil⟩⟩⟩⟩⟩⟩⟩⟩⟩⟩⟩⟩⟩⟩⟩⟩
theorem lw_p48 : lw_okq (⟨"ShuffledViewsModel", "takesOne", "(I)I"⟩, 22) := ⟨⟨by decide +kernel, by decide +kernel⟩, List.mem_of_getElem? (i := 727) (by decide +kernel), List.mem_of_getElem? (i := 1050) (by decide +kernel), List.mem_of_getElem? (i := 1051) (by decide +kernel)⟩
theorem lw_p49 : lw_okq (⟨"ShuffledViewsModel", "parts", "()I"⟩, 22) := ⟨⟨by decide +kernel, by decide +kernel⟩, List.mem_of_getElem? (i := 727) (by decide +kernel), List.mem_of_getElem? (i := 1072) (by decide +kernel), List.mem_of_getElem? (i := 1073) (by decide +kernel)⟩
theorem lw_p50 : lw_okq (⟨"ShuffledViewsModel", "allNumbers", "()I"⟩, 22) := ⟨⟨by decide +kernel, by decide +kernel⟩, List.mem_of_getElem? (i := 727) (by decide +kernel), List.mem_of_getElem? (i := 1076) (by decide +kernel), List.mem_of_getElem? (i := 1077) (by decide +kernel)⟩
def lw_privs_4 : List (MethodName × Nat) := [(⟨"ShuffledViewsModel", "takesOne", "(I)I"⟩, 22), (⟨"ShuffledViewsModel", "parts", "()I"⟩, 22), (⟨"ShuffledViewsModel", "allNumbers", "()I"⟩, 22)]
theorem lw_r4 : ∀ q ∈ lw_privs_4, lw_okq q := List.forall_mem_cons.mpr ⟨lw_p48, List.forall_mem_cons.mpr ⟨lw_p49, List.forall_mem_cons.mpr ⟨lw_p50, fun _ h => absurd h List.not_mem_nil⟩⟩⟩
def lw_privs : List (MethodName × Nat) := lw_privs_1 ++ (lw_privs_2 ++ (lw_privs_3 ++ (lw_privs_4)))
def lw_tbl : List Cond := k2_sels lw_privs ++ tables_1
theorem lw_privs_ok : ∀ q ∈ lw_privs, lw_okq q := by
  show ∀ q ∈ lw_privs_1 ++ (lw_privs_2 ++ (lw_privs_3 ++ (lw_privs_4))), lw_okq q
  exact List.forall_mem_append.mpr ⟨lw_r1, List.forall_mem_append.mpr ⟨lw_r2, List.forall_mem_append.mpr ⟨lw_r3, lw_r4⟩⟩⟩
-- ===== end of PART A; then your names; then what follows =====
end
section
def RX0 : String := "ShuffledViews$Clauses"
def TX0 : u_T := fun k => match k with
  | 0 => ("ShuffledViews$Clauses", "forms", "[I", true)
  | 1 => ("ShuffledViews$Clauses", "numbers", "[I", true)
  | 2 => ("ShuffledViews$Clauses", "size", "I", false)
  | _ => ("ShuffledViews$Clauses", "nodesThen", "I", false)
def tyX0 : Nat → FieldType := fun k => match k with
  | 0 => .array .int
  | 1 => .array .int
  | 2 => .int
  | _ => .int
abbrev wsX00 : List Cond := u_ws RX0 TX0 4
theorem nmX0 : ∀ a, a < 4 → ∀ b, b < 4 → a ≠ b → (TX0 a).2.1 ≠ (TX0 b).2.1 := by decide +kernel
theorem tyX0_ok : ∀ k, k < 4 → parseFieldDescriptor (TX0 k).2.2.1 = some (tyX0 k) := by decide +kernel
abbrev cX0_init : ByteArray := prog_2_method_1_code
def yX0_init : MethodName := ⟨RX0, "<init>", "()V"⟩
abbrev cX0_read : ByteArray := prog_2_method_2_code
def yX0_read : MethodName := ⟨RX0, "read", "(LShuffledViews$Text;I)I"⟩
abbrev cX0_readClause : ByteArray := prog_2_method_3_code
def yX0_readClause : MethodName := ⟨RX0, "readClause", "(LShuffledViews$Text;I)Z"⟩
abbrev cX0_fits : ByteArray := prog_2_method_4_code
def yX0_fits : MethodName := ⟨RX0, "fits", "(III)Z"⟩
abbrev cX0_leastOfNet : ByteArray := prog_2_method_5_code
def yX0_leastOfNet : MethodName := ⟨RX0, "leastOfNet", "(I)I"⟩
abbrev cX0_mostOfNet : ByteArray := prog_2_method_6_code
def yX0_mostOfNet : MethodName := ⟨RX0, "mostOfNet", "(II)I"⟩
abbrev cX0_formOf : ByteArray := prog_2_method_7_code
def yX0_formOf : MethodName := ⟨RX0, "formOf", "(LShuffledViews$Text;)I"⟩
abbrev cX0_numbersOf : ByteArray := prog_2_method_8_code
def yX0_numbersOf : MethodName := ⟨RX0, "numbersOf", "(I)I"⟩
abbrev cX0_formAt : ByteArray := prog_2_method_9_code
def yX0_formAt : MethodName := ⟨RX0, "formAt", "(I)I"⟩
abbrev cX0_numberOf : ByteArray := prog_2_method_10_code
def yX0_numberOf : MethodName := ⟨RX0, "numberOf", "(II)I"⟩
abbrev cX0_doAll : ByteArray := prog_2_method_11_code
def yX0_doAll : MethodName := ⟨RX0, "doAll", "(LShuffledViews$Net;)V"⟩
abbrev cX0_doOne : ByteArray := prog_2_method_12_code
def yX0_doOne : MethodName := ⟨RX0, "doOne", "(LShuffledViews$Net;I)V"⟩
def RX1 : String := "ShuffledViews$Net"
def TX1 : u_T := fun k => match k with
  | 0 => ("ShuffledViews$Net", "views", "[LShuffledViews$View;", true)
  | 1 => ("ShuffledViews$Net", "nodes", "I", false)
  | 2 => ("ShuffledViews$Net", "room", "I", false)
  | 3 => ("ShuffledViews$Net", "slice", "I", false)
  | 4 => ("ShuffledViews$Net", "draws", "I", false)
  | 5 => ("ShuffledViews$Net", "alive", "I", false)
  | _ => ("ShuffledViews$Net", "sly", "I", false)
def tyX1 : Nat → FieldType := fun k => match k with
  | 0 => .array (.object "ShuffledViews$View")
  | 1 => .int
  | 2 => .int
  | 3 => .int
  | 4 => .int
  | 5 => .int
  | _ => .int
abbrev wsX10 : List Cond := u_ws RX1 TX1 7
theorem nmX1 : ∀ a, a < 7 → ∀ b, b < 7 → a ≠ b → (TX1 a).2.1 ≠ (TX1 b).2.1 := by decide +kernel
theorem tyX1_ok : ∀ k, k < 7 → parseFieldDescriptor (TX1 k).2.2.1 = some (tyX1 k) := by decide +kernel
abbrev cX1_init : ByteArray := prog_3_method_1_code
def yX1_init : MethodName := ⟨RX1, "<init>", "()V"⟩
abbrev cX1_begin : ByteArray := prog_3_method_2_code
def yX1_begin : MethodName := ⟨RX1, "begin", "(IIII)V"⟩
abbrev cX1_copyFrom : ByteArray := prog_3_method_3_code
def yX1_copyFrom : MethodName := ⟨RX1, "copyFrom", "(LShuffledViews$Net;)V"⟩
abbrev cX1_has : ByteArray := prog_3_method_4_code
def yX1_has : MethodName := ⟨RX1, "has", "(I)Z"⟩
abbrev cX1_hasTwo : ByteArray := prog_3_method_5_code
def yX1_hasTwo : MethodName := ⟨RX1, "hasTwo", "(II)Z"⟩
abbrev cX1_isAlive : ByteArray := prog_3_method_6_code
def yX1_isAlive : MethodName := ⟨RX1, "isAlive", "(I)Z"⟩
abbrev cX1_isSly : ByteArray := prog_3_method_7_code
def yX1_isSly : MethodName := ⟨RX1, "isSly", "(I)Z"⟩
abbrev cX1_setAlive : ByteArray := prog_3_method_8_code
def yX1_setAlive : MethodName := ⟨RX1, "setAlive", "(IZ)V"⟩
abbrev cX1_setSly : ByteArray := prog_3_method_9_code
def yX1_setSly : MethodName := ⟨RX1, "setSly", "(I)V"⟩
abbrev cX1_putLink : ByteArray := prog_3_method_10_code
def yX1_putLink : MethodName := ⟨RX1, "putLink", "(III)V"⟩
abbrev cX1_cutLink : ByteArray := prog_3_method_11_code
def yX1_cutLink : MethodName := ⟨RX1, "cutLink", "(II)V"⟩
abbrev cX1_draw : ByteArray := prog_3_method_12_code
def yX1_draw : MethodName := ⟨RX1, "draw", "(I)I"⟩
abbrev cX1_entries : ByteArray := prog_3_method_13_code
def yX1_entries : MethodName := ⟨RX1, "entries", "()I"⟩
abbrev cX1_known : ByteArray := prog_3_method_14_code
def yX1_known : MethodName := ⟨RX1, "known", "(I)I"⟩
abbrev cX1_mostKnown : ByteArray := prog_3_method_15_code
def yX1_mostKnown : MethodName := ⟨RX1, "mostKnown", "()I"⟩
abbrev cX1_leastKnown : ByteArray := prog_3_method_16_code
def yX1_leastKnown : MethodName := ⟨RX1, "leastKnown", "()I"⟩
abbrev cX1_fewestWays : ByteArray := prog_3_method_17_code
def yX1_fewestWays : MethodName := ⟨RX1, "fewestWays", "(II)I"⟩
abbrev cX1_parts : ByteArray := prog_3_method_18_code
def yX1_parts : MethodName := ⟨RX1, "parts", "()I"⟩
abbrev cX1_partOf : ByteArray := prog_3_method_19_code
def yX1_partOf : MethodName := ⟨RX1, "partOf", "(I)I"⟩
abbrev cX1_waysOut : ByteArray := prog_3_method_20_code
def yX1_waysOut : MethodName := ⟨RX1, "waysOut", "(I)I"⟩
abbrev cX1_waysInto : ByteArray := prog_3_method_21_code
def yX1_waysInto : MethodName := ⟨RX1, "waysInto", "(I)I"⟩
def RX2 : String := "ShuffledViews$Past"
def TX2 : u_T := fun k => match k with
  | 0 => ("ShuffledViews$Past", "nets", "[LShuffledViews$Net;", true)
  | 1 => ("ShuffledViews$Past", "top", "I", false)
  | _ => ("ShuffledViews$Past", "size", "I", false)
def tyX2 : Nat → FieldType := fun k => match k with
  | 0 => .array (.object "ShuffledViews$Net")
  | 1 => .int
  | _ => .int
abbrev wsX20 : List Cond := u_ws RX2 TX2 3
theorem nmX2 : ∀ a, a < 3 → ∀ b, b < 3 → a ≠ b → (TX2 a).2.1 ≠ (TX2 b).2.1 := by decide +kernel
theorem tyX2_ok : ∀ k, k < 3 → parseFieldDescriptor (TX2 k).2.2.1 = some (tyX2 k) := by decide +kernel
abbrev cX2_init : ByteArray := prog_4_method_1_code
def yX2_init : MethodName := ⟨RX2, "<init>", "()V"⟩
abbrev cX2_clear : ByteArray := prog_4_method_2_code
def yX2_clear : MethodName := ⟨RX2, "clear", "()V"⟩
abbrev cX2_push : ByteArray := prog_4_method_3_code
def yX2_push : MethodName := ⟨RX2, "push", "(LShuffledViews$Net;)V"⟩
abbrev cX2_pop : ByteArray := prog_4_method_4_code
def yX2_pop : MethodName := ⟨RX2, "pop", "(LShuffledViews$Net;)V"⟩
def RX3 : String := "ShuffledViews$Ring"
def TX3 : u_T := fun k => match k with
  | 0 => ("ShuffledViews$Ring", "numbers", "[I", true)
  | 1 => ("ShuffledViews$Ring", "size", "I", false)
  | 2 => ("ShuffledViews$Ring", "hand", "I", false)
  | _ => ("ShuffledViews$Ring", "missing", "Z", false)
def tyX3 : Nat → FieldType := fun k => match k with
  | 0 => .array .int
  | 1 => .int
  | 2 => .int
  | _ => .boolean
abbrev wsX30 : List Cond := u_ws RX3 TX3 4
theorem nmX3 : ∀ a, a < 4 → ∀ b, b < 4 → a ≠ b → (TX3 a).2.1 ≠ (TX3 b).2.1 := by decide +kernel
theorem tyX3_ok : ∀ k, k < 4 → parseFieldDescriptor (TX3 k).2.2.1 = some (tyX3 k) := by decide +kernel
abbrev cX3_init : ByteArray := prog_5_method_1_code
def yX3_init : MethodName := ⟨RX3, "<init>", "()V"⟩
abbrev cX3_renew : ByteArray := prog_5_method_2_code
def yX3_renew : MethodName := ⟨RX3, "renew", "()V"⟩
abbrev cX3_lose : ByteArray := prog_5_method_3_code
def yX3_lose : MethodName := ⟨RX3, "lose", "()V"⟩
abbrev cX3_lack : ByteArray := prog_5_method_4_code
def yX3_lack : MethodName := ⟨RX3, "lack", "()I"⟩
abbrev cX3_insert : ByteArray := prog_5_method_5_code
def yX3_insert : MethodName := ⟨RX3, "insert", "(I)V"⟩
abbrev cX3_moveHand : ByteArray := prog_5_method_6_code
def yX3_moveHand : MethodName := ⟨RX3, "moveHand", "(I)V"⟩
abbrev cX3_atHand : ByteArray := prog_5_method_7_code
def yX3_atHand : MethodName := ⟨RX3, "atHand", "()I"⟩
abbrev cX3_removeAtHand : ByteArray := prog_5_method_8_code
def yX3_removeAtHand : MethodName := ⟨RX3, "removeAtHand", "()V"⟩
abbrev cX3_countOut : ByteArray := prog_5_method_9_code
def yX3_countOut : MethodName := ⟨RX3, "countOut", "(I)V"⟩
abbrev cX3_total : ByteArray := prog_5_method_10_code
def yX3_total : MethodName := ⟨RX3, "total", "()I"⟩
def RX4 : String := "ShuffledViews$Sent"
def TX4 : u_T := fun k => match k with
  | 0 => ("ShuffledViews$Sent", "nodes", "[I", true)
  | 1 => ("ShuffledViews$Sent", "ages", "[I", true)
  | 2 => ("ShuffledViews$Sent", "places", "[I", true)
  | _ => ("ShuffledViews$Sent", "size", "I", false)
def tyX4 : Nat → FieldType := fun k => match k with
  | 0 => .array .int
  | 1 => .array .int
  | 2 => .array .int
  | _ => .int
abbrev wsX40 : List Cond := u_ws RX4 TX4 4
theorem nmX4 : ∀ a, a < 4 → ∀ b, b < 4 → a ≠ b → (TX4 a).2.1 ≠ (TX4 b).2.1 := by decide +kernel
theorem tyX4_ok : ∀ k, k < 4 → parseFieldDescriptor (TX4 k).2.2.1 = some (tyX4 k) := by decide +kernel
abbrev cX4_init : ByteArray := prog_6_method_1_code
def yX4_init : MethodName := ⟨RX4, "<init>", "()V"⟩
abbrev cX4_clear : ByteArray := prog_6_method_2_code
def yX4_clear : MethodName := ⟨RX4, "clear", "()V"⟩
abbrev cX4_put : ByteArray := prog_6_method_3_code
def yX4_put : MethodName := ⟨RX4, "put", "(III)V"⟩
abbrev cX4_putItself : ByteArray := prog_6_method_4_code
def yX4_putItself : MethodName := ⟨RX4, "putItself", "(I)V"⟩
abbrev cX4_putDrawn : ByteArray := prog_6_method_5_code
def yX4_putDrawn : MethodName := ⟨RX4, "putDrawn", "(LShuffledViews$Net;LShuffledViews$View;)V"⟩
abbrev cX4_unsentPlace : ByteArray := prog_6_method_6_code
def yX4_unsentPlace : MethodName := ⟨RX4, "unsentPlace", "(LShuffledViews$View;II)I"⟩
abbrev cX4_giveUpPlace : ByteArray := prog_6_method_7_code
def yX4_giveUpPlace : MethodName := ⟨RX4, "giveUpPlace", "()I"⟩
def RX5 : String := "ShuffledViews$Shuffle"
def TX5 : u_T := fun k => match k with
  | 0 => ("ShuffledViews$Shuffle", "bySender", "LShuffledViews$Sent;", true)
  | _ => ("ShuffledViews$Shuffle", "byAsked", "LShuffledViews$Sent;", true)
def tyX5 : Nat → FieldType := fun k => match k with
  | 0 => .object "ShuffledViews$Sent"
  | _ => .object "ShuffledViews$Sent"
abbrev wsX50 : List Cond := u_ws RX5 TX5 2
theorem nmX5 : ∀ a, a < 2 → ∀ b, b < 2 → a ≠ b → (TX5 a).2.1 ≠ (TX5 b).2.1 := by decide +kernel
theorem tyX5_ok : ∀ k, k < 2 → parseFieldDescriptor (TX5 k).2.2.1 = some (tyX5 k) := by decide +kernel
abbrev cX5_init : ByteArray := prog_7_method_1_code
def yX5_init : MethodName := ⟨RX5, "<init>", "()V"⟩
abbrev cX5_roundOf : ByteArray := prog_7_method_2_code
def yX5_roundOf : MethodName := ⟨RX5, "roundOf", "(LShuffledViews$Net;I)I"⟩
abbrev cX5_cyclesOf : ByteArray := prog_7_method_3_code
def yX5_cyclesOf : MethodName := ⟨RX5, "cyclesOf", "(LShuffledViews$Net;I)V"⟩
abbrev cX5_swap : ByteArray := prog_7_method_4_code
def yX5_swap : MethodName := ⟨RX5, "swap", "(LShuffledViews$Net;II)V"⟩
abbrev cX5_takeAll : ByteArray := prog_7_method_5_code
def yX5_takeAll : MethodName := ⟨RX5, "takeAll", "(LShuffledViews$Net;ILShuffledViews$Sent;LShuffledViews$Sent;)V"⟩
def RX6 : String := "ShuffledViews$Text"
def TX6 : u_T := fun k => match k with
  | 0 => ("ShuffledViews$Text", "letters", "[I", true)
  | 1 => ("ShuffledViews$Text", "length", "I", false)
  | 2 => ("ShuffledViews$Text", "tokenKind", "I", false)
  | 3 => ("ShuffledViews$Text", "tokenStart", "I", false)
  | _ => ("ShuffledViews$Text", "tokenEnd", "I", false)
def tyX6 : Nat → FieldType := fun k => match k with
  | 0 => .array .int
  | 1 => .int
  | 2 => .int
  | 3 => .int
  | _ => .int
abbrev wsX60 : List Cond := u_ws RX6 TX6 5
theorem nmX6 : ∀ a, a < 5 → ∀ b, b < 5 → a ≠ b → (TX6 a).2.1 ≠ (TX6 b).2.1 := by decide +kernel
theorem tyX6_ok : ∀ k, k < 5 → parseFieldDescriptor (TX6 k).2.2.1 = some (tyX6 k) := by decide +kernel
abbrev cX6_init : ByteArray := prog_8_method_1_code
def yX6_init : MethodName := ⟨RX6, "<init>", "()V"⟩
abbrev cX6_append : ByteArray := prog_8_method_2_code
def yX6_append : MethodName := ⟨RX6, "append", "(I)V"⟩
abbrev cX6_clear : ByteArray := prog_8_method_3_code
def yX6_clear : MethodName := ⟨RX6, "clear", "()V"⟩
abbrev cX6_rewind : ByteArray := prog_8_method_4_code
def yX6_rewind : MethodName := ⟨RX6, "rewind", "()V"⟩
abbrev cX6_readToken : ByteArray := prog_8_method_5_code
def yX6_readToken : MethodName := ⟨RX6, "readToken", "()V"⟩
abbrev cX6_isWord : ByteArray := prog_8_method_6_code
def yX6_isWord : MethodName := ⟨RX6, "isWord", "(Ljava/lang/String;)Z"⟩
abbrev cX6_number : ByteArray := prog_8_method_7_code
def yX6_number : MethodName := ⟨RX6, "number", "()I"⟩
abbrev cX6_kindAt : ByteArray := prog_8_method_8_code
def yX6_kindAt : MethodName := ⟨RX6, "kindAt", "(I)I"⟩
abbrev cX6_letterAt : ByteArray := prog_8_method_9_code
def yX6_letterAt : MethodName := ⟨RX6, "letterAt", "(I)I"⟩
def RX7 : String := "ShuffledViews$View"
def TX7 : u_T := fun k => match k with
  | 0 => ("ShuffledViews$View", "nodes", "[I", true)
  | 1 => ("ShuffledViews$View", "ages", "[I", true)
  | _ => ("ShuffledViews$View", "size", "I", false)
def tyX7 : Nat → FieldType := fun k => match k with
  | 0 => .array .int
  | 1 => .array .int
  | _ => .int
abbrev wsX70 : List Cond := u_ws RX7 TX7 3
theorem nmX7 : ∀ a, a < 3 → ∀ b, b < 3 → a ≠ b → (TX7 a).2.1 ≠ (TX7 b).2.1 := by decide +kernel
theorem tyX7_ok : ∀ k, k < 3 → parseFieldDescriptor (TX7 k).2.2.1 = some (tyX7 k) := by decide +kernel
abbrev cX7_init : ByteArray := prog_9_method_1_code
def yX7_init : MethodName := ⟨RX7, "<init>", "()V"⟩
abbrev cX7_placeOf : ByteArray := prog_9_method_2_code
def yX7_placeOf : MethodName := ⟨RX7, "placeOf", "(I)I"⟩
abbrev cX7_holds : ByteArray := prog_9_method_3_code
def yX7_holds : MethodName := ⟨RX7, "holds", "(I)Z"⟩
abbrev cX7_bits : ByteArray := prog_9_method_4_code
def yX7_bits : MethodName := ⟨RX7, "bits", "()I"⟩
abbrev cX7_clear : ByteArray := prog_9_method_5_code
def yX7_clear : MethodName := ⟨RX7, "clear", "()V"⟩
abbrev cX7_append : ByteArray := prog_9_method_6_code
def yX7_append : MethodName := ⟨RX7, "append", "(II)V"⟩
abbrev cX7_replace : ByteArray := prog_9_method_7_code
def yX7_replace : MethodName := ⟨RX7, "replace", "(III)V"⟩
abbrev cX7_strike : ByteArray := prog_9_method_8_code
def yX7_strike : MethodName := ⟨RX7, "strike", "(I)V"⟩
abbrev cX7_growOlder : ByteArray := prog_9_method_9_code
def yX7_growOlder : MethodName := ⟨RX7, "growOlder", "()V"⟩
abbrev cX7_placeOfOldest : ByteArray := prog_9_method_10_code
def yX7_placeOfOldest : MethodName := ⟨RX7, "placeOfOldest", "()I"⟩
abbrev cX7_isAskedBefore : ByteArray := prog_9_method_11_code
def yX7_isAskedBefore : MethodName := ⟨RX7, "isAskedBefore", "(II)Z"⟩
abbrev cX7_copyFrom : ByteArray := prog_9_method_12_code
def yX7_copyFrom : MethodName := ⟨RX7, "copyFrom", "(LShuffledViews$View;)V"⟩
def RX8 : String := "ShuffledViews"
def TX8 : u_T := fun k => match k with
  | 0 => ("ShuffledViews", "text", "LShuffledViews$Text;", true)
  | 1 => ("ShuffledViews", "clauses", "LShuffledViews$Clauses;", true)
  | 2 => ("ShuffledViews", "now", "LShuffledViews$Net;", true)
  | 3 => ("ShuffledViews", "foreseen", "LShuffledViews$Net;", true)
  | 4 => ("ShuffledViews", "shuffle", "LShuffledViews$Shuffle;", true)
  | 5 => ("ShuffledViews", "past", "LShuffledViews$Past;", true)
  | 6 => ("ShuffledViews", "keptNets", "[LShuffledViews$Net;", true)
  | 7 => ("ShuffledViews", "isKept", "[Z", true)
  | _ => ("ShuffledViews", "rings", "[LShuffledViews$Ring;", true)
def tyX8 : Nat → FieldType := fun k => match k with
  | 0 => .object "ShuffledViews$Text"
  | 1 => .object "ShuffledViews$Clauses"
  | 2 => .object "ShuffledViews$Net"
  | 3 => .object "ShuffledViews$Net"
  | 4 => .object "ShuffledViews$Shuffle"
  | 5 => .object "ShuffledViews$Past"
  | 6 => .array (.object "ShuffledViews$Net")
  | 7 => .array .boolean
  | _ => .array (.object "ShuffledViews$Ring")
abbrev wsX80 : List Cond := u_ws RX8 TX8 9
theorem nmX8 : ∀ a, a < 9 → ∀ b, b < 9 → a ≠ b → (TX8 a).2.1 ≠ (TX8 b).2.1 := by decide +kernel
theorem tyX8_ok : ∀ k, k < 9 → parseFieldDescriptor (TX8 k).2.2.1 = some (tyX8 k) := by decide +kernel
abbrev cX8_init : ByteArray := prog_1_method_1_code
def yX8_init : MethodName := ⟨RX8, "<init>", "()V"⟩
abbrev cX8_write : ByteArray := prog_1_method_2_code
def yX8_write : MethodName := ⟨RX8, "write", "(I)I"⟩
abbrev cX8_erase : ByteArray := prog_1_method_3_code
def yX8_erase : MethodName := ⟨RX8, "erase", "()I"⟩
abbrev cX8_fault : ByteArray := prog_1_method_4_code
def yX8_fault : MethodName := ⟨RX8, "fault", "()I"⟩
abbrev cX8_net : ByteArray := prog_1_method_5_code
def yX8_net : MethodName := ⟨RX8, "net", "()I"⟩
abbrev cX8_node : ByteArray := prog_1_method_6_code
def yX8_node : MethodName := ⟨RX8, "node", "(II)I"⟩
abbrev cX8_entry : ByteArray := prog_1_method_7_code
def yX8_entry : MethodName := ⟨RX8, "entry", "(III)I"⟩
abbrev cX8_round : ByteArray := prog_1_method_8_code
def yX8_round : MethodName := ⟨RX8, "round", "(I)I"⟩
abbrev cX8_cycle : ByteArray := prog_1_method_9_code
def yX8_cycle : MethodName := ⟨RX8, "cycle", "(I)I"⟩
abbrev cX8_die : ByteArray := prog_1_method_10_code
def yX8_die : MethodName := ⟨RX8, "die", "(II)I"⟩
abbrev cX8_link : ByteArray := prog_1_method_11_code
def yX8_link : MethodName := ⟨RX8, "link", "(II)I"⟩
abbrev cX8_undo : ByteArray := prog_1_method_12_code
def yX8_undo : MethodName := ⟨RX8, "undo", "()I"⟩
abbrev cX8_keep : ByteArray := prog_1_method_13_code
def yX8_keep : MethodName := ⟨RX8, "keep", "(I)I"⟩
abbrev cX8_back : ByteArray := prog_1_method_14_code
def yX8_back : MethodName := ⟨RX8, "back", "(I)I"⟩
abbrev cX8_forgotten : ByteArray := prog_1_method_15_code
def yX8_forgotten : MethodName := ⟨RX8, "forgotten", "(I)I"⟩
abbrev cX8_next : ByteArray := prog_1_method_16_code
def yX8_next : MethodName := ⟨RX8, "next", "(I)I"⟩
abbrev cX8_spread : ByteArray := prog_1_method_17_code
def yX8_spread : MethodName := ⟨RX8, "spread", "(I)I"⟩
abbrev cX8_far : ByteArray := prog_1_method_18_code
def yX8_far : MethodName := ⟨RX8, "far", "(II)I"⟩
abbrev cX8_ring : ByteArray := prog_1_method_19_code
def yX8_ring : MethodName := ⟨RX8, "ring", "(I)I"⟩
abbrev cX8_add : ByteArray := prog_1_method_20_code
def yX8_add : MethodName := ⟨RX8, "add", "(II)I"⟩
abbrev cX8_step : ByteArray := prog_1_method_21_code
def yX8_step : MethodName := ⟨RX8, "step", "(II)I"⟩
abbrev cX8_take : ByteArray := prog_1_method_22_code
def yX8_take : MethodName := ⟨RX8, "take", "(I)I"⟩
abbrev cX8_count : ByteArray := prog_1_method_23_code
def yX8_count : MethodName := ⟨RX8, "count", "(II)I"⟩
abbrev cX8_sum : ByteArray := prog_1_method_24_code
def yX8_sum : MethodName := ⟨RX8, "sum", "(I)I"⟩
abbrev cX8_drop : ByteArray := prog_1_method_25_code
def yX8_drop : MethodName := ⟨RX8, "drop", "(I)I"⟩
abbrev cX8_told : ByteArray := prog_1_method_26_code
def yX8_told : MethodName := ⟨RX8, "told", "(I)I"⟩
abbrev cX8_isRing : ByteArray := prog_1_method_27_code
def yX8_isRing : MethodName := ⟨RX8, "isRing", "(I)Z"⟩
abbrev cX8_ringNumbers : ByteArray := prog_1_method_28_code
def yX8_ringNumbers : MethodName := ⟨RX8, "ringNumbers", "()I"⟩
def RX9 : String := "ShuffledViewsModel"
def TX9 : u_T := fun k => match k with
  | 0 => ("ShuffledViewsModel", "row", "[I", true)
  | 1 => ("ShuffledViewsModel", "nodes", "I", false)
  | 2 => ("ShuffledViewsModel", "room", "I", false)
  | 3 => ("ShuffledViewsModel", "slice", "I", false)
  | 4 => ("ShuffledViewsModel", "sly", "I", false)
  | 5 => ("ShuffledViewsModel", "undos", "I", false)
  | 6 => ("ShuffledViewsModel", "isKept", "[Z", true)
  | 7 => ("ShuffledViewsModel", "text", "[I", true)
  | 8 => ("ShuffledViewsModel", "length", "I", false)
  | 9 => ("ShuffledViewsModel", "sizes", "[I", true)
  | 10 => ("ShuffledViewsModel", "values", "[I", true)
  | 11 => ("ShuffledViewsModel", "first", "I", false)
  | 12 => ("ShuffledViewsModel", "behind", "I", false)
  | 13 => ("ShuffledViewsModel", "readNodes", "I", false)
  | 14 => ("ShuffledViewsModel", "clauses", "I", false)
  | 15 => ("ShuffledViewsModel", "doing", "Z", false)
  | 16 => ("ShuffledViewsModel", "numbers", "[I", true)
  | 17 => ("ShuffledViewsModel", "words", "[I", true)
  | 18 => ("ShuffledViewsModel", "sentNode", "[I", true)
  | 19 => ("ShuffledViewsModel", "sentAge", "[I", true)
  | 20 => ("ShuffledViewsModel", "sentMany", "[I", true)
  | _ => ("ShuffledViewsModel", "isTaken", "[Z", true)
def tyX9 : Nat → FieldType := fun k => match k with
  | 0 => .array .int
  | 1 => .int
  | 2 => .int
  | 3 => .int
  | 4 => .int
  | 5 => .int
  | 6 => .array .boolean
  | 7 => .array .int
  | 8 => .int
  | 9 => .array .int
  | 10 => .array .int
  | 11 => .int
  | 12 => .int
  | 13 => .int
  | 14 => .int
  | 15 => .boolean
  | 16 => .array .int
  | 17 => .array .int
  | 18 => .array .int
  | 19 => .array .int
  | 20 => .array .int
  | _ => .array .boolean
abbrev wsX90 : List Cond := u_ws RX9 TX9 22
theorem nmX9 : ∀ a, a < 22 → ∀ b, b < 22 → a ≠ b → (TX9 a).2.1 ≠ (TX9 b).2.1 := by decide +kernel
theorem tyX9_ok : ∀ k, k < 22 → parseFieldDescriptor (TX9 k).2.2.1 = some (tyX9 k) := by decide +kernel
abbrev cX9_init : ByteArray := prog_11_method_1_code
def yX9_init : MethodName := ⟨RX9, "<init>", "()V"⟩
abbrev cX9_in : ByteArray := prog_11_method_2_code
def yX9_in : MethodName := ⟨RX9, "in", "(JJJ)Z"⟩
abbrev cX9_has : ByteArray := prog_11_method_3_code
def yX9_has : MethodName := ⟨RX9, "has", "(II)Z"⟩
abbrev cX9_copyRow : ByteArray := prog_11_method_4_code
def yX9_copyRow : MethodName := ⟨RX9, "copyRow", "(II)V"⟩
abbrev cX9_anew : ByteArray := prog_11_method_5_code
def yX9_anew : MethodName := ⟨RX9, "anew", "(IIII)V"⟩
abbrev cX9_put : ByteArray := prog_11_method_6_code
def yX9_put : MethodName := ⟨RX9, "put", "(IIII)V"⟩
abbrev cX9_placeOf : ByteArray := prog_11_method_7_code
def yX9_placeOf : MethodName := ⟨RX9, "placeOf", "(III)I"⟩
abbrev cX9_strike : ByteArray := prog_11_method_8_code
def yX9_strike : MethodName := ⟨RX9, "strike", "(III)V"⟩
abbrev cX9_replace : ByteArray := prog_11_method_9_code
def yX9_replace : MethodName := ⟨RX9, "replace", "(IIIII)V"⟩
abbrev cX9_write : ByteArray := prog_11_method_10_code
def yX9_write : MethodName := ⟨RX9, "write", "(I)I"⟩
abbrev cX9_erase : ByteArray := prog_11_method_11_code
def yX9_erase : MethodName := ⟨RX9, "erase", "()I"⟩
abbrev cX9_isSmall : ByteArray := prog_11_method_12_code
def yX9_isSmall : MethodName := ⟨RX9, "isSmall", "(I)Z"⟩
abbrev cX9_isDigit : ByteArray := prog_11_method_13_code
def yX9_isDigit : MethodName := ⟨RX9, "isDigit", "(I)Z"⟩
abbrev cX9_nextToken : ByteArray := prog_11_method_14_code
def yX9_nextToken : MethodName := ⟨RX9, "nextToken", "()V"⟩
abbrev cX9_wordHere : ByteArray := prog_11_method_15_code
def yX9_wordHere : MethodName := ⟨RX9, "wordHere", "()I"⟩
abbrev cX9_number : ByteArray := prog_11_method_16_code
def yX9_number : MethodName := ⟨RX9, "number", "(IIII)Z"⟩
abbrev cX9_readsNode : ByteArray := prog_11_method_17_code
def yX9_readsNode : MethodName := ⟨RX9, "readsNode", "(II)Z"⟩
abbrev cX9_readsRest : ByteArray := prog_11_method_18_code
def yX9_readsRest : MethodName := ⟨RX9, "readsRest", "(I)Z"⟩
abbrev cX9_links : ByteArray := prog_11_method_19_code
def yX9_links : MethodName := ⟨RX9, "links", "(III)V"⟩
abbrev cX9_does : ByteArray := prog_11_method_20_code
def yX9_does : MethodName := ⟨RX9, "does", "(I)V"⟩
abbrev cX9_readsClause : ByteArray := prog_11_method_21_code
def yX9_readsClause : MethodName := ⟨RX9, "readsClause", "()Z"⟩
abbrev cX9_reads : ByteArray := prog_11_method_22_code
def yX9_reads : MethodName := ⟨RX9, "reads", "(Z)Z"⟩
abbrev cX9_fault : ByteArray := prog_11_method_23_code
def yX9_fault : MethodName := ⟨RX9, "fault", "()I"⟩
abbrev cX9_net : ByteArray := prog_11_method_24_code
def yX9_net : MethodName := ⟨RX9, "net", "()I"⟩
abbrev cX9_isNode : ByteArray := prog_11_method_25_code
def yX9_isNode : MethodName := ⟨RX9, "isNode", "(I)Z"⟩
abbrev cX9_isDead : ByteArray := prog_11_method_26_code
def yX9_isDead : MethodName := ⟨RX9, "isDead", "(II)Z"⟩
abbrev cX9_draw : ByteArray := prog_11_method_27_code
def yX9_draw : MethodName := ⟨RX9, "draw", "(II)I"⟩
abbrev cX9_send : ByteArray := prog_11_method_28_code
def yX9_send : MethodName := ⟨RX9, "send", "(III)V"⟩
abbrev cX9_isSent : ByteArray := prog_11_method_29_code
def yX9_isSent : MethodName := ⟨RX9, "isSent", "(II)Z"⟩
abbrev cX9_sends : ByteArray := prog_11_method_30_code
def yX9_sends : MethodName := ⟨RX9, "sends", "(III)V"⟩
abbrev cX9_giveUp : ByteArray := prog_11_method_31_code
def yX9_giveUp : MethodName := ⟨RX9, "giveUp", "(III)I"⟩
abbrev cX9_takes : ByteArray := prog_11_method_32_code
def yX9_takes : MethodName := ⟨RX9, "takes", "(III)V"⟩
abbrev cX9_oldest : ByteArray := prog_11_method_33_code
def yX9_oldest : MethodName := ⟨RX9, "oldest", "(II)I"⟩
abbrev cX9_ages : ByteArray := prog_11_method_34_code
def yX9_ages : MethodName := ⟨RX9, "ages", "(II)V"⟩
abbrev cX9_rounds : ByteArray := prog_11_method_35_code
def yX9_rounds : MethodName := ⟨RX9, "rounds", "(II)I"⟩
abbrev cX9_cycles : ByteArray := prog_11_method_36_code
def yX9_cycles : MethodName := ⟨RX9, "cycles", "(I)V"⟩
abbrev cX9_known : ByteArray := prog_11_method_37_code
def yX9_known : MethodName := ⟨RX9, "known", "(II)I"⟩
abbrev cX9_viewOf : ByteArray := prog_11_method_38_code
def yX9_viewOf : MethodName := ⟨RX9, "viewOf", "(I)I"⟩
abbrev cX9_node : ByteArray := prog_11_method_39_code
def yX9_node : MethodName := ⟨RX9, "node", "(II)I"⟩
abbrev cX9_entry : ByteArray := prog_11_method_40_code
def yX9_entry : MethodName := ⟨RX9, "entry", "(III)I"⟩
abbrev cX9_keepPast : ByteArray := prog_11_method_41_code
def yX9_keepPast : MethodName := ⟨RX9, "keepPast", "()V"⟩
abbrev cX9_entries : ByteArray := prog_11_method_42_code
def yX9_entries : MethodName := ⟨RX9, "entries", "()I"⟩
abbrev cX9_round : ByteArray := prog_11_method_43_code
def yX9_round : MethodName := ⟨RX9, "round", "(I)I"⟩
abbrev cX9_cycle : ByteArray := prog_11_method_44_code
def yX9_cycle : MethodName := ⟨RX9, "cycle", "(I)I"⟩
abbrev cX9_alive : ByteArray := prog_11_method_45_code
def yX9_alive : MethodName := ⟨RX9, "alive", "(I)I"⟩
abbrev cX9_ones : ByteArray := prog_11_method_46_code
def yX9_ones : MethodName := ⟨RX9, "ones", "(I)I"⟩
abbrev cX9_die : ByteArray := prog_11_method_47_code
def yX9_die : MethodName := ⟨RX9, "die", "(II)I"⟩
abbrev cX9_link : ByteArray := prog_11_method_48_code
def yX9_link : MethodName := ⟨RX9, "link", "(II)I"⟩
abbrev cX9_undo : ByteArray := prog_11_method_49_code
def yX9_undo : MethodName := ⟨RX9, "undo", "()I"⟩
abbrev cX9_keep : ByteArray := prog_11_method_50_code
def yX9_keep : MethodName := ⟨RX9, "keep", "(I)I"⟩
abbrev cX9_back : ByteArray := prog_11_method_51_code
def yX9_back : MethodName := ⟨RX9, "back", "(I)I"⟩
abbrev cX9_forgotten : ByteArray := prog_11_method_52_code
def yX9_forgotten : MethodName := ⟨RX9, "forgotten", "(I)I"⟩
abbrev cX9_next : ByteArray := prog_11_method_53_code
def yX9_next : MethodName := ⟨RX9, "next", "(I)I"⟩
abbrev cX9_extreme : ByteArray := prog_11_method_54_code
def yX9_extreme : MethodName := ⟨RX9, "extreme", "(IZ)I"⟩
abbrev cX9_spread : ByteArray := prog_11_method_55_code
def yX9_spread : MethodName := ⟨RX9, "spread", "(I)I"⟩
abbrev cX9_far : ByteArray := prog_11_method_56_code
def yX9_far : MethodName := ⟨RX9, "far", "(II)I"⟩
abbrev cX9_parts : ByteArray := prog_11_method_57_code
def yX9_parts : MethodName := ⟨RX9, "parts", "()I"⟩
abbrev cX9_isRing : ByteArray := prog_11_method_58_code
def yX9_isRing : MethodName := ⟨RX9, "isRing", "(I)Z"⟩
abbrev cX9_ring : ByteArray := prog_11_method_59_code
def yX9_ring : MethodName := ⟨RX9, "ring", "(I)I"⟩
abbrev cX9_add : ByteArray := prog_11_method_60_code
def yX9_add : MethodName := ⟨RX9, "add", "(II)I"⟩
abbrev cX9_goesOn : ByteArray := prog_11_method_61_code
def yX9_goesOn : MethodName := ⟨RX9, "goesOn", "(I)V"⟩
abbrev cX9_takesOne : ByteArray := prog_11_method_62_code
def yX9_takesOne : MethodName := ⟨RX9, "takesOne", "(I)I"⟩
abbrev cX9_step : ByteArray := prog_11_method_63_code
def yX9_step : MethodName := ⟨RX9, "step", "(II)I"⟩
abbrev cX9_take : ByteArray := prog_11_method_64_code
def yX9_take : MethodName := ⟨RX9, "take", "(I)I"⟩
abbrev cX9_count : ByteArray := prog_11_method_65_code
def yX9_count : MethodName := ⟨RX9, "count", "(II)I"⟩
abbrev cX9_sum : ByteArray := prog_11_method_66_code
def yX9_sum : MethodName := ⟨RX9, "sum", "(I)I"⟩
abbrev cX9_drop : ByteArray := prog_11_method_67_code
def yX9_drop : MethodName := ⟨RX9, "drop", "(I)I"⟩
abbrev cX9_allNumbers : ByteArray := prog_11_method_68_code
def yX9_allNumbers : MethodName := ⟨RX9, "allNumbers", "()I"⟩
abbrev cX9_told : ByteArray := prog_11_method_69_code
def yX9_told : MethodName := ⟨RX9, "told", "(I)I"⟩
def RJ6 : String := "java/lang/Integer"
def TJ6 : u_T := fun k => match k with
  | _ => ("", "", "", false)
def tyJ6 : Nat → FieldType := fun k => match k with
  | _ => .int
abbrev wsJ60 : List Cond := u_ws RJ6 TJ6 0
theorem nmJ6 : ∀ a, a < 0 → ∀ b, b < 0 → a ≠ b → (TJ6 a).2.1 ≠ (TJ6 b).2.1 := by decide +kernel
theorem tyJ6_ok : ∀ k, k < 0 → parseFieldDescriptor (TJ6 k).2.2.1 = some (tyJ6 k) := by decide +kernel
abbrev cJ6_bitCount_0f7a4 : ByteArray := prog_12_method_49_code
def yJ6_bitCount_0f7a4 : MethodName := ⟨RJ6, "bitCount", "(I)I"⟩
def RJ9 : String := "java/lang/Math"
def TJ9 : u_T := fun k => match k with
  | _ => ("", "", "", false)
def tyJ9 : Nat → FieldType := fun k => match k with
  | _ => .int
abbrev wsJ90 : List Cond := u_ws RJ9 TJ9 0
theorem nmJ9 : ∀ a, a < 0 → ∀ b, b < 0 → a ≠ b → (TJ9 a).2.1 ≠ (TJ9 b).2.1 := by decide +kernel
theorem tyJ9_ok : ∀ k, k < 0 → parseFieldDescriptor (TJ9 k).2.2.1 = some (tyJ9 k) := by decide +kernel
abbrev cJ9_floorMod_7cf53 : ByteArray := prog_13_method_50_code
def yJ9_floorMod_7cf53 : MethodName := ⟨RJ9, "floorMod", "(II)I"⟩
abbrev cJ9_max_7cf53 : ByteArray := prog_13_method_65_code
def yJ9_max_7cf53 : MethodName := ⟨RJ9, "max", "(II)I"⟩
abbrev cJ9_min_7cf53 : ByteArray := prog_13_method_69_code
def yJ9_min_7cf53 : MethodName := ⟨RJ9, "min", "(II)I"⟩
def RJ0 : String := "java/lang/String"
def TJ0 : u_T := fun k => match k with
  | _ => ("", "", "", false)
def tyJ0 : Nat → FieldType := fun k => match k with
  | _ => .int
abbrev wsJ00 : List Cond := u_ws RJ0 TJ0 0
theorem nmJ0 : ∀ a, a < 0 → ∀ b, b < 0 → a ≠ b → (TJ0 a).2.1 ≠ (TJ0 b).2.1 := by decide +kernel
theorem tyJ0_ok : ∀ k, k < 0 → parseFieldDescriptor (TJ0 k).2.2.1 = some (tyJ0 k) := by decide +kernel
abbrev cJ0_length_8abf5 : ByteArray := prog_14_method_54_code
def yJ0_length_8abf5 : MethodName := ⟨RJ0, "length", "()I"⟩
abbrev cJ0_charAt_5068e : ByteArray := prog_14_method_56_code
def yJ0_charAt_5068e : MethodName := ⟨RJ0, "charAt", "(I)C"⟩
abbrev cJ0_coder_7d493 : ByteArray := prog_14_method_152_code
def yJ0_coder_7d493 : MethodName := ⟨RJ0, "coder", "()B"⟩
abbrev cJ0_isLatin1_aae02 : ByteArray := prog_14_method_154_code
def yJ0_isLatin1_aae02 : MethodName := ⟨RJ0, "isLatin1", "()Z"⟩
abbrev cJ0_checkIndex_df160 : ByteArray := prog_14_method_155_code
def yJ0_checkIndex_df160 : MethodName := ⟨RJ0, "checkIndex", "(II)V"⟩
def RJ1 : String := "java/lang/StringLatin1"
def TJ1 : u_T := fun k => match k with
  | _ => ("", "", "", false)
def tyJ1 : Nat → FieldType := fun k => match k with
  | _ => .int
abbrev wsJ10 : List Cond := u_ws RJ1 TJ1 0
theorem nmJ1 : ∀ a, a < 0 → ∀ b, b < 0 → a ≠ b → (TJ1 a).2.1 ≠ (TJ1 b).2.1 := by decide +kernel
theorem tyJ1_ok : ∀ k, k < 0 → parseFieldDescriptor (TJ1 k).2.2.1 = some (tyJ1 k) := by decide +kernel
abbrev cJ1_charAt_3b067 : ByteArray := prog_15_method_2_code
def yJ1_charAt_3b067 : MethodName := ⟨RJ1, "charAt", "([BI)C"⟩
def RJ2 : String := "java/lang/StringUTF16"
def TJ2 : u_T := fun k => match k with
  | _ => ("", "", "", false)
def tyJ2 : Nat → FieldType := fun k => match k with
  | _ => .int
abbrev wsJ20 : List Cond := u_ws RJ2 TJ2 0
theorem nmJ2 : ∀ a, a < 0 → ∀ b, b < 0 → a ≠ b → (TJ2 a).2.1 ≠ (TJ2 b).2.1 := by decide +kernel
theorem tyJ2_ok : ∀ k, k < 0 → parseFieldDescriptor (TJ2 k).2.2.1 = some (tyJ2 k) := by decide +kernel
abbrev cJ2_getChar_3b067 : ByteArray := prog_16_method_5_code
def yJ2_getChar_3b067 : MethodName := ⟨RJ2, "getChar", "([BI)C"⟩
abbrev cJ2_length_9d52b : ByteArray := prog_16_method_6_code
def yJ2_length_9d52b : MethodName := ⟨RJ2, "length", "([B)I"⟩
abbrev cJ2_charAt_3b067 : ByteArray := prog_16_method_83_code
def yJ2_charAt_3b067 : MethodName := ⟨RJ2, "charAt", "([BI)C"⟩
abbrev cJ2_checkIndex_2214a : ByteArray := prog_16_method_91_code
def yJ2_checkIndex_2214a : MethodName := ⟨RJ2, "checkIndex", "(I[B)V"⟩
def RJ3 : String := "jdk/internal/util/Preconditions"
def TJ3 : u_T := fun k => match k with
  | _ => ("", "", "", false)
def tyJ3 : Nat → FieldType := fun k => match k with
  | _ => .int
abbrev wsJ30 : List Cond := u_ws RJ3 TJ3 0
theorem nmJ3 : ∀ a, a < 0 → ∀ b, b < 0 → a ≠ b → (TJ3 a).2.1 ≠ (TJ3 b).2.1 := by decide +kernel
theorem tyJ3_ok : ∀ k, k < 0 → parseFieldDescriptor (TJ3 k).2.2.1 = some (tyJ3 k) := by decide +kernel
abbrev cJ3_checkIndex_8e157 : ByteArray := prog_17_method_11_code
def yJ3_checkIndex_8e157 : MethodName := ⟨RJ3, "checkIndex", "(IILjava/util/function/BiFunction;)I"⟩
def RL : String := "ShuffledViewsLaw"
abbrev cL_law : ByteArray := code
def yL_law : MethodName := ⟨RL, "law", "([I)Z"⟩
abbrev vwCl : List vw_C := [(RX0, TX0, 4), (RX1, TX1, 7), (RX2, TX2, 3), (RX3, TX3, 4), (RX4, TX4, 4), (RX5, TX5, 2), (RX6, TX6, 5), (RX7, TX7, 3), (RX8, TX8, 9), (RX9, TX9, 22)]
end
section
/-! the words that every method is given: those of the tables that hold at every state of a run -/
def tg : List Cond := lw_tbl.filter goodWord
def tgW (y : MethodName) (b : ByteArray) (n : Nat) (ret : Option FieldType) : List Cond := Cond.code y b n ret :: tg
theorem tg_mem {w : Cond} (h : w ∈ lw_tbl) (g : goodWord w = true) : w ∈ tg := List.mem_filter.mpr ⟨h, g⟩
theorem tg_good {y : MethodName} {b : ByteArray} {n : Nat} {ret : Option FieldType} (h : Cond.code y b n ret ∈ tg) : GoodIn tg (tgW y b n ret) := by
  have k : ∀ w ∈ tg, w ∈ tg ∧ ((w.onTables && w.keeps) = true ∨ ∃ ty, w = .arrayClass ty) := fun w hw => ⟨hw, good_of_word (List.mem_filter.mp hw).2⟩
  intro w hw
  rcases List.mem_cons.mp hw with rfl | hw
  · exact k _ h
  · exact k _ hw
theorem tg_i (i : Nat) {w : Cond} (h : (lw_tbl[i]? = some w ∧ goodWord w = true)) : w ∈ tg := tg_mem (List.mem_of_getElem? h.1) h.2
/-! the ints of the world: cell, place -/
abbrev Mm : Type := Nat → Nat → Int32
def upR (M : Mm) (a : Nat) (R : Nat → Int32) : Mm := fun b => if b = a then R else M b
def up2 (M : Mm) (a k : Nat) (v : Int32) : Mm := upR M a (upd (M a) k v)
abbrev ix (i : Int32) : Nat := i.toNatClampNeg
abbrev Sst : Type := Nat × List Nat × List Int32 × Mm
abbrev Rst : Type := Int32 × Mm
abbrev rfs (f : Nat → Nat) : (Nat → Int32) ⊕ (Nat → Int64) ⊕ (Nat → UInt32) ⊕ (Nat → UInt64) ⊕ (Nat → Option Nat) := .inr (.inr (.inr (.inr (fun j => some (f j)))))
/-! the layout: what cell i is; 26 t .. 26 t + 25 (t 1 .. 12) a net, its views, their rows -/
def celN (ad : Nat → Nat) (cs : Nat → ClassId) (R : Nat → Int32) (i r : Nat) : va_E :=
  if r = 0 then .inr (1, [.ref (ad (i + 1)), .int (R 1), .int (R 2), .int (R 3), .int (R 4), .int (R 5), .int (R 6)])
  else if r = 1 then .inl (cs 2, 8, rfs (fun j => ad (i + 1 + 3 * j)))
  else if (r - 2) % 3 = 0 then .inr (7, [.ref (ad (i + 1)), .ref (ad (i + 2)), .int (R 2)])
  else .inl (cs 0, 5, .inl R)
def cel (ad : Nat → Nat) (cs : Nat → ClassId) (R : Nat → Int32) (i : Nat) : va_E :=
  if 26 ≤ i ∧ i < 338 then celN ad cs R i (i % 26)
  else if i = 0 then .inr (8, [.ref (ad 1), .ref (ad 3), .ref (ad 26), .ref (ad 52), .ref (ad 6), .ref (ad 15), .ref (ad 17), .ref (ad 18), .ref (ad 19)])
  else if i = 1 then .inr (6, [.ref (ad 2), .int (R 1), .int (R 2), .int (R 3), .int (R 4)])
  else if i = 2 then .inl (cs 0, 200, .inl R)
  else if i = 3 then .inr (0, [.ref (ad 4), .ref (ad 5), .int (R 2), .int (R 3)])
  else if i = 4 then .inl (cs 0, 24, .inl R)
  else if i = 5 then .inl (cs 0, 96, .inl R)
  else if i = 6 then .inr (5, [.ref (ad 7), .ref (ad 11)])
  else if i = 7 ∨ i = 11 then .inr (4, [.ref (ad (i + 1)), .ref (ad (i + 2)), .ref (ad (i + 3)), .int (R 3)])
  else if i < 15 then .inl (cs 0, 5, .inl R)
  else if i = 15 then .inr (2, [.ref (ad 16), .int (R 1), .int (R 2)])
  else if i = 16 then .inl (cs 3, 8, rfs (fun j => ad (78 + 26 * j)))
  else if i = 17 then .inl (cs 3, 2, rfs (fun j => ad (286 + 26 * j)))
  else if i = 18 then .inl (cs 1, 2, .inl R)
  else if i = 19 then .inl (cs 4, 3, rfs (fun j => ad (20 + 2 * j)))
  else if i = 20 ∨ i = 22 ∨ i = 24 then .inr (3, [.ref (ad (i + 1)), .int (R 1), .int (R 2), .int (R 3)])
  else if i < 26 then .inl (cs 0, 8, .inl R)
  else if i = 338 then .inr (9, [.ref (ad 339), .int (R 1), .int (R 2), .int (R 3), .int (R 4), .int (R 5), .ref (ad 340), .ref (ad 341), .int (R 8), .ref (ad 342), .ref (ad 343), .int (R 11), .int (R 12), .int (R 13), .int (R 14), .int (R 15), .ref (ad 344), .ref (ad 345), .ref (ad 346), .ref (ad 347), .ref (ad 348), .ref (ad 349)])
  else if i = 339 then .inl (cs 0, 1080, .inl R)
  else if i = 340 then .inl (cs 1, 2, .inl R)
  else if i = 341 then .inl (cs 0, 200, .inl R)
  else if i = 342 then .inl (cs 0, 3, .inl R)
  else if i = 343 then .inl (cs 0, 24, .inl R)
  else if i = 344 then .inl (cs 0, 4, .inl R)
  else if i = 345 then .inl (cs 0, 20, .inl R)
  else if i = 346 then .inl (cs 0, 12, .inl R)
  else if i = 347 then .inl (cs 0, 12, .inl R)
  else if i = 348 then .inl (cs 0, 2, .inl R)
  else .inl (cs 1, 12, .inl R)
def wsO (ad : Nat → Nat) (cs : Nat → ClassId) (M : Mm) : va_W := (List.range 350).map (fun i => (ad i, cel ad cs (M i) i))
theorem wsO_get (ad : Nat → Nat) (cs : Nat → ClassId) (M : Mm) {i : Nat} (h : i < 350) : (wsO ad cs M)[i]? = some (ad i, cel ad cs (M i) i) := by
  simp [wsO, List.getElem?_map, List.getElem?_range h]
theorem wsO_inv {ad : Nat → Nat} {cs : Nat → ClassId} {M : Mm} {i : Nat} {q : Nat × va_E} (h : (wsO ad cs M)[i]? = some q) : i < 350 ∧ q = (ad i, cel ad cs (M i) i) := by
  have hl : i < (wsO ad cs M).length := by
    rcases Nat.lt_or_ge i (wsO ad cs M).length with h2 | h2
    · exact h2
    · rw [List.getElem?_eq_none h2] at h; cases h
  have hl2 : i < 350 := by simpa [wsO] using hl
  rw [wsO_get ad cs M hl2] at h
  exact ⟨hl2, (Option.some.inj h).symm⟩
theorem wsO_set (ad : Nat → Nat) (cs : Nat → ClassId) (M : Mm) {a : Nat} (R : Nat → Int32) (h : a < 350) {e : va_E} (he : e = cel ad cs R a) : (wsO ad cs M).set a (ad a, e) = wsO ad cs (upR M a R) := by
  apply List.ext_getElem?
  intro j
  rw [List.getElem?_set]
  by_cases hj : a = j
  · subst hj
    have hl : a < (wsO ad cs M).length := by simpa [wsO] using h
    rw [if_pos rfl, if_pos hl, wsO_get ad cs _ h, he]
    simp [upR]
  · rw [if_neg hj]
    by_cases h2 : j < 350
    · rw [wsO_get ad cs _ h2, wsO_get ad cs _ h2]
      simp [upR, Ne.symm hj]
    · rw [List.getElem?_eq_none (by simpa [wsO] using h2), List.getElem?_eq_none (by simpa [wsO] using h2)]
/-! the cells' own addresses -/
def inA (ad : Nat → Nat) : Nat → Prop := fun q => ∃ i, i < 350 ∧ q = ad i
def inj (ad : Nat → Nat) : Prop := ∀ i j, i < 350 → j < 350 → ad i = ad j → i = j
theorem wsO_D {ad : Nat → Nat} {cs : Nat → ClassId} {M : Mm} (h : inj ad) : va_D (inA ad) (wsO ad cs M) := by
  refine ⟨fun i j p q hi hj hpq => ?_, fun k q hk => ?_⟩
  · obtain ⟨h1, rfl⟩ := wsO_inv hi
    obtain ⟨h2, rfl⟩ := wsO_inv hj
    exact h i j h1 h2 hpq
  · obtain ⟨h1, rfl⟩ := wsO_inv hk
    exact ⟨k, h1, rfl⟩
abbrev tys (cs : Nat → ClassId) : List (ClassId × FieldType) := [(cs 0, .int), (cs 1, .boolean), (cs 2, .object RX7), (cs 3, .object RX1), (cs 4, .object RX3)]
/-! what a cell is -/
def isOb (ad : Nat → Nat) (cs : Nat → ClassId) (a ci : Nat) (fs : (Nat → Int32) → List Value) : Prop := a < 350 ∧ ∀ R, cel ad cs R a = .inr (ci, fs R)
def isAr (ad : Nat → Nat) (cs : Nat → ClassId) (a t n : Nat) : Prop := a < 350 ∧ ∀ R, cel ad cs R a = .inl (cs t, n, .inl R)
def isRf (ad : Nat → Nat) (cs : Nat → ClassId) (a t n : Nat) (f : Nat → Nat) : Prop := a < 350 ∧ ∀ R, cel ad cs R a = .inl (cs t, n, rfs (fun j => ad (f j)))
def isN (a : Nat) : Prop := ∃ t, t < 12 ∧ a = 26 * t + 26
def isV (a : Nat) : Prop := ∃ t i, t < 12 ∧ i < 8 ∧ a = 26 * t + 28 + 3 * i
def isS (a : Nat) : Prop := a = 7 ∨ a = 11
def isG (a : Nat) : Prop := a = 20 ∨ a = 22 ∨ a = 24
section Kinds
variable {ad : Nat → Nat} {cs : Nat → ClassId} {a : Nat}
theorem ob_N (h : isN a) : isOb ad cs a 1 (fun R => [.ref (ad (a + 1)), .int (R 1), .int (R 2), .int (R 3), .int (R 4), .int (R 5), .int (R 6)]) := by
  obtain ⟨t, ht, rfl⟩ := h
  refine ⟨by omega, fun R => ?_⟩
  have h1 : 26 ≤ 26 * t + 26 ∧ 26 * t + 26 < 338 := by omega
  have h2 : (26 * t + 26) % 26 = 0 := by omega
  rw [cel, if_pos h1, celN, if_pos h2]
theorem rf_N (h : isN a) : isRf ad cs (a + 1) 2 8 (fun j => a + 2 + 3 * j) := by
  obtain ⟨t, ht, rfl⟩ := h
  refine ⟨by omega, fun R => ?_⟩
  have h1 : 26 ≤ 26 * t + 26 + 1 ∧ 26 * t + 26 + 1 < 338 := by omega
  have h2 : (26 * t + 26 + 1) % 26 = 1 := by omega
  rw [cel, if_pos h1, celN, h2, if_neg (by decide), if_pos rfl]
theorem ob_V (h : isV a) : isOb ad cs a 7 (fun R => [.ref (ad (a + 1)), .ref (ad (a + 2)), .int (R 2)]) := by
  obtain ⟨t, i, ht, hi, rfl⟩ := h
  refine ⟨by omega, fun R => ?_⟩
  have h1 : 26 ≤ 26 * t + 28 + 3 * i ∧ 26 * t + 28 + 3 * i < 338 := by omega
  have h2 : (26 * t + 28 + 3 * i) % 26 = 2 + 3 * i := by omega
  rw [cel, if_pos h1, celN, h2, if_neg (by omega), if_neg (by omega), if_pos (by omega)]
theorem ar_V1 (h : isV a) : isAr ad cs (a + 1) 0 5 := by
  obtain ⟨t, i, ht, hi, rfl⟩ := h
  refine ⟨by omega, fun R => ?_⟩
  have h1 : 26 ≤ 26 * t + 28 + 3 * i + 1 ∧ 26 * t + 28 + 3 * i + 1 < 338 := by omega
  have h2 : (26 * t + 28 + 3 * i + 1) % 26 = 3 + 3 * i := by omega
  rw [cel, if_pos h1, celN, h2, if_neg (by omega), if_neg (by omega), if_neg (by omega)]
theorem ar_V2 (h : isV a) : isAr ad cs (a + 2) 0 5 := by
  obtain ⟨t, i, ht, hi, rfl⟩ := h
  refine ⟨by omega, fun R => ?_⟩
  have h1 : 26 ≤ 26 * t + 28 + 3 * i + 2 ∧ 26 * t + 28 + 3 * i + 2 < 338 := by omega
  have h2 : (26 * t + 28 + 3 * i + 2) % 26 = 4 + 3 * i := by omega
  rw [cel, if_pos h1, celN, h2, if_neg (by omega), if_neg (by omega), if_neg (by omega)]
theorem ob_S (h : isS a) : isOb ad cs a 4 (fun R => [.ref (ad (a + 1)), .ref (ad (a + 2)), .ref (ad (a + 3)), .int (R 3)]) := by
  rcases h with rfl | rfl <;> exact ⟨by decide, fun R => rfl⟩
theorem ar_S1 (h : isS a) : isAr ad cs (a + 1) 0 5 := by rcases h with rfl | rfl <;> exact ⟨by decide, fun R => rfl⟩
theorem ar_S2 (h : isS a) : isAr ad cs (a + 2) 0 5 := by rcases h with rfl | rfl <;> exact ⟨by decide, fun R => rfl⟩
theorem ar_S3 (h : isS a) : isAr ad cs (a + 3) 0 5 := by rcases h with rfl | rfl <;> exact ⟨by decide, fun R => rfl⟩
theorem ob_G (h : isG a) : isOb ad cs a 3 (fun R => [.ref (ad (a + 1)), .int (R 1), .int (R 2), .int (R 3)]) := by
  rcases h with rfl | rfl | rfl <;> exact ⟨by decide, fun R => rfl⟩
theorem ar_G1 (h : isG a) : isAr ad cs (a + 1) 0 8 := by rcases h with rfl | rfl | rfl <;> exact ⟨by decide, fun R => rfl⟩
theorem ob_0 : isOb ad cs 0 8 (fun _ => [.ref (ad 1), .ref (ad 3), .ref (ad 26), .ref (ad 52), .ref (ad 6), .ref (ad 15), .ref (ad 17), .ref (ad 18), .ref (ad 19)]) := ⟨by decide, fun R => rfl⟩
theorem ob_1 : isOb ad cs 1 6 (fun R => [.ref (ad 2), .int (R 1), .int (R 2), .int (R 3), .int (R 4)]) := ⟨by decide, fun R => rfl⟩
theorem ar_2 : isAr ad cs 2 0 200 := ⟨by decide, fun R => rfl⟩
theorem ob_3 : isOb ad cs 3 0 (fun R => [.ref (ad 4), .ref (ad 5), .int (R 2), .int (R 3)]) := ⟨by decide, fun R => rfl⟩
theorem ar_4 : isAr ad cs 4 0 24 := ⟨by decide, fun R => rfl⟩
theorem ar_5 : isAr ad cs 5 0 96 := ⟨by decide, fun R => rfl⟩
theorem ob_6 : isOb ad cs 6 5 (fun _ => [.ref (ad 7), .ref (ad 11)]) := ⟨by decide, fun R => rfl⟩
theorem ob_15 : isOb ad cs 15 2 (fun R => [.ref (ad 16), .int (R 1), .int (R 2)]) := ⟨by decide, fun R => rfl⟩
theorem rf_16 : isRf ad cs 16 3 8 (fun j => 78 + 26 * j) := ⟨by decide, fun R => rfl⟩
theorem rf_17 : isRf ad cs 17 3 2 (fun j => 286 + 26 * j) := ⟨by decide, fun R => rfl⟩
theorem ar_18 : isAr ad cs 18 1 2 := ⟨by decide, fun R => rfl⟩
theorem rf_19 : isRf ad cs 19 4 3 (fun j => 20 + 2 * j) := ⟨by decide, fun R => rfl⟩
theorem ob_338 : isOb ad cs 338 9 (fun R => [.ref (ad 339), .int (R 1), .int (R 2), .int (R 3), .int (R 4), .int (R 5), .ref (ad 340), .ref (ad 341), .int (R 8), .ref (ad 342), .ref (ad 343), .int (R 11), .int (R 12), .int (R 13), .int (R 14), .int (R 15), .ref (ad 344), .ref (ad 345), .ref (ad 346), .ref (ad 347), .ref (ad 348), .ref (ad 349)]) := ⟨by decide, fun R => rfl⟩
theorem ar_339 : isAr ad cs 339 0 1080 := ⟨by decide, fun R => rfl⟩
theorem ar_340 : isAr ad cs 340 1 2 := ⟨by decide, fun R => rfl⟩
theorem ar_341 : isAr ad cs 341 0 200 := ⟨by decide, fun R => rfl⟩
theorem ar_342 : isAr ad cs 342 0 3 := ⟨by decide, fun R => rfl⟩
theorem ar_343 : isAr ad cs 343 0 24 := ⟨by decide, fun R => rfl⟩
theorem ar_344 : isAr ad cs 344 0 4 := ⟨by decide, fun R => rfl⟩
theorem ar_345 : isAr ad cs 345 0 20 := ⟨by decide, fun R => rfl⟩
theorem ar_346 : isAr ad cs 346 0 12 := ⟨by decide, fun R => rfl⟩
theorem ar_347 : isAr ad cs 347 0 12 := ⟨by decide, fun R => rfl⟩
theorem ar_348 : isAr ad cs 348 0 2 := ⟨by decide, fun R => rfl⟩
theorem ar_349 : isAr ad cs 349 1 12 := ⟨by decide, fun R => rfl⟩
end Kinds
theorem isV_of {a j : Nat} (h : isN a) (hj : j < 8) : isV (a + 2 + 3 * j) := by
  obtain ⟨t, ht, rfl⟩ := h
  exact ⟨t, j, ht, hj, by omega⟩
theorem isN_past {j : Nat} (hj : j < 8) : isN (78 + 26 * j) := ⟨j + 2, by omega, by omega⟩
theorem isN_kept {j : Nat} (hj : j < 2) : isN (286 + 26 * j) := ⟨j + 10, by omega, by omega⟩
theorem isG_of {j : Nat} (hj : j < 3) : isG (20 + 2 * j) := by unfold isG; omega
theorem isN_26 : isN 26 := ⟨0, by decide, rfl⟩
theorem isN_52 : isN 52 := ⟨1, by decide, rfl⟩
theorem isS_7 : isS 7 := Or.inl rfl
theorem isS_11 : isS 11 := Or.inr rfl
/-! guards, and what a computation says when it comes to something -/
def okI (i : Int32) (n : Nat) : Bool := decide (0 ≤ i.toInt) && decide (i.toInt < (n : Int))
theorem okI_in {i : Int32} {n : Nat} (h : okI i n = true) : vp_in i n := by
  simp only [okI, Bool.and_eq_true, decide_eq_true_eq] at h
  exact vp_in_iff.mpr h
theorem okI_lt {i : Int32} {n : Nat} (h : okI i n = true) : ix i < n := by
  have h1 := okI_in h
  exact Nat.not_le.mp fun q => h1 (Or.inr q)
def okZ (v : Int32) : Bool := decide (v = 0) || decide (v = 1)
theorem okZ_or {v : Int32} (h : okZ v = true) : v = 0 ∨ v = 1 := by simpa [okZ] using h
def gd {α : Type} (c : Bool) (k : Option α) : Option α := if c = true then k else none
theorem gd_some {α β : Type} {c : Bool} {k : Option α} {g : α → Option β} {x : β} (h : (gd c k).bind g = some x) : c = true ∧ k.bind g = some x := by
  unfold gd at h
  by_cases hc : c = true
  · rw [if_pos hc] at h; exact ⟨hc, h⟩
  · rw [if_neg hc] at h; cases h
theorem gd_t {α : Type} {c : Bool} {k : Option α} (h : c = true) : gd c k = k := if_pos h
theorem cl_some {β γ : Type} {f : Option Rst} {k : Int32 → Mm → Option β} {g : β → Option γ} {x : γ} (h : (f.bind (fun q => k q.1 q.2)).bind g = some x) : ∃ r M1, f = some (r, M1) ∧ (k r M1).bind g = some x := by
  cases f with
  | none => cases h
  | some q => exact ⟨q.1, q.2, rfl, h⟩
theorem it_pos {α β : Type} {c : Prop} {_ : Decidable c} {A B : Option α} {g : α → Option β} {x : β} (h : (if c then A else B).bind g = some x) (hc : c) : A.bind g = some x := by rw [if_pos hc] at h; exact h
theorem it_neg {α β : Type} {c : Prop} {_ : Decidable c} {A B : Option α} {g : α → Option β} {x : β} (h : (if c then A else B).bind g = some x) (hc : ¬ c) : B.bind g = some x := by rw [if_neg hc] at h; exact h
/-! a method as steps from block to block -/
def itr (step : Sst → Option (Sst ⊕ Rst)) : Nat → Sst → Option Rst
  | 0, _ => none
  | n + 1, s => (step s).bind (fun q => match q with | .inl s' => itr step n s' | .inr r => some r)
theorem itr_mono (step : Sst → Option (Sst ⊕ Rst)) : ∀ (n : Nat) (s : Sst) (r : Rst), itr step n s = some r → itr step (n + 1) s = some r := by
  intro n
  induction n with
  | zero => intro s r h; cases h
  | succ n ih =>
    intro s r h
    rw [itr] at h ⊢
    cases hs : step s with
    | none => rw [hs] at h; cases h
    | some q =>
      rw [hs] at h
      cases q with
      | inl s' => exact ih s' r h
      | inr r' => exact h
theorem itr_le (step : Sst → Option (Sst ⊕ Rst)) {n m : Nat} {s : Sst} {r : Rst} (h : itr step n s = some r) (hm : n ≤ m) : itr step m s = some r := by
  induction hm with
  | refl => exact h
  | step _ ih => exact itr_mono step _ s r ih
noncomputable def run (step : Sst → Option (Sst ⊕ Rst)) (s : Sst) : Option Rst := by
  classical exact if h : ∃ r n, itr step n s = some r then some h.choose else none
theorem run_of {step : Sst → Option (Sst ⊕ Rst)} {s : Sst} {r : Rst} {n : Nat} (h : itr step n s = some r) : run step s = some r := by
  have hx : ∃ r n, itr step n s = some r := ⟨r, n, h⟩
  unfold run
  rw [dif_pos hx]
  obtain ⟨n2, h2⟩ := hx.choose_spec
  have a := itr_le step h (Nat.le_max_left n n2)
  have b := itr_le step h2 (Nat.le_max_right n n2)
  exact b.symm.trans a
theorem run_ex {step : Sst → Option (Sst ⊕ Rst)} {s : Sst} {r : Rst} (h : run step s = some r) : ∃ n, itr step n s = some r := by
  unfold run at h
  by_cases hx : ∃ r n, itr step n s = some r
  · rw [dif_pos hx] at h
    obtain ⟨n, hn⟩ := hx.choose_spec
    exact ⟨n, by rw [hn]; exact h⟩
  · rw [dif_neg hx] at h; cases h
/-- the one law of a run -/
theorem run_eq (step : Sst → Option (Sst ⊕ Rst)) (s : Sst) : run step s = (step s).bind (fun q => match q with | .inl s' => run step s' | .inr r => some r) := by
  cases hs : step s with
  | none =>
    cases hr : run step s with
    | none => rfl
    | some r =>
      obtain ⟨n, hn⟩ := run_ex hr
      cases n with
      | zero => cases hn
      | succ n => rw [itr, hs] at hn; cases hn
  | some q =>
    cases q with
    | inr r => exact run_of (n := 1) (by rw [itr, hs]; rfl)
    | inl s' =>
      show run step s = run step s'
      cases hr : run step s' with
      | some r =>
        obtain ⟨n, hn⟩ := run_ex hr
        exact run_of (n := n + 1) (by rw [itr, hs]; exact hn)
      | none =>
        cases hr2 : run step s with
        | none => rfl
        | some r =>
          obtain ⟨n, hn⟩ := run_ex hr2
          cases n with
          | zero => cases hn
          | succ n =>
            rw [itr, hs] at hn
            have := run_of (step := step) (s := s') hn
            rw [hr] at this
            cases this
def irem (x y : Int32) : Int32 := x - x / y * y
def imax (x y : Int32) : Int32 := if x < y then y else x
def imin (x y : Int32) : Int32 := if y < x then y else x
def ish (x y : Int32) : Int32 := x <<< (y &&& 31)
def isr (x y : Int32) : Int32 := x >>> (y &&& 31)
end
