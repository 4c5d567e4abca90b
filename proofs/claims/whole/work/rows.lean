section
-- ===== PART A: goes FIRST, ahead of the names: the tables' words, and 'selects' of the private methods out of them =====
/-- a private method of a class that the tables say can be made, by its rows of tables_1 -/
def lw_okq (q : MethodName × Nat) : Prop := (q.1.cls ≠ "java/lang/invoke/MethodHandle" ∧ q.1.cls ≠ "java/lang/invoke/VarHandle") ∧ Cond.instantiable q.1.cls q.2 ∈ tables_1 ∧ Cond.privateMethod q.1 ∈ tables_1 ∧ Cond.instanceMethod q.1 ∈ tables_1
theorem lw_p0 : lw_okq (⟨"ShuffledViews$Text", "letterAt", "(I)I"⟩, 5) := ⟨⟨by decide +kernel, by decide +kernel⟩, List.mem_of_getElem? (i := 26) (by decide +kernel), List.mem_of_getElem? (i := 291) (by decide +kernel), List.mem_of_getElem? (i := 292) (by decide +kernel)⟩
theorem lw_p1 : lw_okq (⟨"ShuffledViews$Text", "kindAt", "(I)I"⟩, 5) := ⟨⟨by decide +kernel, by decide +kernel⟩, List.mem_of_getElem? (i := 26) (by decide +kernel), List.mem_of_getElem? (i := 295) (by decide +kernel), List.mem_of_getElem? (i := 296) (by decide +kernel)⟩
theorem lw_p2 : lw_okq (⟨"ShuffledViews$Clauses", "readClause", "(LShuffledViews$Text;I)Z"⟩, 4) := ⟨⟨by decide +kernel, by decide +kernel⟩, List.mem_of_getElem? (i := 52) (by decide +kernel), List.mem_of_getElem? (i := 300) (by decide +kernel), List.mem_of_getElem? (i := 301) (by decide +kernel)⟩
theorem lw_p3 : lw_okq (⟨"ShuffledViews$Clauses", "fits", "(III)Z"⟩, 4) := ⟨⟨by decide +kernel, by decide +kernel⟩, List.mem_of_getElem? (i := 52) (by decide +kernel), List.mem_of_getElem? (i := 371) (by decide +kernel), List.mem_of_getElem? (i := 372) (by decide +kernel)⟩
theorem lw_p4 : lw_okq (⟨"ShuffledViews$Clauses", "formAt", "(I)I"⟩, 4) := ⟨⟨by decide +kernel, by decide +kernel⟩, List.mem_of_getElem? (i := 52) (by decide +kernel), List.mem_of_getElem? (i := 375) (by decide +kernel), List.mem_of_getElem? (i := 376) (by decide +kernel)⟩
theorem lw_p5 : lw_okq (⟨"ShuffledViews$Clauses", "mostOfNet", "(II)I"⟩, 4) := ⟨⟨by decide +kernel, by decide +kernel⟩, List.mem_of_getElem? (i := 52) (by decide +kernel), List.mem_of_getElem? (i := 382) (by decide +kernel), List.mem_of_getElem? (i := 383) (by decide +kernel)⟩
theorem lw_p6 : lw_okq (⟨"ShuffledViews$Clauses", "numberOf", "(II)I"⟩, 4) := ⟨⟨by decide +kernel, by decide +kernel⟩, List.mem_of_getElem? (i := 52) (by decide +kernel), List.mem_of_getElem? (i := 386) (by decide +kernel), List.mem_of_getElem? (i := 387) (by decide +kernel)⟩
theorem lw_p7 : lw_okq (⟨"ShuffledViews$Clauses", "doOne", "(LShuffledViews$Net;I)V"⟩, 4) := ⟨⟨by decide +kernel, by decide +kernel⟩, List.mem_of_getElem? (i := 52) (by decide +kernel), List.mem_of_getElem? (i := 399) (by decide +kernel), List.mem_of_getElem? (i := 400) (by decide +kernel)⟩
theorem lw_p8 : lw_okq (⟨"ShuffledViews$View", "isAskedBefore", "(II)Z"⟩, 3) := ⟨⟨by decide +kernel, by decide +kernel⟩, List.mem_of_getElem? (i := 79) (by decide +kernel), List.mem_of_getElem? (i := 510) (by decide +kernel), List.mem_of_getElem? (i := 511) (by decide +kernel)⟩
theorem lw_p9 : lw_okq (⟨"ShuffledViews$Shuffle", "swap", "(LShuffledViews$Net;II)V"⟩, 2) := ⟨⟨by decide +kernel, by decide +kernel⟩, List.mem_of_getElem? (i := 153) (by decide +kernel), List.mem_of_getElem? (i := 516) (by decide +kernel), List.mem_of_getElem? (i := 517) (by decide +kernel)⟩
theorem lw_p10 : lw_okq (⟨"ShuffledViews$Net", "waysOut", "(I)I"⟩, 7) := ⟨⟨by decide +kernel, by decide +kernel⟩, List.mem_of_getElem? (i := 72) (by decide +kernel), List.mem_of_getElem? (i := 636) (by decide +kernel), List.mem_of_getElem? (i := 637) (by decide +kernel)⟩
theorem lw_p11 : lw_okq (⟨"ShuffledViews$Net", "partOf", "(I)I"⟩, 7) := ⟨⟨by decide +kernel, by decide +kernel⟩, List.mem_of_getElem? (i := 72) (by decide +kernel), List.mem_of_getElem? (i := 715) (by decide +kernel), List.mem_of_getElem? (i := 716) (by decide +kernel)⟩
theorem lw_p12 : lw_okq (⟨"ShuffledViews$Net", "waysInto", "(I)I"⟩, 7) := ⟨⟨by decide +kernel, by decide +kernel⟩, List.mem_of_getElem? (i := 72) (by decide +kernel), List.mem_of_getElem? (i := 719) (by decide +kernel), List.mem_of_getElem? (i := 720) (by decide +kernel)⟩
theorem lw_p13 : lw_okq (⟨"ShuffledViews", "ringNumbers", "()I"⟩, 9) := ⟨⟨by decide +kernel, by decide +kernel⟩, List.mem_of_getElem? (i := 18) (by decide +kernel), List.mem_of_getElem? (i := 723) (by decide +kernel), List.mem_of_getElem? (i := 724) (by decide +kernel)⟩
theorem lw_p14 : lw_okq (⟨"ShuffledViewsModel", "anew", "(IIII)V"⟩, 22) := ⟨⟨by decide +kernel, by decide +kernel⟩, List.mem_of_getElem? (i := 727) (by decide +kernel), List.mem_of_getElem? (i := 733) (by decide +kernel), List.mem_of_getElem? (i := 734) (by decide +kernel)⟩
theorem lw_p15 : lw_okq (⟨"ShuffledViewsModel", "put", "(IIII)V"⟩, 22) := ⟨⟨by decide +kernel, by decide +kernel⟩, List.mem_of_getElem? (i := 727) (by decide +kernel), List.mem_of_getElem? (i := 737) (by decide +kernel), List.mem_of_getElem? (i := 738) (by decide +kernel)⟩
def lw_privs_1 : List (MethodName × Nat) := [(⟨"ShuffledViews$Text", "letterAt", "(I)I"⟩, 5), (⟨"ShuffledViews$Text", "kindAt", "(I)I"⟩, 5), (⟨"ShuffledViews$Clauses", "readClause", "(LShuffledViews$Text;I)Z"⟩, 4), (⟨"ShuffledViews$Clauses", "fits", "(III)Z"⟩, 4), (⟨"ShuffledViews$Clauses", "formAt", "(I)I"⟩, 4), (⟨"ShuffledViews$Clauses", "mostOfNet", "(II)I"⟩, 4), (⟨"ShuffledViews$Clauses", "numberOf", "(II)I"⟩, 4), (⟨"ShuffledViews$Clauses", "doOne", "(LShuffledViews$Net;I)V"⟩, 4), (⟨"ShuffledViews$View", "isAskedBefore", "(II)Z"⟩, 3), (⟨"ShuffledViews$Shuffle", "swap", "(LShuffledViews$Net;II)V"⟩, 2), (⟨"ShuffledViews$Net", "waysOut", "(I)I"⟩, 7), (⟨"ShuffledViews$Net", "partOf", "(I)I"⟩, 7), (⟨"ShuffledViews$Net", "waysInto", "(I)I"⟩, 7), (⟨"ShuffledViews", "ringNumbers", "()I"⟩, 9), (⟨"ShuffledViewsModel", "anew", "(IIII)V"⟩, 22), (⟨"ShuffledViewsModel", "put", "(IIII)V"⟩, 22)]
theorem lw_r1 : ∀ q ∈ lw_privs_1, lw_okq q := List.forall_mem_cons.mpr ⟨lw_p0, List.forall_mem_cons.mpr ⟨lw_p1, List.forall_mem_cons.mpr ⟨lw_p2, List.forall_mem_cons.mpr ⟨lw_p3, List.forall_mem_cons.mpr ⟨lw_p4, List.forall_mem_cons.mpr ⟨lw_p5, List.forall_mem_cons.mpr ⟨lw_p6, List.forall_mem_cons.mpr ⟨lw_p7, List.forall_mem_cons.mpr ⟨lw_p8, List.forall_mem_cons.mpr ⟨lw_p9, List.forall_mem_cons.mpr ⟨lw_p10, List.forall_mem_cons.mpr ⟨lw_p11, List.forall_mem_cons.mpr ⟨lw_p12, List.forall_mem_cons.mpr ⟨lw_p13, List.forall_mem_cons.mpr ⟨lw_p14, List.forall_mem_cons.mpr ⟨lw_p15, fun _ h => absurd h List.not_mem_nil⟩⟩⟩⟩⟩⟩⟩⟩⟩⟩⟩⟩⟩⟩⟩⟩
theorem lw_p16 : lw_okq (⟨"ShuffledViewsModel", "reads", "(Z)Z"⟩, 22) := ⟨⟨by decide +kernel, by decide +kernel⟩, List.mem_of_getElem? (i := 727) (by decide +kernel), List.mem_of_getElem? (i := 824) (by decide +kernel), List.mem_of_getElem? (i := 825) (by decide +kernel)⟩
theorem lw_p17 : lw_okq (⟨"ShuffledViewsModel", "nextToken", "()V"⟩, 22) := ⟨⟨by decide +kernel, by decide +kernel⟩, List.mem_of_getElem? (i := 727) (by decide +kernel), List.mem_of_getElem? (i := 828) (by decide +kernel), List.mem_of_getElem? (i := 829) (by decide +kernel)⟩
theorem lw_p18 : lw_okq (⟨"ShuffledViewsModel", "readsClause", "()Z"⟩, 22) := ⟨⟨by decide +kernel, by decide +kernel⟩, List.mem_of_getElem? (i := 727) (by decide +kernel), List.mem_of_getElem? (i := 842) (by decide +kernel), List.mem_of_getElem? (i := 843) (by decide +kernel)⟩
theorem lw_p19 : lw_okq (⟨"ShuffledViewsModel", "wordHere", "()I"⟩, 22) := ⟨⟨by decide +kernel, by decide +kernel⟩, List.mem_of_getElem? (i := 727) (by decide +kernel), List.mem_of_getElem? (i := 846) (by decide +kernel), List.mem_of_getElem? (i := 847) (by decide +kernel)⟩
theorem lw_p20 : lw_okq (⟨"ShuffledViewsModel", "readsRest", "(I)Z"⟩, 22) := ⟨⟨by decide +kernel, by decide +kernel⟩, List.mem_of_getElem? (i := 727) (by decide +kernel), List.mem_of_getElem? (i := 850) (by decide +kernel), List.mem_of_getElem? (i := 851) (by decide +kernel)⟩
theorem lw_p21 : lw_okq (⟨"ShuffledViewsModel", "number", "(IIII)Z"⟩, 22) := ⟨⟨by decide +kernel, by decide +kernel⟩, List.mem_of_getElem? (i := 727) (by decide +kernel), List.mem_of_getElem? (i := 854) (by decide +kernel), List.mem_of_getElem? (i := 855) (by decide +kernel)⟩
theorem lw_p22 : lw_okq (⟨"ShuffledViewsModel", "readsNode", "(II)Z"⟩, 22) := ⟨⟨by decide +kernel, by decide +kernel⟩, List.mem_of_getElem? (i := 727) (by decide +kernel), List.mem_of_getElem? (i := 858) (by decide +kernel), List.mem_of_getElem? (i := 859) (by decide +kernel)⟩
theorem lw_p23 : lw_okq (⟨"ShuffledViewsModel", "does", "(I)V"⟩, 22) := ⟨⟨by decide +kernel, by decide +kernel⟩, List.mem_of_getElem? (i := 727) (by decide +kernel), List.mem_of_getElem? (i := 862) (by decide +kernel), List.mem_of_getElem? (i := 863) (by decide +kernel)⟩
theorem lw_p24 : lw_okq (⟨"ShuffledViewsModel", "links", "(III)V"⟩, 22) := ⟨⟨by decide +kernel, by decide +kernel⟩, List.mem_of_getElem? (i := 727) (by decide +kernel), List.mem_of_getElem? (i := 866) (by decide +kernel), List.mem_of_getElem? (i := 867) (by decide +kernel)⟩
theorem lw_p25 : lw_okq (⟨"ShuffledViewsModel", "placeOf", "(III)I"⟩, 22) := ⟨⟨by decide +kernel, by decide +kernel⟩, List.mem_of_getElem? (i := 727) (by decide +kernel), List.mem_of_getElem? (i := 870) (by decide +kernel), List.mem_of_getElem? (i := 871) (by decide +kernel)⟩
theorem lw_p26 : lw_okq (⟨"ShuffledViewsModel", "replace", "(IIIII)V"⟩, 22) := ⟨⟨by decide +kernel, by decide +kernel⟩, List.mem_of_getElem? (i := 727) (by decide +kernel), List.mem_of_getElem? (i := 874) (by decide +kernel), List.mem_of_getElem? (i := 875) (by decide +kernel)⟩
theorem lw_p27 : lw_okq (⟨"ShuffledViewsModel", "strike", "(III)V"⟩, 22) := ⟨⟨by decide +kernel, by decide +kernel⟩, List.mem_of_getElem? (i := 727) (by decide +kernel), List.mem_of_getElem? (i := 878) (by decide +kernel), List.mem_of_getElem? (i := 879) (by decide +kernel)⟩
theorem lw_p28 : lw_okq (⟨"ShuffledViewsModel", "isNode", "(I)Z"⟩, 22) := ⟨⟨by decide +kernel, by decide +kernel⟩, List.mem_of_getElem? (i := 727) (by decide +kernel), List.mem_of_getElem? (i := 890) (by decide +kernel), List.mem_of_getElem? (i := 891) (by decide +kernel)⟩
theorem lw_p29 : lw_okq (⟨"ShuffledViewsModel", "isDead", "(II)Z"⟩, 22) := ⟨⟨by decide +kernel, by decide +kernel⟩, List.mem_of_getElem? (i := 727) (by decide +kernel), List.mem_of_getElem? (i := 894) (by decide +kernel), List.mem_of_getElem? (i := 895) (by decide +kernel)⟩
theorem lw_p30 : lw_okq (⟨"ShuffledViewsModel", "known", "(II)I"⟩, 22) := ⟨⟨by decide +kernel, by decide +kernel⟩, List.mem_of_getElem? (i := 727) (by decide +kernel), List.mem_of_getElem? (i := 901) (by decide +kernel), List.mem_of_getElem? (i := 902) (by decide +kernel)⟩
theorem lw_p31 : lw_okq (⟨"ShuffledViewsModel", "viewOf", "(I)I"⟩, 22) := ⟨⟨by decide +kernel, by decide +kernel⟩, List.mem_of_getElem? (i := 727) (by decide +kernel), List.mem_of_getElem? (i := 905) (by decide +kernel), List.mem_of_getElem? (i := 906) (by decide +kernel)⟩
def lw_privs_2 : List (MethodName × Nat) := [(⟨"ShuffledViewsModel", "reads", "(Z)Z"⟩, 22), (⟨"ShuffledViewsModel", "nextToken", "()V"⟩, 22), (⟨"ShuffledViewsModel", "readsClause", "()Z"⟩, 22), (⟨"ShuffledViewsModel", "wordHere", "()I"⟩, 22), (⟨"ShuffledViewsModel", "readsRest", "(I)Z"⟩, 22), (⟨"ShuffledViewsModel", "number", "(IIII)Z"⟩, 22), (⟨"ShuffledViewsModel", "readsNode", "(II)Z"⟩, 22), (⟨"ShuffledViewsModel", "does", "(I)V"⟩, 22), (⟨"ShuffledViewsModel", "links", "(III)V"⟩, 22), (⟨"ShuffledViewsModel", "placeOf", "(III)I"⟩, 22), (⟨"ShuffledViewsModel", "replace", "(IIIII)V"⟩, 22), (⟨"ShuffledViewsModel", "strike", "(III)V"⟩, 22), (⟨"ShuffledViewsModel", "isNode", "(I)Z"⟩, 22), (⟨"ShuffledViewsModel", "isDead", "(II)Z"⟩, 22), (⟨"ShuffledViewsModel", "known", "(II)I"⟩, 22), (⟨"ShuffledViewsModel", "viewOf", "(I)I"⟩, 22)]
theorem lw_r2 : ∀ q ∈ lw_privs_2, lw_okq q := List.forall_mem_cons.mpr ⟨lw_p16, List.forall_mem_cons.mpr ⟨lw_p17, List.forall_mem_cons.mpr ⟨lw_p18, List.forall_mem_cons.mpr ⟨lw_p19, List.forall_mem_cons.mpr ⟨lw_p20, List.forall_mem_cons.mpr ⟨lw_p21, List.forall_mem_cons.mpr ⟨lw_p22, List.forall_mem_cons.mpr ⟨lw_p23, List.forall_mem_cons.mpr ⟨lw_p24, List.forall_mem_cons.mpr ⟨lw_p25, List.forall_mem_cons.mpr ⟨lw_p26, List.forall_mem_cons.mpr ⟨lw_p27, List.forall_mem_cons.mpr ⟨lw_p28, List.forall_mem_cons.mpr ⟨lw_p29, List.forall_mem_cons.mpr ⟨lw_p30, List.forall_mem_cons.mpr ⟨lw_p31, fun _ h => absurd h List.not_mem_nil⟩⟩⟩⟩⟩⟩⟩⟩⟩⟩⟩⟩⟩⟩⟩⟩
theorem lw_p32 : lw_okq (⟨"ShuffledViewsModel", "keepPast", "()V"⟩, 22) := ⟨⟨by decide +kernel, by decide +kernel⟩, List.mem_of_getElem? (i := 727) (by decide +kernel), List.mem_of_getElem? (i := 917) (by decide +kernel), List.mem_of_getElem? (i := 918) (by decide +kernel)⟩
theorem lw_p33 : lw_okq (⟨"ShuffledViewsModel", "copyRow", "(II)V"⟩, 22) := ⟨⟨by decide +kernel, by decide +kernel⟩, List.mem_of_getElem? (i := 727) (by decide +kernel), List.mem_of_getElem? (i := 921) (by decide +kernel), List.mem_of_getElem? (i := 922) (by decide +kernel)⟩
theorem lw_p34 : lw_okq (⟨"ShuffledViewsModel", "rounds", "(II)I"⟩, 22) := ⟨⟨by decide +kernel, by decide +kernel⟩, List.mem_of_getElem? (i := 727) (by decide +kernel), List.mem_of_getElem? (i := 925) (by decide +kernel), List.mem_of_getElem? (i := 926) (by decide +kernel)⟩
theorem lw_p35 : lw_okq (⟨"ShuffledViewsModel", "ages", "(II)V"⟩, 22) := ⟨⟨by decide +kernel, by decide +kernel⟩, List.mem_of_getElem? (i := 727) (by decide +kernel), List.mem_of_getElem? (i := 929) (by decide +kernel), List.mem_of_getElem? (i := 930) (by decide +kernel)⟩
theorem lw_p36 : lw_okq (⟨"ShuffledViewsModel", "oldest", "(II)I"⟩, 22) := ⟨⟨by decide +kernel, by decide +kernel⟩, List.mem_of_getElem? (i := 727) (by decide +kernel), List.mem_of_getElem? (i := 933) (by decide +kernel), List.mem_of_getElem? (i := 934) (by decide +kernel)⟩
theorem lw_p37 : lw_okq (⟨"ShuffledViewsModel", "send", "(III)V"⟩, 22) := ⟨⟨by decide +kernel, by decide +kernel⟩, List.mem_of_getElem? (i := 727) (by decide +kernel), List.mem_of_getElem? (i := 937) (by decide +kernel), List.mem_of_getElem? (i := 938) (by decide +kernel)⟩
theorem lw_p38 : lw_okq (⟨"ShuffledViewsModel", "sends", "(III)V"⟩, 22) := ⟨⟨by decide +kernel, by decide +kernel⟩, List.mem_of_getElem? (i := 727) (by decide +kernel), List.mem_of_getElem? (i := 941) (by decide +kernel), List.mem_of_getElem? (i := 942) (by decide +kernel)⟩
theorem lw_p39 : lw_okq (⟨"ShuffledViewsModel", "draw", "(II)I"⟩, 22) := ⟨⟨by decide +kernel, by decide +kernel⟩, List.mem_of_getElem? (i := 727) (by decide +kernel), List.mem_of_getElem? (i := 945) (by decide +kernel), List.mem_of_getElem? (i := 946) (by decide +kernel)⟩
theorem lw_p40 : lw_okq (⟨"ShuffledViewsModel", "isSent", "(II)Z"⟩, 22) := ⟨⟨by decide +kernel, by decide +kernel⟩, List.mem_of_getElem? (i := 727) (by decide +kernel), List.mem_of_getElem? (i := 950) (by decide +kernel), List.mem_of_getElem? (i := 951) (by decide +kernel)⟩
theorem lw_p41 : lw_okq (⟨"ShuffledViewsModel", "takes", "(III)V"⟩, 22) := ⟨⟨by decide +kernel, by decide +kernel⟩, List.mem_of_getElem? (i := 727) (by decide +kernel), List.mem_of_getElem? (i := 954) (by decide +kernel), List.mem_of_getElem? (i := 955) (by decide +kernel)⟩
theorem lw_p42 : lw_okq (⟨"ShuffledViewsModel", "giveUp", "(III)I"⟩, 22) := ⟨⟨by decide +kernel, by decide +kernel⟩, List.mem_of_getElem? (i := 727) (by decide +kernel), List.mem_of_getElem? (i := 958) (by decide +kernel), List.mem_of_getElem? (i := 959) (by decide +kernel)⟩
theorem lw_p43 : lw_okq (⟨"ShuffledViewsModel", "cycles", "(I)V"⟩, 22) := ⟨⟨by decide +kernel, by decide +kernel⟩, List.mem_of_getElem? (i := 727) (by decide +kernel), List.mem_of_getElem? (i := 967) (by decide +kernel), List.mem_of_getElem? (i := 968) (by decide +kernel)⟩
theorem lw_p44 : lw_okq (⟨"ShuffledViewsModel", "entries", "()I"⟩, 22) := ⟨⟨by decide +kernel, by decide +kernel⟩, List.mem_of_getElem? (i := 727) (by decide +kernel), List.mem_of_getElem? (i := 971) (by decide +kernel), List.mem_of_getElem? (i := 972) (by decide +kernel)⟩
theorem lw_p45 : lw_okq (⟨"ShuffledViewsModel", "alive", "(I)I"⟩, 22) := ⟨⟨by decide +kernel, by decide +kernel⟩, List.mem_of_getElem? (i := 727) (by decide +kernel), List.mem_of_getElem? (i := 979) (by decide +kernel), List.mem_of_getElem? (i := 980) (by decide +kernel)⟩
theorem lw_p46 : lw_okq (⟨"ShuffledViewsModel", "extreme", "(IZ)I"⟩, 22) := ⟨⟨by decide +kernel, by decide +kernel⟩, List.mem_of_getElem? (i := 727) (by decide +kernel), List.mem_of_getElem? (i := 1015) (by decide +kernel), List.mem_of_getElem? (i := 1016) (by decide +kernel)⟩
theorem lw_p47 : lw_okq (⟨"ShuffledViewsModel", "goesOn", "(I)V"⟩, 22) := ⟨⟨by decide +kernel, by decide +kernel⟩, List.mem_of_getElem? (i := 727) (by decide +kernel), List.mem_of_getElem? (i := 1042) (by decide +kernel), List.mem_of_getElem? (i := 1043) (by decide +kernel)⟩
def lw_privs_3 : List (MethodName × Nat) := [(⟨"ShuffledViewsModel", "keepPast", "()V"⟩, 22), (⟨"ShuffledViewsModel", "copyRow", "(II)V"⟩, 22), (⟨"ShuffledViewsModel", "rounds", "(II)I"⟩, 22), (⟨"ShuffledViewsModel", "ages", "(II)V"⟩, 22), (⟨"ShuffledViewsModel", "oldest", "(II)I"⟩, 22), (⟨"ShuffledViewsModel", "send", "(III)V"⟩, 22), (⟨"ShuffledViewsModel", "sends", "(III)V"⟩, 22), (⟨"ShuffledViewsModel", "draw", "(II)I"⟩, 22), (⟨"ShuffledViewsModel", "isSent", "(II)Z"⟩, 22), (⟨"ShuffledViewsModel", "takes", "(III)V"⟩, 22), (⟨"ShuffledViewsModel", "giveUp", "(III)I"⟩, 22), (⟨"ShuffledViewsModel", "cycles", "(I)V"⟩, 22), (⟨"ShuffledViewsModel", "entries", "()I"⟩, 22), (⟨"ShuffledViewsModel", "alive", "(I)I"⟩, 22), (⟨"ShuffledViewsModel", "extreme", "(IZ)I"⟩, 22), (⟨"ShuffledViewsModel", "goesOn", "(I)V"⟩, 22)]
theorem lw_r3 : ∀ q ∈ lw_privs_3, lw_okq q := List.forall_mem_cons.mpr ⟨lw_p32, List.forall_mem_cons.mpr ⟨lw_p33, List.forall_mem_cons.mpr ⟨lw_p34, List.forall_mem_cons.mpr ⟨lw_p35, List.forall_mem_cons.mpr ⟨lw_p36, List.forall_mem_cons.mpr ⟨lw_p37, List.forall_mem_cons.mpr ⟨lw_p38, List.forall_mem_cons.mpr ⟨lw_p39, List.forall_mem_cons.mpr ⟨lw_p40, List.forall_mem_cons.mpr ⟨lw_p41, List.forall_mem_cons.mpr ⟨lw_p42, List.forall_mem_cons.mpr ⟨lw_p43, List.forall_mem_cons.mpr ⟨lw_p44, List.forall_mem_cons.mpr ⟨lw_p45, List.forall_mem_cons.mpr ⟨lw_p46, List.forall_mem_cons.mpr ⟨lw_p47, fun _ h => absurd h List.not_mem_nil⟩⟩⟩⟩⟩⟩⟩⟩⟩⟩⟩⟩⟩⟩⟩⟩
theorem lw_p48 : lw_okq (⟨"ShuffledViewsModel", "takesOne", "(I)I"⟩, 22) := ⟨⟨by decide +kernel, by decide +kernel⟩, List.mem_of_getElem? (i := 727) (by decide +kernel), List.mem_of_getElem? (i := 1050) (by decide +kernel), List.mem_of_getElem? (i := 1051) (by decide +kernel)⟩
theorem lw_p49 : lw_okq (⟨"ShuffledViewsModel", "parts", "()I"⟩, 22) := ⟨⟨by decide +kernel, by decide +kernel⟩, List.mem_of_getElem? (i := 727) (by decide +kernel), List.mem_of_getElem? (i := 1072) (by decide +kernel), List.mem_of_getElem? (i := 1073) (by decide +kernel)⟩
theorem lw_p50 : lw_okq (⟨"ShuffledViewsModel", "allNumbers", "()I"⟩, 22) := ⟨⟨by decide +kernel, by decide +kernel⟩, List.mem_of_getElem? (i := 727) (by decide +kernel), List.mem_of_getElem? (i := 1076) (by decide +kernel), List.mem_of_getElem? (i := 1077) (by decide +kernel)⟩
def lw_privs_4 : List (MethodName × Nat) := [(⟨"ShuffledViewsModel", "takesOne", "(I)I"⟩, 22), (⟨"ShuffledViewsModel", "parts", "()I"⟩, 22), (⟨"ShuffledViewsModel", "allNumbers", "()I"⟩, 22)]
theorem lw_r4 : ∀ q ∈ lw_privs_4, lw_okq q := List.forall_mem_cons.mpr ⟨lw_p48, List.forall_mem_cons.mpr ⟨lw_p49, List.forall_mem_cons.mpr ⟨lw_p50, fun _ h => absurd h List.not_mem_nil⟩⟩⟩
def lw_privs : List (MethodName × Nat) := lw_privs_1 ++ (lw_privs_2 ++ (lw_privs_3 ++ (lw_privs_4)))
def lw_tbl : List Cond := k2_sels lw_privs ++ tables_1
theorem lw_privs_ok : ∀ q ∈ lw_privs, lw_okq q := by
  show ∀ q ∈ lw_privs_1 ++ (lw_privs_2 ++ (lw_privs_3 ++ (lw_privs_4))), lw_okq q
  exact List.forall_mem_append.mpr ⟨lw_r1, List.forall_mem_append.mpr ⟨lw_r2, List.forall_mem_append.mpr ⟨lw_r3, lw_r4⟩⟩⟩
-- ===== end of PART A; then your names; then what follows =====
end
section
def RX0 : String := "ShuffledViews$Clauses"
def TX0 : u_T := fun k => match k with
  | 0 => ("ShuffledViews$Clauses", "forms", "[I", true)
  | 1 => ("ShuffledViews$Clauses", "numbers", "[I", true)
  | 2 => ("ShuffledViews$Clauses", "size", "I", false)
  | _ => ("ShuffledViews$Clauses", "nodesThen", "I", false)
def tyX0 : Nat → FieldType := fun k => match k with
  | 0 => .array .int
  | 1 => .array .int
  | 2 => .int
  | _ => .int
abbrev wsX00 : List Cond := u_ws RX0 TX0 4
theorem nmX0 : ∀ a, a < 4 → ∀ b, b < 4 → a ≠ b → (TX0 a).2.1 ≠ (TX0 b).2.1 := by decide +kernel
theorem tyX0_ok : ∀ k, k < 4 → parseFieldDescriptor (TX0 k).2.2.1 = some (tyX0 k) := by decide +kernel
abbrev cX0_init : ByteArray := prog_2_method_1_code
def yX0_init : MethodName := ⟨RX0, "<init>", "()V"⟩
abbrev cX0_read : ByteArray := prog_2_method_2_code
def yX0_read : MethodName := ⟨RX0, "read", "(LShuffledViews$Text;I)I"⟩
abbrev cX0_readClause : ByteArray := prog_2_method_3_code
def yX0_readClause : MethodName := ⟨RX0, "readClause", "(LShuffledViews$Text;I)Z"⟩
abbrev cX0_fits : ByteArray := prog_2_method_4_code
def yX0_fits : MethodName := ⟨RX0, "fits", "(III)Z"⟩
abbrev cX0_leastOfNet : ByteArray := prog_2_method_5_code
def yX0_leastOfNet : MethodName := ⟨RX0, "leastOfNet", "(I)I"⟩
abbrev cX0_mostOfNet : ByteArray := prog_2_method_6_code
def yX0_mostOfNet : MethodName := ⟨RX0, "mostOfNet", "(II)I"⟩
abbrev cX0_formOf : ByteArray := prog_2_method_7_code
def yX0_formOf : MethodName := ⟨RX0, "formOf", "(LShuffledViews$Text;)I"⟩
abbrev cX0_numbersOf : ByteArray := prog_2_method_8_code
def yX0_numbersOf : MethodName := ⟨RX0, "numbersOf", "(I)I"⟩
abbrev cX0_formAt : ByteArray := prog_2_method_9_code
def yX0_formAt : MethodName := ⟨RX0, "formAt", "(I)I"⟩
abbrev cX0_numberOf : ByteArray := prog_2_method_10_code
def yX0_numberOf : MethodName := ⟨RX0, "numberOf", "(II)I"⟩
abbrev cX0_doAll : ByteArray := prog_2_method_11_code
def yX0_doAll : MethodName := ⟨RX0, "doAll", "(LShuffledViews$Net;)V"⟩
abbrev cX0_doOne : ByteArray := prog_2_method_12_code
def yX0_doOne : MethodName := ⟨RX0, "doOne", "(LShuffledViews$Net;I)V"⟩
def RX1 : String := "ShuffledViews$Net"
def TX1 : u_T := fun k => match k with
  | 0 => ("ShuffledViews$Net", "views", "[LShuffledViews$View;", true)
  | 1 => ("ShuffledViews$Net", "nodes", "I", false)
  | 2 => ("ShuffledViews$Net", "room", "I", false)
  | 3 => ("ShuffledViews$Net", "slice", "I", false)
  | 4 => ("ShuffledViews$Net", "draws", "I", false)
  | 5 => ("ShuffledViews$Net", "alive", "I", false)
  | _ => ("ShuffledViews$Net", "sly", "I", false)
def tyX1 : Nat → FieldType := fun k => match k with
  | 0 => .array (.object "ShuffledViews$View")
  | 1 => .int
  | 2 => .int
  | 3 => .int
  | 4 => .int
  | 5 => .int
  | _ => .int
abbrev wsX10 : List Cond := u_ws RX1 TX1 7
theorem nmX1 : ∀ a, a < 7 → ∀ b, b < 7 → a ≠ b → (TX1 a).2.1 ≠ (TX1 b).2.1 := by decide +kernel
theorem tyX1_ok : ∀ k, k < 7 → parseFieldDescriptor (TX1 k).2.2.1 = some (tyX1 k) := by decide +kernel
abbrev cX1_init : ByteArray := prog_3_method_1_code
def yX1_init : MethodName := ⟨RX1, "<init>", "()V"⟩
abbrev cX1_begin : ByteArray := prog_3_method_2_code
def yX1_begin : MethodName := ⟨RX1, "begin", "(IIII)V"⟩
abbrev cX1_copyFrom : ByteArray := prog_3_method_3_code
def yX1_copyFrom : MethodName := ⟨RX1, "copyFrom", "(LShuffledViews$Net;)V"⟩
abbrev cX1_has : ByteArray := prog_3_method_4_code
def yX1_has : MethodName := ⟨RX1, "has", "(I)Z"⟩
abbrev cX1_hasTwo : ByteArray := prog_3_method_5_code
def yX1_hasTwo : MethodName := ⟨RX1, "hasTwo", "(II)Z"⟩
abbrev cX1_isAlive : ByteArray := prog_3_method_6_code
def yX1_isAlive : MethodName := ⟨RX1, "isAlive", "(I)Z"⟩
abbrev cX1_isSly : ByteArray := prog_3_method_7_code
def yX1_isSly : MethodName := ⟨RX1, "isSly", "(I)Z"⟩
abbrev cX1_setAlive : ByteArray := prog_3_method_8_code
def yX1_setAlive : MethodName := ⟨RX1, "setAlive", "(IZ)V"⟩
abbrev cX1_setSly : ByteArray := prog_3_method_9_code
def yX1_setSly : MethodName := ⟨RX1, "setSly", "(I)V"⟩
abbrev cX1_putLink : ByteArray := prog_3_method_10_code
def yX1_putLink : MethodName := ⟨RX1, "putLink", "(III)V"⟩
abbrev cX1_cutLink : ByteArray := prog_3_method_11_code
def yX1_cutLink : MethodName := ⟨RX1, "cutLink", "(II)V"⟩
abbrev cX1_draw : ByteArray := prog_3_method_12_code
def yX1_draw : MethodName := ⟨RX1, "draw", "(I)I"⟩
abbrev cX1_entries : ByteArray := prog_3_method_13_code
def yX1_entries : MethodName := ⟨RX1, "entries", "()I"⟩
abbrev cX1_known : ByteArray := prog_3_method_14_code
def yX1_known : MethodName := ⟨RX1, "known", "(I)I"⟩
abbrev cX1_mostKnown : ByteArray := prog_3_method_15_code
def yX1_mostKnown : MethodName := ⟨RX1, "mostKnown", "()I"⟩
abbrev cX1_leastKnown : ByteArray := prog_3_method_16_code
def yX1_leastKnown : MethodName := ⟨RX1, "leastKnown", "()I"⟩
abbrev cX1_fewestWays : ByteArray := prog_3_method_17_code
def yX1_fewestWays : MethodName := ⟨RX1, "fewestWays", "(II)I"⟩
abbrev cX1_parts : ByteArray := prog_3_method_18_code
def yX1_parts : MethodName := ⟨RX1, "parts", "()I"⟩
abbrev cX1_partOf : ByteArray := prog_3_method_19_code
def yX1_partOf : MethodName := ⟨RX1, "partOf", "(I)I"⟩
abbrev cX1_waysOut : ByteArray := prog_3_method_20_code
def yX1_waysOut : MethodName := ⟨RX1, "waysOut", "(I)I"⟩
abbrev cX1_waysInto : ByteArray := prog_3_method_21_code
def yX1_waysInto : MethodName := ⟨RX1, "waysInto", "(I)I"⟩
def RX2 : String := "ShuffledViews$Past"
def TX2 : u_T := fun k => match k with
  | 0 => ("ShuffledViews$Past", "nets", "[LShuffledViews$Net;", true)
  | 1 => ("ShuffledViews$Past", "top", "I", false)
  | _ => ("ShuffledViews$Past", "size", "I", false)
def tyX2 : Nat → FieldType := fun k => match k with
  | 0 => .array (.object "ShuffledViews$Net")
  | 1 => .int
  | _ => .int
abbrev wsX20 : List Cond := u_ws RX2 TX2 3
theorem nmX2 : ∀ a, a < 3 → ∀ b, b < 3 → a ≠ b → (TX2 a).2.1 ≠ (TX2 b).2.1 := by decide +kernel
theorem tyX2_ok : ∀ k, k < 3 → parseFieldDescriptor (TX2 k).2.2.1 = some (tyX2 k) := by decide +kernel
abbrev cX2_init : ByteArray := prog_4_method_1_code
def yX2_init : MethodName := ⟨RX2, "<init>", "()V"⟩
abbrev cX2_clear : ByteArray := prog_4_method_2_code
def yX2_clear : MethodName := ⟨RX2, "clear", "()V"⟩
abbrev cX2_push : ByteArray := prog_4_method_3_code
def yX2_push : MethodName := ⟨RX2, "push", "(LShuffledViews$Net;)V"⟩
abbrev cX2_pop : ByteArray := prog_4_method_4_code
def yX2_pop : MethodName := ⟨RX2, "pop", "(LShuffledViews$Net;)V"⟩
def RX3 : String := "ShuffledViews$Ring"
def TX3 : u_T := fun k => match k with
  | 0 => ("ShuffledViews$Ring", "numbers", "[I", true)
  | 1 => ("ShuffledViews$Ring", "size", "I", false)
  | 2 => ("ShuffledViews$Ring", "hand", "I", false)
  | _ => ("ShuffledViews$Ring", "missing", "Z", false)
def tyX3 : Nat → FieldType := fun k => match k with
  | 0 => .array .int
  | 1 => .int
  | 2 => .int
  | _ => .boolean
abbrev wsX30 : List Cond := u_ws RX3 TX3 4
theorem nmX3 : ∀ a, a < 4 → ∀ b, b < 4 → a ≠ b → (TX3 a).2.1 ≠ (TX3 b).2.1 := by decide +kernel
theorem tyX3_ok : ∀ k, k < 4 → parseFieldDescriptor (TX3 k).2.2.1 = some (tyX3 k) := by decide +kernel
abbrev cX3_init : ByteArray := prog_5_method_1_code
def yX3_init : MethodName := ⟨RX3, "<init>", "()V"⟩
abbrev cX3_renew : ByteArray := prog_5_method_2_code
def yX3_renew : MethodName := ⟨RX3, "renew", "()V"⟩
abbrev cX3_lose : ByteArray := prog_5_method_3_code
def yX3_lose : MethodName := ⟨RX3, "lose", "()V"⟩
abbrev cX3_lack : ByteArray := prog_5_method_4_code
def yX3_lack : MethodName := ⟨RX3, "lack", "()I"⟩
abbrev cX3_insert : ByteArray := prog_5_method_5_code
def yX3_insert : MethodName := ⟨RX3, "insert", "(I)V"⟩
abbrev cX3_moveHand : ByteArray := prog_5_method_6_code
def yX3_moveHand : MethodName := ⟨RX3, "moveHand", "(I)V"⟩
abbrev cX3_atHand : ByteArray := prog_5_method_7_code
def yX3_atHand : MethodName := ⟨RX3, "atHand", "()I"⟩
abbrev cX3_removeAtHand : ByteArray := prog_5_method_8_code
def yX3_removeAtHand : MethodName := ⟨RX3, "removeAtHand", "()V"⟩
abbrev cX3_countOut : ByteArray := prog_5_method_9_code
def yX3_countOut : MethodName := ⟨RX3, "countOut", "(I)V"⟩
abbrev cX3_total : ByteArray := prog_5_method_10_code
def yX3_total : MethodName := ⟨RX3, "total", "()I"⟩
def RX4 : String := "ShuffledViews$Sent"
def TX4 : u_T := fun k => match k with
  | 0 => ("ShuffledViews$Sent", "nodes", "[I", true)
  | 1 => ("ShuffledViews$Sent", "ages", "[I", true)
  | 2 => ("ShuffledViews$Sent", "places", "[I", true)
  | _ => ("ShuffledViews$Sent", "size", "I", false)
def tyX4 : Nat → FieldType := fun k => match k with
  | 0 => .array .int
  | 1 => .array .int
  | 2 => .array .int
  | _ => .int
abbrev wsX40 : List Cond := u_ws RX4 TX4 4
theorem nmX4 : ∀ a, a < 4 → ∀ b, b < 4 → a ≠ b → (TX4 a).2.1 ≠ (TX4 b).2.1 := by decide +kernel
theorem tyX4_ok : ∀ k, k < 4 → parseFieldDescriptor (TX4 k).2.2.1 = some (tyX4 k) := by decide +kernel
abbrev cX4_init : ByteArray := prog_6_method_1_code
def yX4_init : MethodName := ⟨RX4, "<init>", "()V"⟩
abbrev cX4_clear : ByteArray := prog_6_method_2_code
def yX4_clear : MethodName := ⟨RX4, "clear", "()V"⟩
abbrev cX4_put : ByteArray := prog_6_method_3_code
def yX4_put : MethodName := ⟨RX4, "put", "(III)V"⟩
abbrev cX4_putItself : ByteArray := prog_6_method_4_code
def yX4_putItself : MethodName := ⟨RX4, "putItself", "(I)V"⟩
abbrev cX4_putDrawn : ByteArray := prog_6_method_5_code
def yX4_putDrawn : MethodName := ⟨RX4, "putDrawn", "(LShuffledViews$Net;LShuffledViews$View;)V"⟩
abbrev cX4_unsentPlace : ByteArray := prog_6_method_6_code
def yX4_unsentPlace : MethodName := ⟨RX4, "unsentPlace", "(LShuffledViews$View;II)I"⟩
abbrev cX4_giveUpPlace : ByteArray := prog_6_method_7_code
def yX4_giveUpPlace : MethodName := ⟨RX4, "giveUpPlace", "()I"⟩
def RX5 : String := "ShuffledViews$Shuffle"
def TX5 : u_T := fun k => match k with
  | 0 => ("ShuffledViews$Shuffle", "bySender", "LShuffledViews$Sent;", true)
  | _ => ("ShuffledViews$Shuffle", "byAsked", "LShuffledViews$Sent;", true)
def tyX5 : Nat → FieldType := fun k => match k with
  | 0 => .object "ShuffledViews$Sent"
  | _ => .object "ShuffledViews$Sent"
abbrev wsX50 : List Cond := u_ws RX5 TX5 2
theorem nmX5 : ∀ a, a < 2 → ∀ b, b < 2 → a ≠ b → (TX5 a).2.1 ≠ (TX5 b).2.1 := by decide +kernel
theorem tyX5_ok : ∀ k, k < 2 → parseFieldDescriptor (TX5 k).2.2.1 = some (tyX5 k) := by decide +kernel
abbrev cX5_init : ByteArray := prog_7_method_1_code
def yX5_init : MethodName := ⟨RX5, "<init>", "()V"⟩
abbrev cX5_roundOf : ByteArray := prog_7_method_2_code
def yX5_roundOf : MethodName := ⟨RX5, "roundOf", "(LShuffledViews$Net;I)I"⟩
abbrev cX5_cyclesOf : ByteArray := prog_7_method_3_code
def yX5_cyclesOf : MethodName := ⟨RX5, "cyclesOf", "(LShuffledViews$Net;I)V"⟩
abbrev cX5_swap : ByteArray := prog_7_method_4_code
def yX5_swap : MethodName := ⟨RX5, "swap", "(LShuffledViews$Net;II)V"⟩
abbrev cX5_takeAll : ByteArray := prog_7_method_5_code
def yX5_takeAll : MethodName := ⟨RX5, "takeAll", "(LShuffledViews$Net;ILShuffledViews$Sent;LShuffledViews$Sent;)V"⟩
def RX6 : String := "ShuffledViews$Text"
def TX6 : u_T := fun k => match k with
  | 0 => ("ShuffledViews$Text", "letters", "[I", true)
  | 1 => ("ShuffledViews$Text", "length", "I", false)
  | 2 => ("ShuffledViews$Text", "tokenKind", "I", false)
  | 3 => ("ShuffledViews$Text", "tokenStart", "I", false)
  | _ => ("ShuffledViews$Text", "tokenEnd", "I", false)
def tyX6 : Nat → FieldType := fun k => match k with
  | 0 => .array .int
  | 1 => .int
  | 2 => .int
  | 3 => .int
  | _ => .int
abbrev wsX60 : List Cond := u_ws RX6 TX6 5
theorem nmX6 : ∀ a, a < 5 → ∀ b, b < 5 → a ≠ b → (TX6 a).2.1 ≠ (TX6 b).2.1 := by decide +kernel
theorem tyX6_ok : ∀ k, k < 5 → parseFieldDescriptor (TX6 k).2.2.1 = some (tyX6 k) := by decide +kernel
abbrev cX6_init : ByteArray := prog_8_method_1_code
def yX6_init : MethodName := ⟨RX6, "<init>", "()V"⟩
abbrev cX6_append : ByteArray := prog_8_method_2_code
def yX6_append : MethodName := ⟨RX6, "append", "(I)V"⟩
abbrev cX6_clear : ByteArray := prog_8_method_3_code
def yX6_clear : MethodName := ⟨RX6, "clear", "()V"⟩
abbrev cX6_rewind : ByteArray := prog_8_method_4_code
def yX6_rewind : MethodName := ⟨RX6, "rewind", "()V"⟩
abbrev cX6_readToken : ByteArray := prog_8_method_5_code
def yX6_readToken : MethodName := ⟨RX6, "readToken", "()V"⟩
abbrev cX6_isWord : ByteArray := prog_8_method_6_code
def yX6_isWord : MethodName := ⟨RX6, "isWord", "(Ljava/lang/String;)Z"⟩
abbrev cX6_number : ByteArray := prog_8_method_7_code
def yX6_number : MethodName := ⟨RX6, "number", "()I"⟩
abbrev cX6_kindAt : ByteArray := prog_8_method_8_code
def yX6_kindAt : MethodName := ⟨RX6, "kindAt", "(I)I"⟩
abbrev cX6_letterAt : ByteArray := prog_8_method_9_code
def yX6_letterAt : MethodName := ⟨RX6, "letterAt", "(I)I"⟩
def RX7 : String := "ShuffledViews$View"
def TX7 : u_T := fun k => match k with
  | 0 => ("ShuffledViews$View", "nodes", "[I", true)
  | 1 => ("ShuffledViews$View", "ages", "[I", true)
  | _ => ("ShuffledViews$View", "size", "I", false)
def tyX7 : Nat → FieldType := fun k => match k with
  | 0 => .array .int
  | 1 => .array .int
  | _ => .int
abbrev wsX70 : List Cond := u_ws RX7 TX7 3
theorem nmX7 : ∀ a, a < 3 → ∀ b, b < 3 → a ≠ b → (TX7 a).2.1 ≠ (TX7 b).2.1 := by decide +kernel
theorem tyX7_ok : ∀ k, k < 3 → parseFieldDescriptor (TX7 k).2.2.1 = some (tyX7 k) := by decide +kernel
abbrev cX7_init : ByteArray := prog_9_method_1_code
def yX7_init : MethodName := ⟨RX7, "<init>", "()V"⟩
abbrev cX7_placeOf : ByteArray := prog_9_method_2_code
def yX7_placeOf : MethodName := ⟨RX7, "placeOf", "(I)I"⟩
abbrev cX7_holds : ByteArray := prog_9_method_3_code
def yX7_holds : MethodName := ⟨RX7, "holds", "(I)Z"⟩
abbrev cX7_bits : ByteArray := prog_9_method_4_code
def yX7_bits : MethodName := ⟨RX7, "bits", "()I"⟩
abbrev cX7_clear : ByteArray := prog_9_method_5_code
def yX7_clear : MethodName := ⟨RX7, "clear", "()V"⟩
abbrev cX7_append : ByteArray := prog_9_method_6_code
def yX7_append : MethodName := ⟨RX7, "append", "(II)V"⟩
abbrev cX7_replace : ByteArray := prog_9_method_7_code
def yX7_replace : MethodName := ⟨RX7, "replace", "(III)V"⟩
abbrev cX7_strike : ByteArray := prog_9_method_8_code
def yX7_strike : MethodName := ⟨RX7, "strike", "(I)V"⟩
abbrev cX7_growOlder : ByteArray := prog_9_method_9_code
def yX7_growOlder : MethodName := ⟨RX7, "growOlder", "()V"⟩
abbrev cX7_placeOfOldest : ByteArray := prog_9_method_10_code
def yX7_placeOfOldest : MethodName := ⟨RX7, "placeOfOldest", "()I"⟩
abbrev cX7_isAskedBefore : ByteArray := prog_9_method_11_code
def yX7_isAskedBefore : MethodName := ⟨RX7, "isAskedBefore", "(II)Z"⟩
abbrev cX7_copyFrom : ByteArray := prog_9_method_12_code
def yX7_copyFrom : MethodName := ⟨RX7, "copyFrom", "(LShuffledViews$View;)V"⟩
def RX8 : String := "ShuffledViews"
def TX8 : u_T := fun k => match k with
  | 0 => ("ShuffledViews", "text", "LShuffledViews$Text;", true)
  | 1 => ("ShuffledViews", "clauses", "LShuffledViews$Clauses;", true)
  | 2 => ("ShuffledViews", "now", "LShuffledViews$Net;", true)
  | 3 => ("ShuffledViews", "foreseen", "LShuffledViews$Net;", true)
  | 4 => ("ShuffledViews", "shuffle", "LShuffledViews$Shuffle;", true)
  | 5 => ("ShuffledViews", "past", "LShuffledViews$Past;", true)
  | 6 => ("ShuffledViews", "keptNets", "[LShuffledViews$Net;", true)
  | 7 => ("ShuffledViews", "isKept", "[Z", true)
  | _ => ("ShuffledViews", "rings", "[LShuffledViews$Ring;", true)
def tyX8 : Nat → FieldType := fun k => match k with
  | 0 => .object "ShuffledViews$Text"
  | 1 => .object "ShuffledViews$Clauses"
  | 2 => .object "ShuffledViews$Net"
  | 3 => .object "ShuffledViews$Net"
  | 4 => .object "ShuffledViews$Shuffle"
  | 5 => .object "ShuffledViews$Past"
  | 6 => .array (.object "ShuffledViews$Net")
  | 7 => .array .boolean
  | _ => .array (.object "ShuffledViews$Ring")
abbrev wsX80 : List Cond := u_ws RX8 TX8 9
theorem nmX8 : ∀ a, a < 9 → ∀ b, b < 9 → a ≠ b → (TX8 a).2.1 ≠ (TX8 b).2.1 := by decide +kernel
theorem tyX8_ok : ∀ k, k < 9 → parseFieldDescriptor (TX8 k).2.2.1 = some (tyX8 k) := by decide +kernel
abbrev cX8_init : ByteArray := prog_1_method_1_code
def yX8_init : MethodName := ⟨RX8, "<init>", "()V"⟩
abbrev cX8_write : ByteArray := prog_1_method_2_code
def yX8_write : MethodName := ⟨RX8, "write", "(I)I"⟩
abbrev cX8_erase : ByteArray := prog_1_method_3_code
def yX8_erase : MethodName := ⟨RX8, "erase", "()I"⟩
abbrev cX8_fault : ByteArray := prog_1_method_4_code
def yX8_fault : MethodName := ⟨RX8, "fault", "()I"⟩
abbrev cX8_net : ByteArray := prog_1_method_5_code
def yX8_net : MethodName := ⟨RX8, "net", "()I"⟩
abbrev cX8_node : ByteArray := prog_1_method_6_code
def yX8_node : MethodName := ⟨RX8, "node", "(II)I"⟩
abbrev cX8_entry : ByteArray := prog_1_method_7_code
def yX8_entry : MethodName := ⟨RX8, "entry", "(III)I"⟩
abbrev cX8_round : ByteArray := prog_1_method_8_code
def yX8_round : MethodName := ⟨RX8, "round", "(I)I"⟩
abbrev cX8_cycle : ByteArray := prog_1_method_9_code
def yX8_cycle : MethodName := ⟨RX8, "cycle", "(I)I"⟩
abbrev cX8_die : ByteArray := prog_1_method_10_code
def yX8_die : MethodName := ⟨RX8, "die", "(II)I"⟩
abbrev cX8_link : ByteArray := prog_1_method_11_code
def yX8_link : MethodName := ⟨RX8, "link", "(II)I"⟩
abbrev cX8_undo : ByteArray := prog_1_method_12_code
def yX8_undo : MethodName := ⟨RX8, "undo", "()I"⟩
abbrev cX8_keep : ByteArray := prog_1_method_13_code
def yX8_keep : MethodName := ⟨RX8, "keep", "(I)I"⟩
abbrev cX8_back : ByteArray := prog_1_method_14_code
def yX8_back : MethodName := ⟨RX8, "back", "(I)I"⟩
abbrev cX8_forgotten : ByteArray := prog_1_method_15_code
def yX8_forgotten : MethodName := ⟨RX8, "forgotten", "(I)I"⟩
abbrev cX8_next : ByteArray := prog_1_method_16_code
def yX8_next : MethodName := ⟨RX8, "next", "(I)I"⟩
abbrev cX8_spread : ByteArray := prog_1_method_17_code
def yX8_spread : MethodName := ⟨RX8, "spread", "(I)I"⟩
abbrev cX8_far : ByteArray := prog_1_method_18_code
def yX8_far : MethodName := ⟨RX8, "far", "(II)I"⟩
abbrev cX8_ring : ByteArray := prog_1_method_19_code
def yX8_ring : MethodName := ⟨RX8, "ring", "(I)I"⟩
abbrev cX8_add : ByteArray := prog_1_method_20_code
def yX8_add : MethodName := ⟨RX8, "add", "(II)I"⟩
abbrev cX8_step : ByteArray := prog_1_method_21_code
def yX8_step : MethodName := ⟨RX8, "step", "(II)I"⟩
abbrev cX8_take : ByteArray := prog_1_method_22_code
def yX8_take : MethodName := ⟨RX8, "take", "(I)I"⟩
abbrev cX8_count : ByteArray := prog_1_method_23_code
def yX8_count : MethodName := ⟨RX8, "count", "(II)I"⟩
abbrev cX8_sum : ByteArray := prog_1_method_24_code
def yX8_sum : MethodName := ⟨RX8, "sum", "(I)I"⟩
abbrev cX8_drop : ByteArray := prog_1_method_25_code
def yX8_drop : MethodName := ⟨RX8, "drop", "(I)I"⟩
abbrev cX8_told : ByteArray := prog_1_method_26_code
def yX8_told : MethodName := ⟨RX8, "told", "(I)I"⟩
abbrev cX8_isRing : ByteArray := prog_1_method_27_code
def yX8_isRing : MethodName := ⟨RX8, "isRing", "(I)Z"⟩
abbrev cX8_ringNumbers : ByteArray := prog_1_method_28_code
def yX8_ringNumbers : MethodName := ⟨RX8, "ringNumbers", "()I"⟩
def RX9 : String := "ShuffledViewsModel"
def TX9 : u_T := fun k => match k with
  | 0 => ("ShuffledViewsModel", "row", "[I", true)
  | 1 => ("ShuffledViewsModel", "nodes", "I", false)
  | 2 => ("ShuffledViewsModel", "room", "I", false)
  | 3 => ("ShuffledViewsModel", "slice", "I", false)
  | 4 => ("ShuffledViewsModel", "sly", "I", false)
  | 5 => ("ShuffledViewsModel", "undos", "I", false)
  | 6 => ("ShuffledViewsModel", "isKept", "[Z", true)
  | 7 => ("ShuffledViewsModel", "text", "[I", true)
  | 8 => ("ShuffledViewsModel", "length", "I", false)
  | 9 => ("ShuffledViewsModel", "sizes", "[I", true)
  | 10 => ("ShuffledViewsModel", "values", "[I", true)
  | 11 => ("ShuffledViewsModel", "first", "I", false)
  | 12 => ("ShuffledViewsModel", "behind", "I", false)
  | 13 => ("ShuffledViewsModel", "readNodes", "I", false)
  | 14 => ("ShuffledViewsModel", "clauses", "I", false)
  | 15 => ("ShuffledViewsModel", "doing", "Z", false)
  | 16 => ("ShuffledViewsModel", "numbers", "[I", true)
  | 17 => ("ShuffledViewsModel", "words", "[I", true)
  | 18 => ("ShuffledViewsModel", "sentNode", "[I", true)
  | 19 => ("ShuffledViewsModel", "sentAge", "[I", true)
  | 20 => ("ShuffledViewsModel", "sentMany", "[I", true)
  | _ => ("ShuffledViewsModel", "isTaken", "[Z", true)
def tyX9 : Nat → FieldType := fun k => match k with
  | 0 => .array .int
  | 1 => .int
  | 2 => .int
  | 3 => .int
  | 4 => .int
  | 5 => .int
  | 6 => .array .boolean
  | 7 => .array .int
  | 8 => .int
  | 9 => .array .int
  | 10 => .array .int
  | 11 => .int
  | 12 => .int
  | 13 => .int
  | 14 => .int
  | 15 => .boolean
  | 16 => .array .int
  | 17 => .array .int
  | 18 => .array .int
  | 19 => .array .int
  | 20 => .array .int
  | _ => .array .boolean
abbrev wsX90 : List Cond := u_ws RX9 TX9 22
theorem nmX9 : ∀ a, a < 22 → ∀ b, b < 22 → a ≠ b → (TX9 a).2.1 ≠ (TX9 b).2.1 := by decide +kernel
theorem tyX9_ok : ∀ k, k < 22 → parseFieldDescriptor (TX9 k).2.2.1 = some (tyX9 k) := by decide +kernel
abbrev cX9_init : ByteArray := prog_11_method_1_code
def yX9_init : MethodName := ⟨RX9, "<init>", "()V"⟩
abbrev cX9_in : ByteArray := prog_11_method_2_code
def yX9_in : MethodName := ⟨RX9, "in", "(JJJ)Z"⟩
abbrev cX9_has : ByteArray := prog_11_method_3_code
def yX9_has : MethodName := ⟨RX9, "has", "(II)Z"⟩
abbrev cX9_copyRow : ByteArray := prog_11_method_4_code
def yX9_copyRow : MethodName := ⟨RX9, "copyRow", "(II)V"⟩
abbrev cX9_anew : ByteArray := prog_11_method_5_code
def yX9_anew : MethodName := ⟨RX9, "anew", "(IIII)V"⟩
abbrev cX9_put : ByteArray := prog_11_method_6_code
def yX9_put : MethodName := ⟨RX9, "put", "(IIII)V"⟩
abbrev cX9_placeOf : ByteArray := prog_11_method_7_code
def yX9_placeOf : MethodName := ⟨RX9, "placeOf", "(III)I"⟩
abbrev cX9_strike : ByteArray := prog_11_method_8_code
def yX9_strike : MethodName := ⟨RX9, "strike", "(III)V"⟩
abbrev cX9_replace : ByteArray := prog_11_method_9_code
def yX9_replace : MethodName := ⟨RX9, "replace", "(IIIII)V"⟩
abbrev cX9_write : ByteArray := prog_11_method_10_code
def yX9_write : MethodName := ⟨RX9, "write", "(I)I"⟩
abbrev cX9_erase : ByteArray := prog_11_method_11_code
def yX9_erase : MethodName := ⟨RX9, "erase", "()I"⟩
abbrev cX9_isSmall : ByteArray := prog_11_method_12_code
def yX9_isSmall : MethodName := ⟨RX9, "isSmall", "(I)Z"⟩
abbrev cX9_isDigit : ByteArray := prog_11_method_13_code
def yX9_isDigit : MethodName := ⟨RX9, "isDigit", "(I)Z"⟩
abbrev cX9_nextToken : ByteArray := prog_11_method_14_code
def yX9_nextToken : MethodName := ⟨RX9, "nextToken", "()V"⟩
abbrev cX9_wordHere : ByteArray := prog_11_method_15_code
def yX9_wordHere : MethodName := ⟨RX9, "wordHere", "()I"⟩
abbrev cX9_number : ByteArray := prog_11_method_16_code
def yX9_number : MethodName := ⟨RX9, "number", "(IIII)Z"⟩
abbrev cX9_readsNode : ByteArray := prog_11_method_17_code
def yX9_readsNode : MethodName := ⟨RX9, "readsNode", "(II)Z"⟩
abbrev cX9_readsRest : ByteArray := prog_11_method_18_code
def yX9_readsRest : MethodName := ⟨RX9, "readsRest", "(I)Z"⟩
abbrev cX9_links : ByteArray := prog_11_method_19_code
def yX9_links : MethodName := ⟨RX9, "links", "(III)V"⟩
abbrev cX9_does : ByteArray := prog_11_method_20_code
def yX9_does : MethodName := ⟨RX9, "does", "(I)V"⟩
abbrev cX9_readsClause : ByteArray := prog_11_method_21_code
def yX9_readsClause : MethodName := ⟨RX9, "readsClause", "()Z"⟩
abbrev cX9_reads : ByteArray := prog_11_method_22_code
def yX9_reads : MethodName := ⟨RX9, "reads", "(Z)Z"⟩
abbrev cX9_fault : ByteArray := prog_11_method_23_code
def yX9_fault : MethodName := ⟨RX9, "fault", "()I"⟩
abbrev cX9_net : ByteArray := prog_11_method_24_code
def yX9_net : MethodName := ⟨RX9, "net", "()I"⟩
abbrev cX9_isNode : ByteArray := prog_11_method_25_code
def yX9_isNode : MethodName := ⟨RX9, "isNode", "(I)Z"⟩
abbrev cX9_isDead : ByteArray := prog_11_method_26_code
def yX9_isDead : MethodName := ⟨RX9, "isDead", "(II)Z"⟩
abbrev cX9_draw : ByteArray := prog_11_method_27_code
def yX9_draw : MethodName := ⟨RX9, "draw", "(II)I"⟩
abbrev cX9_send : ByteArray := prog_11_method_28_code
def yX9_send : MethodName := ⟨RX9, "send", "(III)V"⟩
abbrev cX9_isSent : ByteArray := prog_11_method_29_code
def yX9_isSent : MethodName := ⟨RX9, "isSent", "(II)Z"⟩
abbrev cX9_sends : ByteArray := prog_11_method_30_code
def yX9_sends : MethodName := ⟨RX9, "sends", "(III)V"⟩
abbrev cX9_giveUp : ByteArray := prog_11_method_31_code
def yX9_giveUp : MethodName := ⟨RX9, "giveUp", "(III)I"⟩
abbrev cX9_takes : ByteArray := prog_11_method_32_code
def yX9_takes : MethodName := ⟨RX9, "takes", "(III)V"⟩
abbrev cX9_oldest : ByteArray := prog_11_method_33_code
def yX9_oldest : MethodName := ⟨RX9, "oldest", "(II)I"⟩
abbrev cX9_ages : ByteArray := prog_11_method_34_code
def yX9_ages : MethodName := ⟨RX9, "ages", "(II)V"⟩
abbrev cX9_rounds : ByteArray := prog_11_method_35_code
def yX9_rounds : MethodName := ⟨RX9, "rounds", "(II)I"⟩
abbrev cX9_cycles : ByteArray := prog_11_method_36_code
def yX9_cycles : MethodName := ⟨RX9, "cycles", "(I)V"⟩
abbrev cX9_known : ByteArray := prog_11_method_37_code
def yX9_known : MethodName := ⟨RX9, "known", "(II)I"⟩
abbrev cX9_viewOf : ByteArray := prog_11_method_38_code
def yX9_viewOf : MethodName := ⟨RX9, "viewOf", "(I)I"⟩
abbrev cX9_node : ByteArray := prog_11_method_39_code
def yX9_node : MethodName := ⟨RX9, "node", "(II)I"⟩
abbrev cX9_entry : ByteArray := prog_11_method_40_code
def yX9_entry : MethodName := ⟨RX9, "entry", "(III)I"⟩
abbrev cX9_keepPast : ByteArray := prog_11_method_41_code
def yX9_keepPast : MethodName := ⟨RX9, "keepPast", "()V"⟩
abbrev cX9_entries : ByteArray := prog_11_method_42_code
def yX9_entries : MethodName := ⟨RX9, "entries", "()I"⟩
abbrev cX9_round : ByteArray := prog_11_method_43_code
def yX9_round : MethodName := ⟨RX9, "round", "(I)I"⟩
abbrev cX9_cycle : ByteArray := prog_11_method_44_code
def yX9_cycle : MethodName := ⟨RX9, "cycle", "(I)I"⟩
abbrev cX9_alive : ByteArray := prog_11_method_45_code
def yX9_alive : MethodName := ⟨RX9, "alive", "(I)I"⟩
abbrev cX9_ones : ByteArray := prog_11_method_46_code
def yX9_ones : MethodName := ⟨RX9, "ones", "(I)I"⟩
abbrev cX9_die : ByteArray := prog_11_method_47_code
def yX9_die : MethodName := ⟨RX9, "die", "(II)I"⟩
abbrev cX9_link : ByteArray := prog_11_method_48_code
def yX9_link : MethodName := ⟨RX9, "link", "(II)I"⟩
abbrev cX9_undo : ByteArray := prog_11_method_49_code
def yX9_undo : MethodName := ⟨RX9, "undo", "()I"⟩
abbrev cX9_keep : ByteArray := prog_11_method_50_code
def yX9_keep : MethodName := ⟨RX9, "keep", "(I)I"⟩
abbrev cX9_back : ByteArray := prog_11_method_51_code
def yX9_back : MethodName := ⟨RX9, "back", "(I)I"⟩
abbrev cX9_forgotten : ByteArray := prog_11_method_52_code
def yX9_forgotten : MethodName := ⟨RX9, "forgotten", "(I)I"⟩
abbrev cX9_next : ByteArray := prog_11_method_53_code
def yX9_next : MethodName := ⟨RX9, "next", "(I)I"⟩
abbrev cX9_extreme : ByteArray := prog_11_method_54_code
def yX9_extreme : MethodName := ⟨RX9, "extreme", "(IZ)I"⟩
abbrev cX9_spread : ByteArray := prog_11_method_55_code
def yX9_spread : MethodName := ⟨RX9, "spread", "(I)I"⟩
abbrev cX9_far : ByteArray := prog_11_method_56_code
def yX9_far : MethodName := ⟨RX9, "far", "(II)I"⟩
abbrev cX9_parts : ByteArray := prog_11_method_57_code
def yX9_parts : MethodName := ⟨RX9, "parts", "()I"⟩
abbrev cX9_isRing : ByteArray := prog_11_method_58_code
def yX9_isRing : MethodName := ⟨RX9, "isRing", "(I)Z"⟩
abbrev cX9_ring : ByteArray := prog_11_method_59_code
def yX9_ring : MethodName := ⟨RX9, "ring", "(I)I"⟩
abbrev cX9_add : ByteArray := prog_11_method_60_code
def yX9_add : MethodName := ⟨RX9, "add", "(II)I"⟩
abbrev cX9_goesOn : ByteArray := prog_11_method_61_code
def yX9_goesOn : MethodName := ⟨RX9, "goesOn", "(I)V"⟩
abbrev cX9_takesOne : ByteArray := prog_11_method_62_code
def yX9_takesOne : MethodName := ⟨RX9, "takesOne", "(I)I"⟩
abbrev cX9_step : ByteArray := prog_11_method_63_code
def yX9_step : MethodName := ⟨RX9, "step", "(II)I"⟩
abbrev cX9_take : ByteArray := prog_11_method_64_code
def yX9_take : MethodName := ⟨RX9, "take", "(I)I"⟩
abbrev cX9_count : ByteArray := prog_11_method_65_code
def yX9_count : MethodName := ⟨RX9, "count", "(II)I"⟩
abbrev cX9_sum : ByteArray := prog_11_method_66_code
def yX9_sum : MethodName := ⟨RX9, "sum", "(I)I"⟩
abbrev cX9_drop : ByteArray := prog_11_method_67_code
def yX9_drop : MethodName := ⟨RX9, "drop", "(I)I"⟩
abbrev cX9_allNumbers : ByteArray := prog_11_method_68_code
def yX9_allNumbers : MethodName := ⟨RX9, "allNumbers", "()I"⟩
abbrev cX9_told : ByteArray := prog_11_method_69_code
def yX9_told : MethodName := ⟨RX9, "told", "(I)I"⟩
def RJ6 : String := "java/lang/Integer"
def TJ6 : u_T := fun k => match k with
  | _ => ("", "", "", false)
def tyJ6 : Nat → FieldType := fun k => match k with
  | _ => .int
abbrev wsJ60 : List Cond := u_ws RJ6 TJ6 0
theorem nmJ6 : ∀ a, a < 0 → ∀ b, b < 0 → a ≠ b → (TJ6 a).2.1 ≠ (TJ6 b).2.1 := by decide +kernel
theorem tyJ6_ok : ∀ k, k < 0 → parseFieldDescriptor (TJ6 k).2.2.1 = some (tyJ6 k) := by decide +kernel
abbrev cJ6_bitCount_0f7a4 : ByteArray := prog_12_method_49_code
def yJ6_bitCount_0f7a4 : MethodName := ⟨RJ6, "bitCount", "(I)I"⟩
def RJ9 : String := "java/lang/Math"
def TJ9 : u_T := fun k => match k with
  | _ => ("", "", "", false)
def tyJ9 : Nat → FieldType := fun k => match k with
  | _ => .int
abbrev wsJ90 : List Cond := u_ws RJ9 TJ9 0
theorem nmJ9 : ∀ a, a < 0 → ∀ b, b < 0 → a ≠ b → (TJ9 a).2.1 ≠ (TJ9 b).2.1 := by decide +kernel
theorem tyJ9_ok : ∀ k, k < 0 → parseFieldDescriptor (TJ9 k).2.2.1 = some (tyJ9 k) := by decide +kernel
abbrev cJ9_floorMod_7cf53 : ByteArray := prog_13_method_50_code
def yJ9_floorMod_7cf53 : MethodName := ⟨RJ9, "floorMod", "(II)I"⟩
abbrev cJ9_max_7cf53 : ByteArray := prog_13_method_65_code
def yJ9_max_7cf53 : MethodName := ⟨RJ9, "max", "(II)I"⟩
abbrev cJ9_min_7cf53 : ByteArray := prog_13_method_69_code
def yJ9_min_7cf53 : MethodName := ⟨RJ9, "min", "(II)I"⟩
def RJ0 : String := "java/lang/String"
def TJ0 : u_T := fun k => match k with
  | _ => ("", "", "", false)
def tyJ0 : Nat → FieldType := fun k => match k with
  | _ => .int
abbrev wsJ00 : List Cond := u_ws RJ0 TJ0 0
theorem nmJ0 : ∀ a, a < 0 → ∀ b, b < 0 → a ≠ b → (TJ0 a).2.1 ≠ (TJ0 b).2.1 := by decide +kernel
theorem tyJ0_ok : ∀ k, k < 0 → parseFieldDescriptor (TJ0 k).2.2.1 = some (tyJ0 k) := by decide +kernel
abbrev cJ0_length_8abf5 : ByteArray := prog_14_method_54_code
def yJ0_length_8abf5 : MethodName := ⟨RJ0, "length", "()I"⟩
abbrev cJ0_charAt_5068e : ByteArray := prog_14_method_56_code
def yJ0_charAt_5068e : MethodName := ⟨RJ0, "charAt", "(I)C"⟩
abbrev cJ0_coder_7d493 : ByteArray := prog_14_method_152_code
def yJ0_coder_7d493 : MethodName := ⟨RJ0, "coder", "()B"⟩
abbrev cJ0_isLatin1_aae02 : ByteArray := prog_14_method_154_code
def yJ0_isLatin1_aae02 : MethodName := ⟨RJ0, "isLatin1", "()Z"⟩
abbrev cJ0_checkIndex_df160 : ByteArray := prog_14_method_155_code
def yJ0_checkIndex_df160 : MethodName := ⟨RJ0, "checkIndex", "(II)V"⟩
def RJ1 : String := "java/lang/StringLatin1"
def TJ1 : u_T := fun k => match k with
  | _ => ("", "", "", false)
def tyJ1 : Nat → FieldType := fun k => match k with
  | _ => .int
abbrev wsJ10 : List Cond := u_ws RJ1 TJ1 0
theorem nmJ1 : ∀ a, a < 0 → ∀ b, b < 0 → a ≠ b → (TJ1 a).2.1 ≠ (TJ1 b).2.1 := by decide +kernel
theorem tyJ1_ok : ∀ k, k < 0 → parseFieldDescriptor (TJ1 k).2.2.1 = some (tyJ1 k) := by decide +kernel
abbrev cJ1_charAt_3b067 : ByteArray := prog_15_method_2_code
def yJ1_charAt_3b067 : MethodName := ⟨RJ1, "charAt", "([BI)C"⟩
def RJ2 : String := "java/lang/StringUTF16"
def TJ2 : u_T := fun k => match k with
  | _ => ("", "", "", false)
def tyJ2 : Nat → FieldType := fun k => match k with
  | _ => .int
abbrev wsJ20 : List Cond := u_ws RJ2 TJ2 0
theorem nmJ2 : ∀ a, a < 0 → ∀ b, b < 0 → a ≠ b → (TJ2 a).2.1 ≠ (TJ2 b).2.1 := by decide +kernel
theorem tyJ2_ok : ∀ k, k < 0 → parseFieldDescriptor (TJ2 k).2.2.1 = some (tyJ2 k) := by decide +kernel
abbrev cJ2_getChar_3b067 : ByteArray := prog_16_method_5_code
def yJ2_getChar_3b067 : MethodName := ⟨RJ2, "getChar", "([BI)C"⟩
abbrev cJ2_length_9d52b : ByteArray := prog_16_method_6_code
def yJ2_length_9d52b : MethodName := ⟨RJ2, "length", "([B)I"⟩
abbrev cJ2_charAt_3b067 : ByteArray := prog_16_method_83_code
def yJ2_charAt_3b067 : MethodName := ⟨RJ2, "charAt", "([BI)C"⟩
abbrev cJ2_checkIndex_2214a : ByteArray := prog_16_method_91_code
def yJ2_checkIndex_2214a : MethodName := ⟨RJ2, "checkIndex", "(I[B)V"⟩
def RJ3 : String := "jdk/internal/util/Preconditions"
def TJ3 : u_T := fun k => match k with
  | _ => ("", "", "", false)
def tyJ3 : Nat → FieldType := fun k => match k with
  | _ => .int
abbrev wsJ30 : List Cond := u_ws RJ3 TJ3 0
theorem nmJ3 : ∀ a, a < 0 → ∀ b, b < 0 → a ≠ b → (TJ3 a).2.1 ≠ (TJ3 b).2.1 := by decide +kernel
theorem tyJ3_ok : ∀ k, k < 0 → parseFieldDescriptor (TJ3 k).2.2.1 = some (tyJ3 k) := by decide +kernel
abbrev cJ3_checkIndex_8e157 : ByteArray := prog_17_method_11_code
def yJ3_checkIndex_8e157 : MethodName := ⟨RJ3, "checkIndex", "(IILjava/util/function/BiFunction;)I"⟩
def RL : String := "ShuffledViewsLaw"
abbrev cL_law : ByteArray := code
def yL_law : MethodName := ⟨RL, "law", "([I)Z"⟩
abbrev vwCl : List vw_C := [(RX0, TX0, 4), (RX1, TX1, 7), (RX2, TX2, 3), (RX3, TX3, 4), (RX4, TX4, 4), (RX5, TX5, 2), (RX6, TX6, 5), (RX7, TX7, 3), (RX8, TX8, 9), (RX9, TX9, 22)]
end
section
/-! the words that every method is given: those of the tables that hold at every state of a run -/
def tg : List Cond := lw_tbl.filter goodWord
def tgW (y : MethodName) (b : ByteArray) (n : Nat) (ret : Option FieldType) : List Cond := Cond.code y b n ret :: tg
theorem tg_mem {w : Cond} (h : w ∈ lw_tbl) (g : goodWord w = true) : w ∈ tg := List.mem_filter.mpr ⟨h, g⟩
theorem tg_good {y : MethodName} {b : ByteArray} {n : Nat} {ret : Option FieldType} (h : Cond.code y b n ret ∈ tg) : GoodIn tg (tgW y b n ret) := by
  have k : ∀ w ∈ tg, w ∈ tg ∧ ((w.onTables && w.keeps) = true ∨ ∃ ty, w = .arrayClass ty) := fun w hw => ⟨hw, good_of_word (List.mem_filter.mp hw).2⟩
  intro w hw
  rcases List.mem_cons.mp hw with rfl | hw
  · exact k _ h
  · exact k _ hw
theorem tg_i (i : Nat) {w : Cond} (h : (lw_tbl[i]? = some w ∧ goodWord w = true)) : w ∈ tg := tg_mem (List.mem_of_getElem? h.1) h.2
/-! the ints of the world: cell, place -/
abbrev Mm : Type := Nat → Nat → Int32
def upR (M : Mm) (a : Nat) (R : Nat → Int32) : Mm := fun b => if b = a then R else M b
def up2 (M : Mm) (a k : Nat) (v : Int32) : Mm := upR M a (upd (M a) k v)
abbrev ix (i : Int32) : Nat := i.toNatClampNeg
abbrev Sst : Type := Nat × List Nat × List Int32 × Mm
abbrev Rst : Type := Int32 × Mm
abbrev rfs (f : Nat → Nat) : (Nat → Int32) ⊕ (Nat → Int64) ⊕ (Nat → UInt32) ⊕ (Nat → UInt64) ⊕ (Nat → Option Nat) := .inr (.inr (.inr (.inr (fun j => some (f j)))))
/-! the layout: what cell i is; 26 t .. 26 t + 25 (t 1 .. 12) a net, its views, their rows -/
def celN (ad : Nat → Nat) (cs : Nat → ClassId) (R : Nat → Int32) (i r : Nat) : va_E :=
  if r = 0 then .inr (1, [.ref (ad (i + 1)), .int (R 1), .int (R 2), .int (R 3), .int (R 4), .int (R 5), .int (R 6)])
  else if r = 1 then .inl (cs 2, 8, rfs (fun j => ad (i + 1 + 3 * j)))
  else if (r - 2) % 3 = 0 then .inr (7, [.ref (ad (i + 1)), .ref (ad (i + 2)), .int (R 2)])
  else .inl (cs 0, 5, .inl R)
def cel (ad : Nat → Nat) (cs : Nat → ClassId) (R : Nat → Int32) (i : Nat) : va_E :=
  if 26 ≤ i ∧ i < 338 then celN ad cs R i (i % 26)
  else if i = 0 then .inr (8, [.ref (ad 1), .ref (ad 3), .ref (ad 26), .ref (ad 52), .ref (ad 6), .ref (ad 15), .ref (ad 17), .ref (ad 18), .ref (ad 19)])
  else if i = 1 then .inr (6, [.ref (ad 2), .int (R 1), .int (R 2), .int (R 3), .int (R 4)])
  else if i = 2 then .inl (cs 0, 200, .inl R)
  else if i = 3 then .inr (0, [.ref (ad 4), .ref (ad 5), .int (R 2), .int (R 3)])
  else if i = 4 then .inl (cs 0, 24, .inl R)
  else if i = 5 then .inl (cs 0, 96, .inl R)
  else if i = 6 then .inr (5, [.ref (ad 7), .ref (ad 11)])
  else if i = 7 ∨ i = 11 then .inr (4, [.ref (ad (i + 1)), .ref (ad (i + 2)), .ref (ad (i + 3)), .int (R 3)])
  else if i < 15 then .inl (cs 0, 5, .inl R)
  else if i = 15 then .inr (2, [.ref (ad 16), .int (R 1), .int (R 2)])
  else if i = 16 then .inl (cs 3, 8, rfs (fun j => ad (78 + 26 * j)))
  else if i = 17 then .inl (cs 3, 2, rfs (fun j => ad (286 + 26 * j)))
  else if i = 18 then .inl (cs 1, 2, .inl R)
  else if i = 19 then .inl (cs 4, 3, rfs (fun j => ad (20 + 2 * j)))
  else if i = 20 ∨ i = 22 ∨ i = 24 then .inr (3, [.ref (ad (i + 1)), .int (R 1), .int (R 2), .int (R 3)])
  else if i < 26 then .inl (cs 0, 8, .inl R)
  else if i = 338 then .inr (9, [.ref (ad 339), .int (R 1), .int (R 2), .int (R 3), .int (R 4), .int (R 5), .ref (ad 340), .ref (ad 341), .int (R 8), .ref (ad 342), .ref (ad 343), .int (R 11), .int (R 12), .int (R 13), .int (R 14), .int (R 15), .ref (ad 344), .ref (ad 345), .ref (ad 346), .ref (ad 347), .ref (ad 348), .ref (ad 349)])
  else if i = 339 then .inl (cs 0, 1080, .inl R)
  else if i = 340 then .inl (cs 1, 2, .inl R)
  else if i = 341 then .inl (cs 0, 200, .inl R)
  else if i = 342 then .inl (cs 0, 3, .inl R)
  else if i = 343 then .inl (cs 0, 24, .inl R)
  else if i = 344 then .inl (cs 0, 4, .inl R)
  else if i = 345 then .inl (cs 0, 20, .inl R)
  else if i = 346 then .inl (cs 0, 12, .inl R)
  else if i = 347 then .inl (cs 0, 12, .inl R)
  else if i = 348 then .inl (cs 0, 2, .inl R)
  else .inl (cs 1, 12, .inl R)
def wsO (ad : Nat → Nat) (cs : Nat → ClassId) (M : Mm) : va_W := (List.range 350).map (fun i => (ad i, cel ad cs (M i) i))
theorem wsO_get (ad : Nat → Nat) (cs : Nat → ClassId) (M : Mm) {i : Nat} (h : i < 350) : (wsO ad cs M)[i]? = some (ad i, cel ad cs (M i) i) := by
  simp [wsO, List.getElem?_map, List.getElem?_range h]
theorem wsO_inv {ad : Nat → Nat} {cs : Nat → ClassId} {M : Mm} {i : Nat} {q : Nat × va_E} (h : (wsO ad cs M)[i]? = some q) : i < 350 ∧ q = (ad i, cel ad cs (M i) i) := by
  have hl : i < (wsO ad cs M).length := by
    rcases Nat.lt_or_ge i (wsO ad cs M).length with h2 | h2
    · exact h2
    · rw [List.getElem?_eq_none h2] at h; cases h
  have hl2 : i < 350 := by simpa [wsO] using hl
  rw [wsO_get ad cs M hl2] at h
  exact ⟨hl2, (Option.some.inj h).symm⟩
theorem wsO_set (ad : Nat → Nat) (cs : Nat → ClassId) (M : Mm) {a : Nat} (R : Nat → Int32) (h : a < 350) {e : va_E} (he : e = cel ad cs R a) : (wsO ad cs M).set a (ad a, e) = wsO ad cs (upR M a R) := by
  apply List.ext_getElem?
  intro j
  rw [List.getElem?_set]
  by_cases hj : a = j
  · subst hj
    have hl : a < (wsO ad cs M).length := by simpa [wsO] using h
    rw [if_pos rfl, if_pos hl, wsO_get ad cs _ h, he]
    simp [upR]
  · rw [if_neg hj]
    by_cases h2 : j < 350
    · rw [wsO_get ad cs _ h2, wsO_get ad cs _ h2]
      simp [upR, Ne.symm hj]
    · rw [List.getElem?_eq_none (by simpa [wsO] using h2), List.getElem?_eq_none (by simpa [wsO] using h2)]
/-! the cells' own addresses -/
def inA (ad : Nat → Nat) : Nat → Prop := fun q => ∃ i, i < 350 ∧ q = ad i
def inj (ad : Nat → Nat) : Prop := ∀ i j, i < 350 → j < 350 → ad i = ad j → i = j
theorem wsO_D {ad : Nat → Nat} {cs : Nat → ClassId} {M : Mm} (h : inj ad) : va_D (inA ad) (wsO ad cs M) := by
  refine ⟨fun i j p q hi hj hpq => ?_, fun k q hk => ?_⟩
  · obtain ⟨h1, rfl⟩ := wsO_inv hi
    obtain ⟨h2, rfl⟩ := wsO_inv hj
    exact h i j h1 h2 hpq
  · obtain ⟨h1, rfl⟩ := wsO_inv hk
    exact ⟨k, h1, rfl⟩
abbrev tys (cs : Nat → ClassId) : List (ClassId × FieldType) := [(cs 0, .int), (cs 1, .boolean), (cs 2, .object RX7), (cs 3, .object RX1), (cs 4, .object RX3)]
/-! what a cell is -/
def isOb (ad : Nat → Nat) (cs : Nat → ClassId) (a ci : Nat) (fs : (Nat → Int32) → List Value) : Prop := a < 350 ∧ ∀ R, cel ad cs R a = .inr (ci, fs R)
def isAr (ad : Nat → Nat) (cs : Nat → ClassId) (a t n : Nat) : Prop := a < 350 ∧ ∀ R, cel ad cs R a = .inl (cs t, n, .inl R)
def isRf (ad : Nat → Nat) (cs : Nat → ClassId) (a t n : Nat) (f : Nat → Nat) : Prop := a < 350 ∧ ∀ R, cel ad cs R a = .inl (cs t, n, rfs (fun j => ad (f j)))
def isN (a : Nat) : Prop := ∃ t, t < 12 ∧ a = 26 * t + 26
def isV (a : Nat) : Prop := ∃ t i, t < 12 ∧ i < 8 ∧ a = 26 * t + 28 + 3 * i
def isS (a : Nat) : Prop := a = 7 ∨ a = 11
def isG (a : Nat) : Prop := a = 20 ∨ a = 22 ∨ a = 24
section Kinds
variable {ad : Nat → Nat} {cs : Nat → ClassId} {a : Nat}
theorem ob_N (h : isN a) : isOb ad cs a 1 (fun R => [.ref (ad (a + 1)), .int (R 1), .int (R 2), .int (R 3), .int (R 4), .int (R 5), .int (R 6)]) := by
  obtain ⟨t, ht, rfl⟩ := h
  refine ⟨by omega, fun R => ?_⟩
  have h1 : 26 ≤ 26 * t + 26 ∧ 26 * t + 26 < 338 := by omega
  have h2 : (26 * t + 26) % 26 = 0 := by omega
  rw [cel, if_pos h1, celN, if_pos h2]
theorem rf_N (h : isN a) : isRf ad cs (a + 1) 2 8 (fun j => a + 2 + 3 * j) := by
  obtain ⟨t, ht, rfl⟩ := h
  refine ⟨by omega, fun R => ?_⟩
  have h1 : 26 ≤ 26 * t + 26 + 1 ∧ 26 * t + 26 + 1 < 338 := by omega
  have h2 : (26 * t + 26 + 1) % 26 = 1 := by omega
  rw [cel, if_pos h1, celN, h2, if_neg (by decide), if_pos rfl]
theorem ob_V (h : isV a) : isOb ad cs a 7 (fun R => [.ref (ad (a + 1)), .ref (ad (a + 2)), .int (R 2)]) := by
  obtain ⟨t, i, ht, hi, rfl⟩ := h
  refine ⟨by omega, fun R => ?_⟩
  have h1 : 26 ≤ 26 * t + 28 + 3 * i ∧ 26 * t + 28 + 3 * i < 338 := by omega
  have h2 : (26 * t + 28 + 3 * i) % 26 = 2 + 3 * i := by omega
  rw [cel, if_pos h1, celN, h2, if_neg (by omega), if_neg (by omega), if_pos (by omega)]
theorem ar_V1 (h : isV a) : isAr ad cs (a + 1) 0 5 := by
  obtain ⟨t, i, ht, hi, rfl⟩ := h
  refine ⟨by omega, fun R => ?_⟩
  have h1 : 26 ≤ 26 * t + 28 + 3 * i + 1 ∧ 26 * t + 28 + 3 * i + 1 < 338 := by omega
  have h2 : (26 * t + 28 + 3 * i + 1) % 26 = 3 + 3 * i := by omega
  rw [cel, if_pos h1, celN, h2, if_neg (by omega), if_neg (by omega), if_neg (by omega)]
theorem ar_V2 (h : isV a) : isAr ad cs (a + 2) 0 5 := by
  obtain ⟨t, i, ht, hi, rfl⟩ := h
  refine ⟨by omega, fun R => ?_⟩
  have h1 : 26 ≤ 26 * t + 28 + 3 * i + 2 ∧ 26 * t + 28 + 3 * i + 2 < 338 := by omega
  have h2 : (26 * t + 28 + 3 * i + 2) % 26 = 4 + 3 * i := by omega
  rw [cel, if_pos h1, celN, h2, if_neg (by omega), if_neg (by omega), if_neg (by omega)]
theorem ob_S (h : isS a) : isOb ad cs a 4 (fun R => [.ref (ad (a + 1)), .ref (ad (a + 2)), .ref (ad (a + 3)), .int (R 3)]) := by
  rcases h with rfl | rfl <;> exact ⟨by decide, fun R => rfl⟩
theorem ar_S1 (h : isS a) : isAr ad cs (a + 1) 0 5 := by rcases h with rfl | rfl <;> exact ⟨by decide, fun R => rfl⟩
theorem ar_S2 (h : isS a) : isAr ad cs (a + 2) 0 5 := by rcases h with rfl | rfl <;> exact ⟨by decide, fun R => rfl⟩
theorem ar_S3 (h : isS a) : isAr ad cs (a + 3) 0 5 := by rcases h with rfl | rfl <;> exact ⟨by decide, fun R => rfl⟩
theorem ob_G (h : isG a) : isOb ad cs a 3 (fun R => [.ref (ad (a + 1)), .int (R 1), .int (R 2), .int (R 3)]) := by
  rcases h with rfl | rfl | rfl <;> exact ⟨by decide, fun R => rfl⟩
theorem ar_G1 (h : isG a) : isAr ad cs (a + 1) 0 8 := by rcases h with rfl | rfl | rfl <;> exact ⟨by decide, fun R => rfl⟩
theorem ob_0 : isOb ad cs 0 8 (fun _ => [.ref (ad 1), .ref (ad 3), .ref (ad 26), .ref (ad 52), .ref (ad 6), .ref (ad 15), .ref (ad 17), .ref (ad 18), .ref (ad 19)]) := ⟨by decide, fun R => rfl⟩
theorem ob_1 : isOb ad cs 1 6 (fun R => [.ref (ad 2), .int (R 1), .int (R 2), .int (R 3), .int (R 4)]) := ⟨by decide, fun R => rfl⟩
theorem ar_2 : isAr ad cs 2 0 200 := ⟨by decide, fun R => rfl⟩
theorem ob_3 : isOb ad cs 3 0 (fun R => [.ref (ad 4), .ref (ad 5), .int (R 2), .int (R 3)]) := ⟨by decide, fun R => rfl⟩
theorem ar_4 : isAr ad cs 4 0 24 := ⟨by decide, fun R => rfl⟩
theorem ar_5 : isAr ad cs 5 0 96 := ⟨by decide, fun R => rfl⟩
theorem ob_6 : isOb ad cs 6 5 (fun _ => [.ref (ad 7), .ref (ad 11)]) := ⟨by decide, fun R => rfl⟩
theorem ob_15 : isOb ad cs 15 2 (fun R => [.ref (ad 16), .int (R 1), .int (R 2)]) := ⟨by decide, fun R => rfl⟩
theorem rf_16 : isRf ad cs 16 3 8 (fun j => 78 + 26 * j) := ⟨by decide, fun R => rfl⟩
theorem rf_17 : isRf ad cs 17 3 2 (fun j => 286 + 26 * j) := ⟨by decide, fun R => rfl⟩
theorem ar_18 : isAr ad cs 18 1 2 := ⟨by decide, fun R => rfl⟩
theorem rf_19 : isRf ad cs 19 4 3 (fun j => 20 + 2 * j) := ⟨by decide, fun R => rfl⟩
theorem ob_338 : isOb ad cs 338 9 (fun R => [.ref (ad 339), .int (R 1), .int (R 2), .int (R 3), .int (R 4), .int (R 5), .ref (ad 340), .ref (ad 341), .int (R 8), .ref (ad 342), .ref (ad 343), .int (R 11), .int (R 12), .int (R 13), .int (R 14), .int (R 15), .ref (ad 344), .ref (ad 345), .ref (ad 346), .ref (ad 347), .ref (ad 348), .ref (ad 349)]) := ⟨by decide, fun R => rfl⟩
theorem ar_339 : isAr ad cs 339 0 1080 := ⟨by decide, fun R => rfl⟩
theorem ar_340 : isAr ad cs 340 1 2 := ⟨by decide, fun R => rfl⟩
theorem ar_341 : isAr ad cs 341 0 200 := ⟨by decide, fun R => rfl⟩
theorem ar_342 : isAr ad cs 342 0 3 := ⟨by decide, fun R => rfl⟩
theorem ar_343 : isAr ad cs 343 0 24 := ⟨by decide, fun R => rfl⟩
theorem ar_344 : isAr ad cs 344 0 4 := ⟨by decide, fun R => rfl⟩
theorem ar_345 : isAr ad cs 345 0 20 := ⟨by decide, fun R => rfl⟩
theorem ar_346 : isAr ad cs 346 0 12 := ⟨by decide, fun R => rfl⟩
theorem ar_347 : isAr ad cs 347 0 12 := ⟨by decide, fun R => rfl⟩
theorem ar_348 : isAr ad cs 348 0 2 := ⟨by decide, fun R => rfl⟩
theorem ar_349 : isAr ad cs 349 1 12 := ⟨by decide, fun R => rfl⟩
end Kinds
theorem isV_of {a j : Nat} (h : isN a) (hj : j < 8) : isV (a + 2 + 3 * j) := by
  obtain ⟨t, ht, rfl⟩ := h
  exact ⟨t, j, ht, hj, by omega⟩
theorem isN_past {j : Nat} (hj : j < 8) : isN (78 + 26 * j) := ⟨j + 2, by omega, by omega⟩
theorem isN_kept {j : Nat} (hj : j < 2) : isN (286 + 26 * j) := ⟨j + 10, by omega, by omega⟩
theorem isG_of {j : Nat} (hj : j < 3) : isG (20 + 2 * j) := by unfold isG; omega
theorem isN_26 : isN 26 := ⟨0, by decide, rfl⟩
theorem isN_52 : isN 52 := ⟨1, by decide, rfl⟩
theorem isS_7 : isS 7 := Or.inl rfl
theorem isS_11 : isS 11 := Or.inr rfl
/-! guards, and what a computation says when it comes to something -/
def okI (i : Int32) (n : Nat) : Bool := decide (0 ≤ i.toInt) && decide (i.toInt < (n : Int))
theorem okI_in {i : Int32} {n : Nat} (h : okI i n = true) : vp_in i n := by
  simp only [okI, Bool.and_eq_true, decide_eq_true_eq] at h
  exact vp_in_iff.mpr h
theorem okI_lt {i : Int32} {n : Nat} (h : okI i n = true) : ix i < n := by
  have h1 := okI_in h
  exact Nat.not_le.mp fun q => h1 (Or.inr q)
def okZ (v : Int32) : Bool := decide (v = 0) || decide (v = 1)
theorem okZ_or {v : Int32} (h : okZ v = true) : v = 0 ∨ v = 1 := by simpa [okZ] using h
def gd {α : Type} (c : Bool) (k : Option α) : Option α := if c = true then k else none
theorem gd_some {α β : Type} {c : Bool} {k : Option α} {g : α → Option β} {x : β} (h : (gd c k).bind g = some x) : c = true ∧ k.bind g = some x := by
  unfold gd at h
  by_cases hc : c = true
  · rw [if_pos hc] at h; exact ⟨hc, h⟩
  · rw [if_neg hc] at h; cases h
theorem gd_t {α : Type} {c : Bool} {k : Option α} (h : c = true) : gd c k = k := if_pos h
theorem cl_some {β γ : Type} {f : Option Rst} {k : Int32 → Mm → Option β} {g : β → Option γ} {x : γ} (h : (f.bind (fun q => k q.1 q.2)).bind g = some x) : ∃ r M1, f = some (r, M1) ∧ (k r M1).bind g = some x := by
  cases f with
  | none => cases h
  | some q => exact ⟨q.1, q.2, rfl, h⟩
theorem it_pos {α β : Type} {c : Prop} {_ : Decidable c} {A B : Option α} {g : α → Option β} {x : β} (h : (if c then A else B).bind g = some x) (hc : c) : A.bind g = some x := by rw [if_pos hc] at h; exact h
theorem it_neg {α β : Type} {c : Prop} {_ : Decidable c} {A B : Option α} {g : α → Option β} {x : β} (h : (if c then A else B).bind g = some x) (hc : ¬ c) : B.bind g = some x := by rw [if_neg hc] at h; exact h
/-! a method as steps from block to block -/
def itr (step : Sst → Option (Sst ⊕ Rst)) : Nat → Sst → Option Rst
  | 0, _ => none
  | n + 1, s => (step s).bind (fun q => match q with | .inl s' => itr step n s' | .inr r => some r)
theorem itr_mono (step : Sst → Option (Sst ⊕ Rst)) : ∀ (n : Nat) (s : Sst) (r : Rst), itr step n s = some r → itr step (n + 1) s = some r := by
  intro n
  induction n with
  | zero => intro s r h; cases h
  | succ n ih =>
    intro s r h
    rw [itr] at h ⊢
    cases hs : step s with
    | none => rw [hs] at h; cases h
    | some q =>
      rw [hs] at h
      cases q with
      | inl s' => exact ih s' r h
      | inr r' => exact h
theorem itr_le (step : Sst → Option (Sst ⊕ Rst)) {n m : Nat} {s : Sst} {r : Rst} (h : itr step n s = some r) (hm : n ≤ m) : itr step m s = some r := by
  induction hm with
  | refl => exact h
  | step _ ih => exact itr_mono step _ s r ih
noncomputable def run (step : Sst → Option (Sst ⊕ Rst)) (s : Sst) : Option Rst := by
  classical exact if h : ∃ r n, itr step n s = some r then some h.choose else none
theorem run_of {step : Sst → Option (Sst ⊕ Rst)} {s : Sst} {r : Rst} {n : Nat} (h : itr step n s = some r) : run step s = some r := by
  have hx : ∃ r n, itr step n s = some r := ⟨r, n, h⟩
  unfold run
  rw [dif_pos hx]
  obtain ⟨n2, h2⟩ := hx.choose_spec
  have a := itr_le step h (Nat.le_max_left n n2)
  have b := itr_le step h2 (Nat.le_max_right n n2)
  exact b.symm.trans a
theorem run_ex {step : Sst → Option (Sst ⊕ Rst)} {s : Sst} {r : Rst} (h : run step s = some r) : ∃ n, itr step n s = some r := by
  unfold run at h
  by_cases hx : ∃ r n, itr step n s = some r
  · rw [dif_pos hx] at h
    obtain ⟨n, hn⟩ := hx.choose_spec
    exact ⟨n, by rw [hn]; exact h⟩
  · rw [dif_neg hx] at h; cases h
/-- the one law of a run -/
theorem run_eq (step : Sst → Option (Sst ⊕ Rst)) (s : Sst) : run step s = (step s).bind (fun q => match q with | .inl s' => run step s' | .inr r => some r) := by
  cases hs : step s with
  | none =>
    cases hr : run step s with
    | none => rfl
    | some r =>
      obtain ⟨n, hn⟩ := run_ex hr
      cases n with
      | zero => cases hn
      | succ n => rw [itr, hs] at hn; cases hn
  | some q =>
    cases q with
    | inr r => exact run_of (n := 1) (by rw [itr, hs]; rfl)
    | inl s' =>
      show run step s = run step s'
      cases hr : run step s' with
      | some r =>
        obtain ⟨n, hn⟩ := run_ex hr
        exact run_of (n := n + 1) (by rw [itr, hs]; exact hn)
      | none =>
        cases hr2 : run step s with
        | none => rfl
        | some r =>
          obtain ⟨n, hn⟩ := run_ex hr2
          cases n with
          | zero => cases hn
          | succ n =>
            rw [itr, hs] at hn
            have := run_of (step := step) (s := s') hn
            rw [hr] at this
            cases this
def irem (x y : Int32) : Int32 := x - x / y * y
def imax (x y : Int32) : Int32 := if x < y then y else x
def imin (x y : Int32) : Int32 := if y < x then y else x
def ish (x y : Int32) : Int32 := x <<< (y &&& 31)
def isr (x y : Int32) : Int32 := x >>> (y &&& 31)
end
section
theorem kz_L : Cond.initialized RL ∈ tg := tg_i 51 (by decide +kernel)
theorem kz_X8 : Cond.initialized RX8 ∈ tg := tg_i 52 (by decide +kernel)
theorem kz_X6 : Cond.initialized RX6 ∈ tg := tg_i 53 (by decide +kernel)
theorem kz_X0 : Cond.initialized RX0 ∈ tg := tg_i 54 (by decide +kernel)
theorem kz_X1 : Cond.initialized RX1 ∈ tg := tg_i 55 (by decide +kernel)
theorem kz_X7 : Cond.initialized RX7 ∈ tg := tg_i 56 (by decide +kernel)
theorem kz_J9 : Cond.initialized RJ9 ∈ tg := tg_i 57 (by decide +kernel)
theorem kz_X5 : Cond.initialized RX5 ∈ tg := tg_i 58 (by decide +kernel)
theorem kz_X4 : Cond.initialized RX4 ∈ tg := tg_i 59 (by decide +kernel)
theorem kz_X2 : Cond.initialized RX2 ∈ tg := tg_i 60 (by decide +kernel)
theorem kz_X3 : Cond.initialized RX3 ∈ tg := tg_i 61 (by decide +kernel)
theorem kz_X9 : Cond.initialized RX9 ∈ tg := tg_i 62 (by decide +kernel)
theorem kz_J0 : Cond.initialized RJ0 ∈ tg := tg_i 63 (by decide +kernel)
theorem kz_J1 : Cond.initialized RJ1 ∈ tg := tg_i 64 (by decide +kernel)
theorem kz_J3 : Cond.initialized RJ3 ∈ tg := tg_i 65 (by decide +kernel)
theorem kz_J2 : Cond.initialized RJ2 ∈ tg := tg_i 66 (by decide +kernel)
theorem kz_J6 : Cond.initialized RJ6 ∈ tg := tg_i 67 (by decide +kernel)
theorem km_L_9 : Cond.methodLink RL 9 yX8_init ∈ tg := tg_i 70 (by decide +kernel)
theorem ki_X8_init : Cond.instanceMethod yX8_init ∈ tg := tg_i 71 (by decide +kernel)
theorem kc_X8_init : Cond.code yX8_init cX8_init 2 none ∈ tg := tg_i 72 (by decide +kernel)
theorem km_X8_1 : Cond.methodLink RX8 1 ⟨"java/lang/Object", "<init>", "()V"⟩ ∈ tg := tg_i 73 (by decide +kernel)
theorem ki_obj : Cond.instanceMethod objectInit ∈ tg := tg_i 74 (by decide +kernel)
theorem kc_obj : Cond.code objectInit ⟨#[0xb1]⟩ 1 none ∈ tg := tg_i 75 (by decide +kernel)
theorem ki_X6_init : Cond.instanceMethod yX6_init ∈ tg := tg_i 79 (by decide +kernel)
theorem kc_X6_init : Cond.code yX6_init cX6_init 1 none ∈ tg := tg_i 80 (by decide +kernel)
theorem km_X6_3 : Cond.methodLink RX6 3 ⟨"java/lang/Object", "<init>", "()V"⟩ ∈ tg := tg_i 81 (by decide +kernel)
theorem kf_X6_9 : Cond.fieldLink RX6 9 "ShuffledViews$Text" "letters" "[I" ∈ tg := tg_i 82 (by decide +kernel)
theorem kf_X6_15 : Cond.fieldLink RX6 15 "ShuffledViews$Text" "length" "I" ∈ tg := tg_i 83 (by decide +kernel)
theorem kf_X8_62 : Cond.fieldLink RX8 62 "ShuffledViews$Text" "length" "I" ∈ tg := tg_i 84 (by decide +kernel)
theorem kf_X0_40 : Cond.fieldLink RX0 40 "ShuffledViews$Text" "tokenKind" "I" ∈ tg := tg_i 85 (by decide +kernel)
theorem kf_X6_32 : Cond.fieldLink RX6 32 "ShuffledViews$Text" "tokenKind" "I" ∈ tg := tg_i 86 (by decide +kernel)
theorem kf_X0_37 : Cond.fieldLink RX0 37 "ShuffledViews$Text" "tokenStart" "I" ∈ tg := tg_i 87 (by decide +kernel)
theorem kf_X6_22 : Cond.fieldLink RX6 22 "ShuffledViews$Text" "tokenStart" "I" ∈ tg := tg_i 88 (by decide +kernel)
theorem kf_X6_19 : Cond.fieldLink RX6 19 "ShuffledViews$Text" "tokenEnd" "I" ∈ tg := tg_i 89 (by decide +kernel)
theorem ki_X0_init : Cond.instanceMethod yX0_init ∈ tg := tg_i 105 (by decide +kernel)
theorem kc_X0_init : Cond.code yX0_init cX0_init 1 none ∈ tg := tg_i 106 (by decide +kernel)
theorem km_X0_3 : Cond.methodLink RX0 3 ⟨"java/lang/Object", "<init>", "()V"⟩ ∈ tg := tg_i 107 (by decide +kernel)
theorem kf_X0_9 : Cond.fieldLink RX0 9 "ShuffledViews$Clauses" "forms" "[I" ∈ tg := tg_i 108 (by decide +kernel)
theorem kf_X0_15 : Cond.fieldLink RX0 15 "ShuffledViews$Clauses" "numbers" "[I" ∈ tg := tg_i 109 (by decide +kernel)
theorem kf_X0_22 : Cond.fieldLink RX0 22 "ShuffledViews$Clauses" "size" "I" ∈ tg := tg_i 110 (by decide +kernel)
theorem kf_X8_88 : Cond.fieldLink RX8 88 "ShuffledViews$Clauses" "size" "I" ∈ tg := tg_i 111 (by decide +kernel)
theorem kf_X0_18 : Cond.fieldLink RX0 18 "ShuffledViews$Clauses" "nodesThen" "I" ∈ tg := tg_i 112 (by decide +kernel)
theorem km_X8_25 : Cond.methodLink RX8 25 yX1_init ∈ tg := tg_i 124 (by decide +kernel)
theorem ki_X1_init : Cond.instanceMethod yX1_init ∈ tg := tg_i 125 (by decide +kernel)
theorem kc_X1_init : Cond.code yX1_init cX1_init 2 none ∈ tg := tg_i 126 (by decide +kernel)
theorem km_X1_3 : Cond.methodLink RX1 3 ⟨"java/lang/Object", "<init>", "()V"⟩ ∈ tg := tg_i 127 (by decide +kernel)
theorem ki_X7_init : Cond.instanceMethod yX7_init ∈ tg := tg_i 132 (by decide +kernel)
theorem kc_X7_init : Cond.code yX7_init cX7_init 1 none ∈ tg := tg_i 133 (by decide +kernel)
theorem km_X7_3 : Cond.methodLink RX7 3 ⟨"java/lang/Object", "<init>", "()V"⟩ ∈ tg := tg_i 134 (by decide +kernel)
theorem kf_X7_9 : Cond.fieldLink RX7 9 "ShuffledViews$View" "nodes" "[I" ∈ tg := tg_i 135 (by decide +kernel)
theorem kf_X5_44 : Cond.fieldLink RX5 44 "ShuffledViews$View" "nodes" "[I" ∈ tg := tg_i 136 (by decide +kernel)
theorem kf_X4_45 : Cond.fieldLink RX4 45 "ShuffledViews$View" "nodes" "[I" ∈ tg := tg_i 137 (by decide +kernel)
theorem kf_X8_116 : Cond.fieldLink RX8 116 "ShuffledViews$View" "nodes" "[I" ∈ tg := tg_i 138 (by decide +kernel)
theorem kf_X7_15 : Cond.fieldLink RX7 15 "ShuffledViews$View" "ages" "[I" ∈ tg := tg_i 139 (by decide +kernel)
theorem kf_X4_46 : Cond.fieldLink RX4 46 "ShuffledViews$View" "ages" "[I" ∈ tg := tg_i 140 (by decide +kernel)
theorem kf_X8_119 : Cond.fieldLink RX8 119 "ShuffledViews$View" "ages" "[I" ∈ tg := tg_i 141 (by decide +kernel)
theorem kf_X7_18 : Cond.fieldLink RX7 18 "ShuffledViews$View" "size" "I" ∈ tg := tg_i 142 (by decide +kernel)
theorem kf_X5_40 : Cond.fieldLink RX5 40 "ShuffledViews$View" "size" "I" ∈ tg := tg_i 143 (by decide +kernel)
theorem kf_X4_29 : Cond.fieldLink RX4 29 "ShuffledViews$View" "size" "I" ∈ tg := tg_i 144 (by decide +kernel)
theorem kf_X8_105 : Cond.fieldLink RX8 105 "ShuffledViews$View" "size" "I" ∈ tg := tg_i 145 (by decide +kernel)
theorem kf_X1_80 : Cond.fieldLink RX1 80 "ShuffledViews$View" "size" "I" ∈ tg := tg_i 146 (by decide +kernel)
theorem km_X1_18 : Cond.methodLink RX1 18 yX1_begin ∈ tg := tg_i 154 (by decide +kernel)
theorem ki_X1_begin : Cond.instanceMethod yX1_begin ∈ tg := tg_i 155 (by decide +kernel)
theorem ks_X1_begin : Cond.selects RX1 yX1_begin yX1_begin ∈ tg := tg_i 156 (by decide +kernel)
theorem kc_X1_begin : Cond.code yX1_begin cX1_begin 7 none ∈ tg := tg_i 157 (by decide +kernel)
theorem km_X1_22 : Cond.methodLink RX1 22 yJ9_min_7cf53 ∈ tg := tg_i 158 (by decide +kernel)
theorem kt_J9_min_7cf53 : Cond.static yJ9_min_7cf53 ∈ tg := tg_i 159 (by decide +kernel)
theorem kc_J9_min_7cf53 : Cond.code yJ9_min_7cf53 cJ9_min_7cf53 2 (some .int) ∈ tg := tg_i 160 (by decide +kernel)
theorem km_X1_28 : Cond.methodLink RX1 28 yJ9_max_7cf53 ∈ tg := tg_i 161 (by decide +kernel)
theorem kt_J9_max_7cf53 : Cond.static yJ9_max_7cf53 ∈ tg := tg_i 162 (by decide +kernel)
theorem kc_J9_max_7cf53 : Cond.code yJ9_max_7cf53 cJ9_max_7cf53 2 (some .int) ∈ tg := tg_i 163 (by decide +kernel)
theorem km_X1_50 : Cond.methodLink RX1 50 yX7_clear ∈ tg := tg_i 164 (by decide +kernel)
theorem ki_X7_clear : Cond.instanceMethod yX7_clear ∈ tg := tg_i 165 (by decide +kernel)
theorem ks_X7_clear : Cond.selects RX7 yX7_clear yX7_clear ∈ tg := tg_i 166 (by decide +kernel)
theorem kc_X7_clear : Cond.code yX7_clear cX7_clear 1 none ∈ tg := tg_i 167 (by decide +kernel)
theorem km_X1_53 : Cond.methodLink RX1 53 yX7_append ∈ tg := tg_i 168 (by decide +kernel)
theorem ki_X7_append : Cond.instanceMethod yX7_append ∈ tg := tg_i 169 (by decide +kernel)
theorem ks_X7_append : Cond.selects RX7 yX7_append yX7_append ∈ tg := tg_i 170 (by decide +kernel)
theorem kc_X7_append : Cond.code yX7_append cX7_append 3 none ∈ tg := tg_i 171 (by decide +kernel)
theorem kf_X1_11 : Cond.fieldLink RX1 11 "ShuffledViews$Net" "views" "[LShuffledViews$View;" ∈ tg := tg_i 172 (by decide +kernel)
theorem kf_X5_27 : Cond.fieldLink RX5 27 "ShuffledViews$Net" "views" "[LShuffledViews$View;" ∈ tg := tg_i 173 (by decide +kernel)
theorem kf_X8_101 : Cond.fieldLink RX8 101 "ShuffledViews$Net" "views" "[LShuffledViews$View;" ∈ tg := tg_i 174 (by decide +kernel)
theorem kf_X1_31 : Cond.fieldLink RX1 31 "ShuffledViews$Net" "nodes" "I" ∈ tg := tg_i 175 (by decide +kernel)
theorem kf_X8_73 : Cond.fieldLink RX8 73 "ShuffledViews$Net" "nodes" "I" ∈ tg := tg_i 176 (by decide +kernel)
theorem kf_X1_35 : Cond.fieldLink RX1 35 "ShuffledViews$Net" "room" "I" ∈ tg := tg_i 177 (by decide +kernel)
theorem kf_X5_89 : Cond.fieldLink RX5 89 "ShuffledViews$Net" "room" "I" ∈ tg := tg_i 178 (by decide +kernel)
theorem kf_X8_155 : Cond.fieldLink RX8 155 "ShuffledViews$Net" "room" "I" ∈ tg := tg_i 179 (by decide +kernel)
theorem kf_X1_38 : Cond.fieldLink RX1 38 "ShuffledViews$Net" "slice" "I" ∈ tg := tg_i 180 (by decide +kernel)
theorem kf_X4_32 : Cond.fieldLink RX4 32 "ShuffledViews$Net" "slice" "I" ∈ tg := tg_i 181 (by decide +kernel)
theorem kf_X8_211 : Cond.fieldLink RX8 211 "ShuffledViews$Net" "slice" "I" ∈ tg := tg_i 182 (by decide +kernel)
theorem kf_X1_41 : Cond.fieldLink RX1 41 "ShuffledViews$Net" "draws" "I" ∈ tg := tg_i 183 (by decide +kernel)
theorem kf_X8_217 : Cond.fieldLink RX8 217 "ShuffledViews$Net" "draws" "I" ∈ tg := tg_i 184 (by decide +kernel)
theorem kf_X1_44 : Cond.fieldLink RX1 44 "ShuffledViews$Net" "alive" "I" ∈ tg := tg_i 185 (by decide +kernel)
theorem kf_X8_140 : Cond.fieldLink RX8 140 "ShuffledViews$Net" "alive" "I" ∈ tg := tg_i 186 (by decide +kernel)
theorem kf_X1_47 : Cond.fieldLink RX1 47 "ShuffledViews$Net" "sly" "I" ∈ tg := tg_i 187 (by decide +kernel)
theorem ki_X5_init : Cond.instanceMethod yX5_init ∈ tg := tg_i 206 (by decide +kernel)
theorem kc_X5_init : Cond.code yX5_init cX5_init 1 none ∈ tg := tg_i 207 (by decide +kernel)
theorem km_X5_3 : Cond.methodLink RX5 3 ⟨"java/lang/Object", "<init>", "()V"⟩ ∈ tg := tg_i 208 (by decide +kernel)
theorem ki_X4_init : Cond.instanceMethod yX4_init ∈ tg := tg_i 212 (by decide +kernel)
theorem kc_X4_init : Cond.code yX4_init cX4_init 1 none ∈ tg := tg_i 213 (by decide +kernel)
theorem km_X4_3 : Cond.methodLink RX4 3 ⟨"java/lang/Object", "<init>", "()V"⟩ ∈ tg := tg_i 214 (by decide +kernel)
theorem kf_X4_9 : Cond.fieldLink RX4 9 "ShuffledViews$Sent" "nodes" "[I" ∈ tg := tg_i 215 (by decide +kernel)
theorem kf_X5_85 : Cond.fieldLink RX5 85 "ShuffledViews$Sent" "nodes" "[I" ∈ tg := tg_i 216 (by decide +kernel)
theorem kf_X4_15 : Cond.fieldLink RX4 15 "ShuffledViews$Sent" "ages" "[I" ∈ tg := tg_i 217 (by decide +kernel)
theorem kf_X5_92 : Cond.fieldLink RX5 92 "ShuffledViews$Sent" "ages" "[I" ∈ tg := tg_i 218 (by decide +kernel)
theorem kf_X4_18 : Cond.fieldLink RX4 18 "ShuffledViews$Sent" "places" "[I" ∈ tg := tg_i 219 (by decide +kernel)
theorem kf_X4_21 : Cond.fieldLink RX4 21 "ShuffledViews$Sent" "size" "I" ∈ tg := tg_i 220 (by decide +kernel)
theorem kf_X5_84 : Cond.fieldLink RX5 84 "ShuffledViews$Sent" "size" "I" ∈ tg := tg_i 221 (by decide +kernel)
theorem kf_X5_12 : Cond.fieldLink RX5 12 "ShuffledViews$Shuffle" "bySender" "LShuffledViews$Sent;" ∈ tg := tg_i 231 (by decide +kernel)
theorem kf_X5_18 : Cond.fieldLink RX5 18 "ShuffledViews$Shuffle" "byAsked" "LShuffledViews$Sent;" ∈ tg := tg_i 232 (by decide +kernel)
theorem km_X8_42 : Cond.methodLink RX8 42 yX2_init ∈ tg := tg_i 240 (by decide +kernel)
theorem ki_X2_init : Cond.instanceMethod yX2_init ∈ tg := tg_i 241 (by decide +kernel)
theorem kc_X2_init : Cond.code yX2_init cX2_init 2 none ∈ tg := tg_i 242 (by decide +kernel)
theorem km_X2_3 : Cond.methodLink RX2 3 ⟨"java/lang/Object", "<init>", "()V"⟩ ∈ tg := tg_i 243 (by decide +kernel)
theorem km_X2_17 : Cond.methodLink RX2 17 yX1_init ∈ tg := tg_i 246 (by decide +kernel)
theorem kf_X2_11 : Cond.fieldLink RX2 11 "ShuffledViews$Past" "nets" "[LShuffledViews$Net;" ∈ tg := tg_i 247 (by decide +kernel)
theorem kf_X2_22 : Cond.fieldLink RX2 22 "ShuffledViews$Past" "top" "I" ∈ tg := tg_i 248 (by decide +kernel)
theorem kf_X2_18 : Cond.fieldLink RX2 18 "ShuffledViews$Past" "size" "I" ∈ tg := tg_i 249 (by decide +kernel)
theorem kf_X8_161 : Cond.fieldLink RX8 161 "ShuffledViews$Past" "size" "I" ∈ tg := tg_i 250 (by decide +kernel)
theorem ki_X3_init : Cond.instanceMethod yX3_init ∈ tg := tg_i 262 (by decide +kernel)
theorem kc_X3_init : Cond.code yX3_init cX3_init 1 none ∈ tg := tg_i 263 (by decide +kernel)
theorem km_X3_3 : Cond.methodLink RX3 3 ⟨"java/lang/Object", "<init>", "()V"⟩ ∈ tg := tg_i 264 (by decide +kernel)
theorem kf_X3_9 : Cond.fieldLink RX3 9 "ShuffledViews$Ring" "numbers" "[I" ∈ tg := tg_i 265 (by decide +kernel)
theorem kf_X3_19 : Cond.fieldLink RX3 19 "ShuffledViews$Ring" "size" "I" ∈ tg := tg_i 266 (by decide +kernel)
theorem kf_X8_188 : Cond.fieldLink RX8 188 "ShuffledViews$Ring" "size" "I" ∈ tg := tg_i 267 (by decide +kernel)
theorem kf_X3_23 : Cond.fieldLink RX3 23 "ShuffledViews$Ring" "hand" "I" ∈ tg := tg_i 268 (by decide +kernel)
theorem kf_X3_15 : Cond.fieldLink RX3 15 "ShuffledViews$Ring" "missing" "Z" ∈ tg := tg_i 269 (by decide +kernel)
theorem kf_X8_184 : Cond.fieldLink RX8 184 "ShuffledViews$Ring" "missing" "Z" ∈ tg := tg_i 270 (by decide +kernel)
theorem kf_X8_10 : Cond.fieldLink RX8 10 "ShuffledViews" "text" "LShuffledViews$Text;" ∈ tg := tg_i 281 (by decide +kernel)
theorem kf_X8_19 : Cond.fieldLink RX8 19 "ShuffledViews" "clauses" "LShuffledViews$Clauses;" ∈ tg := tg_i 282 (by decide +kernel)
theorem kf_X8_26 : Cond.fieldLink RX8 26 "ShuffledViews" "now" "LShuffledViews$Net;" ∈ tg := tg_i 283 (by decide +kernel)
theorem kf_X8_30 : Cond.fieldLink RX8 30 "ShuffledViews" "foreseen" "LShuffledViews$Net;" ∈ tg := tg_i 284 (by decide +kernel)
theorem kf_X8_36 : Cond.fieldLink RX8 36 "ShuffledViews" "shuffle" "LShuffledViews$Shuffle;" ∈ tg := tg_i 285 (by decide +kernel)
theorem kf_X8_43 : Cond.fieldLink RX8 43 "ShuffledViews" "past" "LShuffledViews$Past;" ∈ tg := tg_i 286 (by decide +kernel)
theorem kf_X8_47 : Cond.fieldLink RX8 47 "ShuffledViews" "keptNets" "[LShuffledViews$Net;" ∈ tg := tg_i 287 (by decide +kernel)
theorem kf_X8_51 : Cond.fieldLink RX8 51 "ShuffledViews" "isKept" "[Z" ∈ tg := tg_i 288 (by decide +kernel)
theorem kf_X8_57 : Cond.fieldLink RX8 57 "ShuffledViews" "rings" "[LShuffledViews$Ring;" ∈ tg := tg_i 289 (by decide +kernel)
theorem km_L_13 : Cond.methodLink RL 13 yX8_write ∈ tg := tg_i 309 (by decide +kernel)
theorem ki_X8_write : Cond.instanceMethod yX8_write ∈ tg := tg_i 310 (by decide +kernel)
theorem ks_X8_write : Cond.selects RX8 yX8_write yX8_write ∈ tg := tg_i 311 (by decide +kernel)
theorem kc_X8_write : Cond.code yX8_write cX8_write 2 (some .int) ∈ tg := tg_i 312 (by decide +kernel)
theorem km_X8_66 : Cond.methodLink RX8 66 yX6_append ∈ tg := tg_i 313 (by decide +kernel)
theorem ki_X6_append : Cond.instanceMethod yX6_append ∈ tg := tg_i 314 (by decide +kernel)
theorem ks_X6_append : Cond.selects RX6 yX6_append yX6_append ∈ tg := tg_i 315 (by decide +kernel)
theorem kc_X6_append : Cond.code yX6_append cX6_append 2 none ∈ tg := tg_i 316 (by decide +kernel)
theorem km_L_18 : Cond.methodLink RL 18 yX8_erase ∈ tg := tg_i 317 (by decide +kernel)
theorem ki_X8_erase : Cond.instanceMethod yX8_erase ∈ tg := tg_i 318 (by decide +kernel)
theorem ks_X8_erase : Cond.selects RX8 yX8_erase yX8_erase ∈ tg := tg_i 319 (by decide +kernel)
theorem kc_X8_erase : Cond.code yX8_erase cX8_erase 2 (some .int) ∈ tg := tg_i 320 (by decide +kernel)
theorem km_X8_70 : Cond.methodLink RX8 70 yX6_clear ∈ tg := tg_i 321 (by decide +kernel)
theorem ki_X6_clear : Cond.instanceMethod yX6_clear ∈ tg := tg_i 322 (by decide +kernel)
theorem ks_X6_clear : Cond.selects RX6 yX6_clear yX6_clear ∈ tg := tg_i 323 (by decide +kernel)
theorem kc_X6_clear : Cond.code yX6_clear cX6_clear 1 none ∈ tg := tg_i 324 (by decide +kernel)
theorem km_L_23 : Cond.methodLink RL 23 yX8_fault ∈ tg := tg_i 325 (by decide +kernel)
theorem ki_X8_fault : Cond.instanceMethod yX8_fault ∈ tg := tg_i 326 (by decide +kernel)
theorem ks_X8_fault : Cond.selects RX8 yX8_fault yX8_fault ∈ tg := tg_i 327 (by decide +kernel)
theorem kc_X8_fault : Cond.code yX8_fault cX8_fault 1 (some .int) ∈ tg := tg_i 328 (by decide +kernel)
theorem km_X8_76 : Cond.methodLink RX8 76 yX0_read ∈ tg := tg_i 329 (by decide +kernel)
theorem ki_X0_read : Cond.instanceMethod yX0_read ∈ tg := tg_i 330 (by decide +kernel)
theorem ks_X0_read : Cond.selects RX0 yX0_read yX0_read ∈ tg := tg_i 331 (by decide +kernel)
theorem kc_X0_read : Cond.code yX0_read cX0_read 4 (some .int) ∈ tg := tg_i 332 (by decide +kernel)
theorem km_X0_25 : Cond.methodLink RX0 25 yX6_rewind ∈ tg := tg_i 333 (by decide +kernel)
theorem ki_X6_rewind : Cond.instanceMethod yX6_rewind ∈ tg := tg_i 334 (by decide +kernel)
theorem ks_X6_rewind : Cond.selects RX6 yX6_rewind yX6_rewind ∈ tg := tg_i 335 (by decide +kernel)
theorem kc_X6_rewind : Cond.code yX6_rewind cX6_rewind 1 none ∈ tg := tg_i 336 (by decide +kernel)
theorem km_X0_30 : Cond.methodLink RX0 30 yX6_readToken ∈ tg := tg_i 337 (by decide +kernel)
theorem ki_X6_readToken : Cond.instanceMethod yX6_readToken ∈ tg := tg_i 338 (by decide +kernel)
theorem ks_X6_readToken : Cond.selects RX6 yX6_readToken yX6_readToken ∈ tg := tg_i 339 (by decide +kernel)
theorem kc_X6_readToken : Cond.code yX6_readToken cX6_readToken 2 none ∈ tg := tg_i 340 (by decide +kernel)
theorem km_X6_25 : Cond.methodLink RX6 25 yX6_letterAt ∈ tg := tg_i 341 (by decide +kernel)
theorem ki_X6_letterAt : Cond.instanceMethod yX6_letterAt ∈ tg := tg_i 343 (by decide +kernel)
theorem kc_X6_letterAt : Cond.code yX6_letterAt cX6_letterAt 2 (some .int) ∈ tg := tg_i 344 (by decide +kernel)
theorem km_X6_29 : Cond.methodLink RX6 29 yX6_kindAt ∈ tg := tg_i 345 (by decide +kernel)
theorem ki_X6_kindAt : Cond.instanceMethod yX6_kindAt ∈ tg := tg_i 347 (by decide +kernel)
theorem kc_X6_kindAt : Cond.code yX6_kindAt cX6_kindAt 3 (some .int) ∈ tg := tg_i 348 (by decide +kernel)
theorem km_X6_35 : Cond.methodLink RX6 35 yJ9_min_7cf53 ∈ tg := tg_i 349 (by decide +kernel)
theorem km_X0_33 : Cond.methodLink RX0 33 yX0_readClause ∈ tg := tg_i 350 (by decide +kernel)
theorem ki_X0_readClause : Cond.instanceMethod yX0_readClause ∈ tg := tg_i 352 (by decide +kernel)
theorem kc_X0_readClause : Cond.code yX0_readClause cX0_readClause 6 (some .boolean) ∈ tg := tg_i 353 (by decide +kernel)
theorem km_X0_43 : Cond.methodLink RX0 43 yX0_formOf ∈ tg := tg_i 354 (by decide +kernel)
theorem kt_X0_formOf : Cond.static yX0_formOf ∈ tg := tg_i 355 (by decide +kernel)
theorem kc_X0_formOf : Cond.code yX0_formOf cX0_formOf 1 (some .int) ∈ tg := tg_i 356 (by decide +kernel)
theorem km_X0_74 : Cond.methodLink RX0 74 yX6_isWord ∈ tg := tg_i 358 (by decide +kernel)
theorem ki_X6_isWord : Cond.instanceMethod yX6_isWord ∈ tg := tg_i 359 (by decide +kernel)
theorem ks_X6_isWord : Cond.selects RX6 yX6_isWord yX6_isWord ∈ tg := tg_i 360 (by decide +kernel)
theorem kc_X6_isWord : Cond.code yX6_isWord cX6_isWord 3 (some .boolean) ∈ tg := tg_i 361 (by decide +kernel)
theorem km_X6_41 : Cond.methodLink RX6 41 yJ0_length_8abf5 ∈ tg := tg_i 362 (by decide +kernel)
theorem ki_J0_length_8abf5 : Cond.instanceMethod yJ0_length_8abf5 ∈ tg := tg_i 363 (by decide +kernel)
theorem ks_J0_length_8abf5 : Cond.selects RJ0 yJ0_length_8abf5 yJ0_length_8abf5 ∈ tg := tg_i 364 (by decide +kernel)
theorem kc_J0_length_8abf5 : Cond.code yJ0_length_8abf5 cJ0_length_8abf5 1 (some .int) ∈ tg := tg_i 365 (by decide +kernel)
theorem km_J0_335 : Cond.methodLink RJ0 335 yJ0_coder_7d493 ∈ tg := tg_i 366 (by decide +kernel)
theorem ki_J0_coder_7d493 : Cond.instanceMethod yJ0_coder_7d493 ∈ tg := tg_i 367 (by decide +kernel)
theorem ks_J0_coder_7d493 : Cond.selects RJ0 yJ0_coder_7d493 yJ0_coder_7d493 ∈ tg := tg_i 368 (by decide +kernel)
theorem kc_J0_coder_7d493 : Cond.code yJ0_coder_7d493 cJ0_coder_7d493 1 (some .byte) ∈ tg := tg_i 369 (by decide +kernel)
theorem kf_J0_38 : Cond.fieldLink RJ0 38 "java/lang/String" "COMPACT_STRINGS" "Z" ∈ tg := tg_i 370 (by decide +kernel)
theorem km_X6_46 : Cond.methodLink RX6 46 yJ0_charAt_5068e ∈ tg := tg_i 372 (by decide +kernel)
theorem ki_J0_charAt_5068e : Cond.instanceMethod yJ0_charAt_5068e ∈ tg := tg_i 373 (by decide +kernel)
theorem ks_J0_charAt_5068e : Cond.selects RJ0 yJ0_charAt_5068e yJ0_charAt_5068e ∈ tg := tg_i 374 (by decide +kernel)
theorem kc_J0_charAt_5068e : Cond.code yJ0_charAt_5068e cJ0_charAt_5068e 2 (some .char) ∈ tg := tg_i 375 (by decide +kernel)
theorem km_J0_492 : Cond.methodLink RJ0 492 yJ0_isLatin1_aae02 ∈ tg := tg_i 376 (by decide +kernel)
theorem ki_J0_isLatin1_aae02 : Cond.instanceMethod yJ0_isLatin1_aae02 ∈ tg := tg_i 377 (by decide +kernel)
theorem ks_J0_isLatin1_aae02 : Cond.selects RJ0 yJ0_isLatin1_aae02 yJ0_isLatin1_aae02 ∈ tg := tg_i 378 (by decide +kernel)
theorem kc_J0_isLatin1_aae02 : Cond.code yJ0_isLatin1_aae02 cJ0_isLatin1_aae02 1 (some .boolean) ∈ tg := tg_i 379 (by decide +kernel)
theorem km_J0_495 : Cond.methodLink RJ0 495 yJ1_charAt_3b067 ∈ tg := tg_i 380 (by decide +kernel)
theorem kt_J1_charAt_3b067 : Cond.static yJ1_charAt_3b067 ∈ tg := tg_i 381 (by decide +kernel)
theorem kc_J1_charAt_3b067 : Cond.code yJ1_charAt_3b067 cJ1_charAt_3b067 2 (some .char) ∈ tg := tg_i 382 (by decide +kernel)
theorem km_J1_9 : Cond.methodLink RJ1 9 yJ0_checkIndex_df160 ∈ tg := tg_i 383 (by decide +kernel)
theorem kt_J0_checkIndex_df160 : Cond.static yJ0_checkIndex_df160 ∈ tg := tg_i 384 (by decide +kernel)
theorem kc_J0_checkIndex_df160 : Cond.code yJ0_checkIndex_df160 cJ0_checkIndex_df160 2 none ∈ tg := tg_i 385 (by decide +kernel)
theorem kf_J0_1053 : Cond.fieldLink RJ0 1053 "jdk/internal/util/Preconditions" "SIOOBE_FORMATTER" "Ljava/util/function/BiFunction;" ∈ tg := tg_i 386 (by decide +kernel)
theorem km_J0_1059 : Cond.methodLink RJ0 1059 yJ3_checkIndex_8e157 ∈ tg := tg_i 388 (by decide +kernel)
theorem kt_J3_checkIndex_8e157 : Cond.static yJ3_checkIndex_8e157 ∈ tg := tg_i 389 (by decide +kernel)
theorem kc_J3_checkIndex_8e157 : Cond.code yJ3_checkIndex_8e157 cJ3_checkIndex_8e157 3 (some .int) ∈ tg := tg_i 390 (by decide +kernel)
theorem km_J0_498 : Cond.methodLink RJ0 498 yJ2_charAt_3b067 ∈ tg := tg_i 391 (by decide +kernel)
theorem kt_J2_charAt_3b067 : Cond.static yJ2_charAt_3b067 ∈ tg := tg_i 392 (by decide +kernel)
theorem kc_J2_charAt_3b067 : Cond.code yJ2_charAt_3b067 cJ2_charAt_3b067 2 (some .char) ∈ tg := tg_i 393 (by decide +kernel)
theorem km_J2_67 : Cond.methodLink RJ2 67 yJ2_checkIndex_2214a ∈ tg := tg_i 394 (by decide +kernel)
theorem kt_J2_checkIndex_2214a : Cond.static yJ2_checkIndex_2214a ∈ tg := tg_i 395 (by decide +kernel)
theorem kc_J2_checkIndex_2214a : Cond.code yJ2_checkIndex_2214a cJ2_checkIndex_2214a 2 none ∈ tg := tg_i 396 (by decide +kernel)
theorem km_J2_48 : Cond.methodLink RJ2 48 yJ2_length_9d52b ∈ tg := tg_i 397 (by decide +kernel)
theorem kt_J2_length_9d52b : Cond.static yJ2_length_9d52b ∈ tg := tg_i 398 (by decide +kernel)
theorem kc_J2_length_9d52b : Cond.code yJ2_length_9d52b cJ2_length_9d52b 1 (some .int) ∈ tg := tg_i 399 (by decide +kernel)
theorem km_J2_414 : Cond.methodLink RJ2 414 yJ0_checkIndex_df160 ∈ tg := tg_i 400 (by decide +kernel)
theorem km_J2_71 : Cond.methodLink RJ2 71 yJ2_getChar_3b067 ∈ tg := tg_i 401 (by decide +kernel)
theorem kt_J2_getChar_3b067 : Cond.static yJ2_getChar_3b067 ∈ tg := tg_i 402 (by decide +kernel)
theorem kc_J2_getChar_3b067 : Cond.code yJ2_getChar_3b067 cJ2_getChar_3b067 2 (some .char) ∈ tg := tg_i 403 (by decide +kernel)
theorem kf_J2_44 : Cond.fieldLink RJ2 44 "java/lang/StringUTF16" "$assertionsDisabled" "Z" ∈ tg := tg_i 404 (by decide +kernel)
theorem kf_J2_59 : Cond.fieldLink RJ2 59 "java/lang/StringUTF16" "HI_BYTE_SHIFT" "I" ∈ tg := tg_i 406 (by decide +kernel)
theorem kf_J2_63 : Cond.fieldLink RJ2 63 "java/lang/StringUTF16" "LO_BYTE_SHIFT" "I" ∈ tg := tg_i 408 (by decide +kernel)
theorem km_X0_47 : Cond.methodLink RX0 47 yX0_numbersOf ∈ tg := tg_i 414 (by decide +kernel)
theorem kt_X0_numbersOf : Cond.static yX0_numbersOf ∈ tg := tg_i 415 (by decide +kernel)
theorem kc_X0_numbersOf : Cond.code yX0_numbersOf cX0_numbersOf 1 (some .int) ∈ tg := tg_i 416 (by decide +kernel)
theorem km_X0_51 : Cond.methodLink RX0 51 yX6_number ∈ tg := tg_i 417 (by decide +kernel)
theorem ki_X6_number : Cond.instanceMethod yX6_number ∈ tg := tg_i 418 (by decide +kernel)
theorem ks_X6_number : Cond.selects RX6 yX6_number yX6_number ∈ tg := tg_i 419 (by decide +kernel)
theorem kc_X6_number : Cond.code yX6_number cX6_number 3 (some .int) ∈ tg := tg_i 420 (by decide +kernel)
theorem km_X0_55 : Cond.methodLink RX0 55 yX0_fits ∈ tg := tg_i 421 (by decide +kernel)
theorem ki_X0_fits : Cond.instanceMethod yX0_fits ∈ tg := tg_i 423 (by decide +kernel)
theorem kc_X0_fits : Cond.code yX0_fits cX0_fits 5 (some .boolean) ∈ tg := tg_i 424 (by decide +kernel)
theorem km_X0_63 : Cond.methodLink RX0 63 yX0_formAt ∈ tg := tg_i 425 (by decide +kernel)
theorem ki_X0_formAt : Cond.instanceMethod yX0_formAt ∈ tg := tg_i 427 (by decide +kernel)
theorem kc_X0_formAt : Cond.code yX0_formAt cX0_formAt 2 (some .int) ∈ tg := tg_i 428 (by decide +kernel)
theorem km_X0_66 : Cond.methodLink RX0 66 yX0_leastOfNet ∈ tg := tg_i 429 (by decide +kernel)
theorem kt_X0_leastOfNet : Cond.static yX0_leastOfNet ∈ tg := tg_i 430 (by decide +kernel)
theorem kc_X0_leastOfNet : Cond.code yX0_leastOfNet cX0_leastOfNet 1 (some .int) ∈ tg := tg_i 431 (by decide +kernel)
theorem km_X0_69 : Cond.methodLink RX0 69 yX0_mostOfNet ∈ tg := tg_i 432 (by decide +kernel)
theorem ki_X0_mostOfNet : Cond.instanceMethod yX0_mostOfNet ∈ tg := tg_i 434 (by decide +kernel)
theorem kc_X0_mostOfNet : Cond.code yX0_mostOfNet cX0_mostOfNet 3 (some .int) ∈ tg := tg_i 435 (by decide +kernel)
theorem km_X0_59 : Cond.methodLink RX0 59 yX0_numberOf ∈ tg := tg_i 436 (by decide +kernel)
theorem ki_X0_numberOf : Cond.instanceMethod yX0_numberOf ∈ tg := tg_i 438 (by decide +kernel)
theorem kc_X0_numberOf : Cond.code yX0_numberOf cX0_numberOf 3 (some .int) ∈ tg := tg_i 439 (by decide +kernel)
theorem km_L_27 : Cond.methodLink RL 27 yX8_net ∈ tg := tg_i 441 (by decide +kernel)
theorem ki_X8_net : Cond.instanceMethod yX8_net ∈ tg := tg_i 442 (by decide +kernel)
theorem ks_X8_net : Cond.selects RX8 yX8_net yX8_net ∈ tg := tg_i 443 (by decide +kernel)
theorem kc_X8_net : Cond.code yX8_net cX8_net 2 (some .int) ∈ tg := tg_i 444 (by decide +kernel)
theorem km_X8_80 : Cond.methodLink RX8 80 yX0_doAll ∈ tg := tg_i 445 (by decide +kernel)
theorem ki_X0_doAll : Cond.instanceMethod yX0_doAll ∈ tg := tg_i 446 (by decide +kernel)
theorem ks_X0_doAll : Cond.selects RX0 yX0_doAll yX0_doAll ∈ tg := tg_i 447 (by decide +kernel)
theorem kc_X0_doAll : Cond.code yX0_doAll cX0_doAll 3 none ∈ tg := tg_i 448 (by decide +kernel)
theorem km_X0_86 : Cond.methodLink RX0 86 yX0_doOne ∈ tg := tg_i 449 (by decide +kernel)
theorem ki_X0_doOne : Cond.instanceMethod yX0_doOne ∈ tg := tg_i 451 (by decide +kernel)
theorem kc_X0_doOne : Cond.code yX0_doOne cX0_doOne 6 none ∈ tg := tg_i 452 (by decide +kernel)
theorem km_X0_90 : Cond.methodLink RX0 90 yX1_begin ∈ tg := tg_i 453 (by decide +kernel)
theorem km_X0_96 : Cond.methodLink RX0 96 yX1_setAlive ∈ tg := tg_i 454 (by decide +kernel)
theorem ki_X1_setAlive : Cond.instanceMethod yX1_setAlive ∈ tg := tg_i 455 (by decide +kernel)
theorem ks_X1_setAlive : Cond.selects RX1 yX1_setAlive yX1_setAlive ∈ tg := tg_i 456 (by decide +kernel)
theorem kc_X1_setAlive : Cond.code yX1_setAlive cX1_setAlive 3 none ∈ tg := tg_i 457 (by decide +kernel)
theorem km_X1_61 : Cond.methodLink RX1 61 yX1_has ∈ tg := tg_i 458 (by decide +kernel)
theorem ki_X1_has : Cond.instanceMethod yX1_has ∈ tg := tg_i 459 (by decide +kernel)
theorem ks_X1_has : Cond.selects RX1 yX1_has yX1_has ∈ tg := tg_i 460 (by decide +kernel)
theorem kc_X1_has : Cond.code yX1_has cX1_has 2 (some .boolean) ∈ tg := tg_i 461 (by decide +kernel)
theorem km_X0_100 : Cond.methodLink RX0 100 yX1_setSly ∈ tg := tg_i 462 (by decide +kernel)
theorem ki_X1_setSly : Cond.instanceMethod yX1_setSly ∈ tg := tg_i 463 (by decide +kernel)
theorem ks_X1_setSly : Cond.selects RX1 yX1_setSly yX1_setSly ∈ tg := tg_i 464 (by decide +kernel)
theorem kc_X1_setSly : Cond.code yX1_setSly cX1_setSly 2 none ∈ tg := tg_i 465 (by decide +kernel)
theorem km_X0_104 : Cond.methodLink RX0 104 yX1_putLink ∈ tg := tg_i 466 (by decide +kernel)
theorem ki_X1_putLink : Cond.instanceMethod yX1_putLink ∈ tg := tg_i 467 (by decide +kernel)
theorem ks_X1_putLink : Cond.selects RX1 yX1_putLink yX1_putLink ∈ tg := tg_i 468 (by decide +kernel)
theorem kc_X1_putLink : Cond.code yX1_putLink cX1_putLink 5 none ∈ tg := tg_i 469 (by decide +kernel)
theorem km_X1_65 : Cond.methodLink RX1 65 yX1_hasTwo ∈ tg := tg_i 470 (by decide +kernel)
theorem ki_X1_hasTwo : Cond.instanceMethod yX1_hasTwo ∈ tg := tg_i 471 (by decide +kernel)
theorem ks_X1_hasTwo : Cond.selects RX1 yX1_hasTwo yX1_hasTwo ∈ tg := tg_i 472 (by decide +kernel)
theorem kc_X1_hasTwo : Cond.code yX1_hasTwo cX1_hasTwo 3 (some .boolean) ∈ tg := tg_i 473 (by decide +kernel)
theorem km_X1_69 : Cond.methodLink RX1 69 yX7_holds ∈ tg := tg_i 474 (by decide +kernel)
theorem ki_X7_holds : Cond.instanceMethod yX7_holds ∈ tg := tg_i 475 (by decide +kernel)
theorem ks_X7_holds : Cond.selects RX7 yX7_holds yX7_holds ∈ tg := tg_i 476 (by decide +kernel)
theorem kc_X7_holds : Cond.code yX7_holds cX7_holds 2 (some .boolean) ∈ tg := tg_i 477 (by decide +kernel)
theorem km_X7_22 : Cond.methodLink RX7 22 yX7_placeOf ∈ tg := tg_i 478 (by decide +kernel)
theorem ki_X7_placeOf : Cond.instanceMethod yX7_placeOf ∈ tg := tg_i 479 (by decide +kernel)
theorem ks_X7_placeOf : Cond.selects RX7 yX7_placeOf yX7_placeOf ∈ tg := tg_i 480 (by decide +kernel)
theorem kc_X7_placeOf : Cond.code yX7_placeOf cX7_placeOf 3 (some .int) ∈ tg := tg_i 481 (by decide +kernel)
theorem km_X1_72 : Cond.methodLink RX1 72 yX7_placeOf ∈ tg := tg_i 482 (by decide +kernel)
theorem km_X1_76 : Cond.methodLink RX1 76 yX7_replace ∈ tg := tg_i 483 (by decide +kernel)
theorem ki_X7_replace : Cond.instanceMethod yX7_replace ∈ tg := tg_i 484 (by decide +kernel)
theorem ks_X7_replace : Cond.selects RX7 yX7_replace yX7_replace ∈ tg := tg_i 485 (by decide +kernel)
theorem kc_X7_replace : Cond.code yX7_replace cX7_replace 4 none ∈ tg := tg_i 486 (by decide +kernel)
theorem km_X0_108 : Cond.methodLink RX0 108 yX1_cutLink ∈ tg := tg_i 487 (by decide +kernel)
theorem ki_X1_cutLink : Cond.instanceMethod yX1_cutLink ∈ tg := tg_i 488 (by decide +kernel)
theorem ks_X1_cutLink : Cond.selects RX1 yX1_cutLink yX1_cutLink ∈ tg := tg_i 489 (by decide +kernel)
theorem kc_X1_cutLink : Cond.code yX1_cutLink cX1_cutLink 3 none ∈ tg := tg_i 490 (by decide +kernel)
theorem km_X1_83 : Cond.methodLink RX1 83 yX7_strike ∈ tg := tg_i 491 (by decide +kernel)
theorem ki_X7_strike : Cond.instanceMethod yX7_strike ∈ tg := tg_i 492 (by decide +kernel)
theorem ks_X7_strike : Cond.selects RX7 yX7_strike yX7_strike ∈ tg := tg_i 493 (by decide +kernel)
theorem kc_X7_strike : Cond.code yX7_strike cX7_strike 3 none ∈ tg := tg_i 494 (by decide +kernel)
theorem km_X8_84 : Cond.methodLink RX8 84 yX2_clear ∈ tg := tg_i 495 (by decide +kernel)
theorem ki_X2_clear : Cond.instanceMethod yX2_clear ∈ tg := tg_i 496 (by decide +kernel)
theorem ks_X2_clear : Cond.selects RX2 yX2_clear yX2_clear ∈ tg := tg_i 497 (by decide +kernel)
theorem kc_X2_clear : Cond.code yX2_clear cX2_clear 1 none ∈ tg := tg_i 498 (by decide +kernel)
theorem km_X8_85 : Cond.methodLink RX8 85 yX3_lose ∈ tg := tg_i 499 (by decide +kernel)
theorem ki_X3_lose : Cond.instanceMethod yX3_lose ∈ tg := tg_i 500 (by decide +kernel)
theorem ks_X3_lose : Cond.selects RX3 yX3_lose yX3_lose ∈ tg := tg_i 501 (by decide +kernel)
theorem kc_X3_lose : Cond.code yX3_lose cX3_lose 1 none ∈ tg := tg_i 502 (by decide +kernel)
theorem km_L_31 : Cond.methodLink RL 31 yX8_node ∈ tg := tg_i 503 (by decide +kernel)
theorem ki_X8_node : Cond.instanceMethod yX8_node ∈ tg := tg_i 504 (by decide +kernel)
theorem ks_X8_node : Cond.selects RX8 yX8_node yX8_node ∈ tg := tg_i 505 (by decide +kernel)
theorem kc_X8_node : Cond.code yX8_node cX8_node 3 (some .int) ∈ tg := tg_i 506 (by decide +kernel)
theorem km_X8_91 : Cond.methodLink RX8 91 yX1_has ∈ tg := tg_i 507 (by decide +kernel)
theorem km_X8_95 : Cond.methodLink RX8 95 yX1_isAlive ∈ tg := tg_i 508 (by decide +kernel)
theorem ki_X1_isAlive : Cond.instanceMethod yX1_isAlive ∈ tg := tg_i 509 (by decide +kernel)
theorem ks_X1_isAlive : Cond.selects RX1 yX1_isAlive yX1_isAlive ∈ tg := tg_i 510 (by decide +kernel)
theorem kc_X1_isAlive : Cond.code yX1_isAlive cX1_isAlive 2 (some .boolean) ∈ tg := tg_i 511 (by decide +kernel)
theorem km_X8_98 : Cond.methodLink RX8 98 yX1_isSly ∈ tg := tg_i 512 (by decide +kernel)
theorem ki_X1_isSly : Cond.instanceMethod yX1_isSly ∈ tg := tg_i 513 (by decide +kernel)
theorem ks_X1_isSly : Cond.selects RX1 yX1_isSly yX1_isSly ∈ tg := tg_i 514 (by decide +kernel)
theorem kc_X1_isSly : Cond.code yX1_isSly cX1_isSly 2 (some .boolean) ∈ tg := tg_i 515 (by decide +kernel)
theorem km_X8_108 : Cond.methodLink RX8 108 yX1_known ∈ tg := tg_i 516 (by decide +kernel)
theorem ki_X1_known : Cond.instanceMethod yX1_known ∈ tg := tg_i 517 (by decide +kernel)
theorem ks_X1_known : Cond.selects RX1 yX1_known yX1_known ∈ tg := tg_i 518 (by decide +kernel)
theorem kc_X1_known : Cond.code yX1_known cX1_known 4 (some .int) ∈ tg := tg_i 519 (by decide +kernel)
theorem km_X1_88 : Cond.methodLink RX1 88 yX1_isAlive ∈ tg := tg_i 520 (by decide +kernel)
theorem km_X8_112 : Cond.methodLink RX8 112 yX7_bits ∈ tg := tg_i 521 (by decide +kernel)
theorem ki_X7_bits : Cond.instanceMethod yX7_bits ∈ tg := tg_i 522 (by decide +kernel)
theorem ks_X7_bits : Cond.selects RX7 yX7_bits yX7_bits ∈ tg := tg_i 523 (by decide +kernel)
theorem kc_X7_bits : Cond.code yX7_bits cX7_bits 3 (some .int) ∈ tg := tg_i 524 (by decide +kernel)
theorem km_L_36 : Cond.methodLink RL 36 yX8_entry ∈ tg := tg_i 525 (by decide +kernel)
theorem ki_X8_entry : Cond.instanceMethod yX8_entry ∈ tg := tg_i 526 (by decide +kernel)
theorem ks_X8_entry : Cond.selects RX8 yX8_entry yX8_entry ∈ tg := tg_i 527 (by decide +kernel)
theorem kc_X8_entry : Cond.code yX8_entry cX8_entry 5 (some .int) ∈ tg := tg_i 528 (by decide +kernel)
theorem km_L_41 : Cond.methodLink RL 41 yX8_round ∈ tg := tg_i 529 (by decide +kernel)
theorem ki_X8_round : Cond.instanceMethod yX8_round ∈ tg := tg_i 530 (by decide +kernel)
theorem ks_X8_round : Cond.selects RX8 yX8_round yX8_round ∈ tg := tg_i 531 (by decide +kernel)
theorem kc_X8_round : Cond.code yX8_round cX8_round 2 (some .int) ∈ tg := tg_i 532 (by decide +kernel)
theorem km_X8_122 : Cond.methodLink RX8 122 yX2_push ∈ tg := tg_i 533 (by decide +kernel)
theorem ki_X2_push : Cond.instanceMethod yX2_push ∈ tg := tg_i 534 (by decide +kernel)
theorem ks_X2_push : Cond.selects RX2 yX2_push yX2_push ∈ tg := tg_i 535 (by decide +kernel)
theorem kc_X2_push : Cond.code yX2_push cX2_push 2 none ∈ tg := tg_i 536 (by decide +kernel)
theorem km_X2_25 : Cond.methodLink RX2 25 yX1_copyFrom ∈ tg := tg_i 537 (by decide +kernel)
theorem ki_X1_copyFrom : Cond.instanceMethod yX1_copyFrom ∈ tg := tg_i 538 (by decide +kernel)
theorem ks_X1_copyFrom : Cond.selects RX1 yX1_copyFrom yX1_copyFrom ∈ tg := tg_i 539 (by decide +kernel)
theorem kc_X1_copyFrom : Cond.code yX1_copyFrom cX1_copyFrom 3 none ∈ tg := tg_i 540 (by decide +kernel)
theorem km_X1_57 : Cond.methodLink RX1 57 yX7_copyFrom ∈ tg := tg_i 541 (by decide +kernel)
theorem ki_X7_copyFrom : Cond.instanceMethod yX7_copyFrom ∈ tg := tg_i 542 (by decide +kernel)
theorem ks_X7_copyFrom : Cond.selects RX7 yX7_copyFrom yX7_copyFrom ∈ tg := tg_i 543 (by decide +kernel)
theorem kc_X7_copyFrom : Cond.code yX7_copyFrom cX7_copyFrom 3 none ∈ tg := tg_i 544 (by decide +kernel)
theorem km_X2_29 : Cond.methodLink RX2 29 yJ9_min_7cf53 ∈ tg := tg_i 545 (by decide +kernel)
theorem km_X8_125 : Cond.methodLink RX8 125 yX5_roundOf ∈ tg := tg_i 546 (by decide +kernel)
theorem ki_X5_roundOf : Cond.instanceMethod yX5_roundOf ∈ tg := tg_i 547 (by decide +kernel)
theorem ks_X5_roundOf : Cond.selects RX5 yX5_roundOf yX5_roundOf ∈ tg := tg_i 548 (by decide +kernel)
theorem kc_X5_roundOf : Cond.code yX5_roundOf cX5_roundOf 6 (some .int) ∈ tg := tg_i 549 (by decide +kernel)
theorem km_X5_21 : Cond.methodLink RX5 21 yX1_has ∈ tg := tg_i 550 (by decide +kernel)
theorem km_X5_31 : Cond.methodLink RX5 31 yX7_growOlder ∈ tg := tg_i 551 (by decide +kernel)
theorem ki_X7_growOlder : Cond.instanceMethod yX7_growOlder ∈ tg := tg_i 552 (by decide +kernel)
theorem ks_X7_growOlder : Cond.selects RX7 yX7_growOlder yX7_growOlder ∈ tg := tg_i 553 (by decide +kernel)
theorem kc_X7_growOlder : Cond.code yX7_growOlder cX7_growOlder 2 none ∈ tg := tg_i 554 (by decide +kernel)
theorem km_X7_26 : Cond.methodLink RX7 26 yJ9_min_7cf53 ∈ tg := tg_i 555 (by decide +kernel)
theorem km_X5_36 : Cond.methodLink RX5 36 yX7_placeOfOldest ∈ tg := tg_i 556 (by decide +kernel)
theorem ki_X7_placeOfOldest : Cond.instanceMethod yX7_placeOfOldest ∈ tg := tg_i 557 (by decide +kernel)
theorem ks_X7_placeOfOldest : Cond.selects RX7 yX7_placeOfOldest yX7_placeOfOldest ∈ tg := tg_i 558 (by decide +kernel)
theorem kc_X7_placeOfOldest : Cond.code yX7_placeOfOldest cX7_placeOfOldest 3 (some .int) ∈ tg := tg_i 559 (by decide +kernel)
theorem km_X7_32 : Cond.methodLink RX7 32 yX7_isAskedBefore ∈ tg := tg_i 560 (by decide +kernel)
theorem ki_X7_isAskedBefore : Cond.instanceMethod yX7_isAskedBefore ∈ tg := tg_i 562 (by decide +kernel)
theorem kc_X7_isAskedBefore : Cond.code yX7_isAskedBefore cX7_isAskedBefore 3 (some .boolean) ∈ tg := tg_i 563 (by decide +kernel)
theorem km_X5_48 : Cond.methodLink RX5 48 yX7_strike ∈ tg := tg_i 564 (by decide +kernel)
theorem km_X5_52 : Cond.methodLink RX5 52 yX1_isAlive ∈ tg := tg_i 565 (by decide +kernel)
theorem km_X5_55 : Cond.methodLink RX5 55 yX5_swap ∈ tg := tg_i 566 (by decide +kernel)
theorem ki_X5_swap : Cond.instanceMethod yX5_swap ∈ tg := tg_i 568 (by decide +kernel)
theorem kc_X5_swap : Cond.code yX5_swap cX5_swap 4 none ∈ tg := tg_i 569 (by decide +kernel)
theorem km_X5_63 : Cond.methodLink RX5 63 yX1_hasTwo ∈ tg := tg_i 570 (by decide +kernel)
theorem km_X5_67 : Cond.methodLink RX5 67 yX4_clear ∈ tg := tg_i 571 (by decide +kernel)
theorem ki_X4_clear : Cond.instanceMethod yX4_clear ∈ tg := tg_i 572 (by decide +kernel)
theorem ks_X4_clear : Cond.selects RX4 yX4_clear yX4_clear ∈ tg := tg_i 573 (by decide +kernel)
theorem kc_X4_clear : Cond.code yX4_clear cX4_clear 1 none ∈ tg := tg_i 574 (by decide +kernel)
theorem km_X5_70 : Cond.methodLink RX5 70 yX4_putItself ∈ tg := tg_i 575 (by decide +kernel)
theorem ki_X4_putItself : Cond.instanceMethod yX4_putItself ∈ tg := tg_i 576 (by decide +kernel)
theorem ks_X4_putItself : Cond.selects RX4 yX4_putItself yX4_putItself ∈ tg := tg_i 577 (by decide +kernel)
theorem kc_X4_putItself : Cond.code yX4_putItself cX4_putItself 2 none ∈ tg := tg_i 578 (by decide +kernel)
theorem km_X4_25 : Cond.methodLink RX4 25 yX4_put ∈ tg := tg_i 579 (by decide +kernel)
theorem ki_X4_put : Cond.instanceMethod yX4_put ∈ tg := tg_i 580 (by decide +kernel)
theorem ks_X4_put : Cond.selects RX4 yX4_put yX4_put ∈ tg := tg_i 581 (by decide +kernel)
theorem kc_X4_put : Cond.code yX4_put cX4_put 4 none ∈ tg := tg_i 582 (by decide +kernel)
theorem km_X5_73 : Cond.methodLink RX5 73 yX1_isSly ∈ tg := tg_i 583 (by decide +kernel)
theorem km_X5_76 : Cond.methodLink RX5 76 yX4_putDrawn ∈ tg := tg_i 584 (by decide +kernel)
theorem ki_X4_putDrawn : Cond.instanceMethod yX4_putDrawn ∈ tg := tg_i 585 (by decide +kernel)
theorem ks_X4_putDrawn : Cond.selects RX4 yX4_putDrawn yX4_putDrawn ∈ tg := tg_i 586 (by decide +kernel)
theorem kc_X4_putDrawn : Cond.code yX4_putDrawn cX4_putDrawn 6 none ∈ tg := tg_i 587 (by decide +kernel)
theorem km_X4_37 : Cond.methodLink RX4 37 yX1_draw ∈ tg := tg_i 588 (by decide +kernel)
theorem ki_X1_draw : Cond.instanceMethod yX1_draw ∈ tg := tg_i 589 (by decide +kernel)
theorem ks_X1_draw : Cond.selects RX1 yX1_draw yX1_draw ∈ tg := tg_i 590 (by decide +kernel)
theorem kc_X1_draw : Cond.code yX1_draw cX1_draw 2 (some .int) ∈ tg := tg_i 591 (by decide +kernel)
theorem kk_X1_87 : Cond.constant RX1 87 (65537) ∈ tg := tg_i 592 (by decide +kernel)
theorem km_X4_41 : Cond.methodLink RX4 41 yX4_unsentPlace ∈ tg := tg_i 593 (by decide +kernel)
theorem kt_X4_unsentPlace : Cond.static yX4_unsentPlace ∈ tg := tg_i 594 (by decide +kernel)
theorem kc_X4_unsentPlace : Cond.code yX4_unsentPlace cX4_unsentPlace 5 (some .int) ∈ tg := tg_i 595 (by decide +kernel)
theorem km_X5_80 : Cond.methodLink RX5 80 yX5_takeAll ∈ tg := tg_i 596 (by decide +kernel)
theorem kt_X5_takeAll : Cond.static yX5_takeAll ∈ tg := tg_i 597 (by decide +kernel)
theorem kc_X5_takeAll : Cond.code yX5_takeAll cX5_takeAll 7 none ∈ tg := tg_i 598 (by decide +kernel)
theorem km_X5_86 : Cond.methodLink RX5 86 yX7_holds ∈ tg := tg_i 599 (by decide +kernel)
theorem km_X5_95 : Cond.methodLink RX5 95 yX7_append ∈ tg := tg_i 600 (by decide +kernel)
theorem km_X5_99 : Cond.methodLink RX5 99 yX4_giveUpPlace ∈ tg := tg_i 601 (by decide +kernel)
theorem ki_X4_giveUpPlace : Cond.instanceMethod yX4_giveUpPlace ∈ tg := tg_i 602 (by decide +kernel)
theorem ks_X4_giveUpPlace : Cond.selects RX4 yX4_giveUpPlace yX4_giveUpPlace ∈ tg := tg_i 603 (by decide +kernel)
theorem kc_X4_giveUpPlace : Cond.code yX4_giveUpPlace cX4_giveUpPlace 3 (some .int) ∈ tg := tg_i 604 (by decide +kernel)
theorem km_X5_102 : Cond.methodLink RX5 102 yX7_replace ∈ tg := tg_i 605 (by decide +kernel)
theorem km_L_45 : Cond.methodLink RL 45 yX8_cycle ∈ tg := tg_i 606 (by decide +kernel)
theorem ki_X8_cycle : Cond.instanceMethod yX8_cycle ∈ tg := tg_i 607 (by decide +kernel)
theorem ks_X8_cycle : Cond.selects RX8 yX8_cycle yX8_cycle ∈ tg := tg_i 608 (by decide +kernel)
theorem kc_X8_cycle : Cond.code yX8_cycle cX8_cycle 2 (some .int) ∈ tg := tg_i 609 (by decide +kernel)
theorem km_X8_129 : Cond.methodLink RX8 129 yX5_cyclesOf ∈ tg := tg_i 610 (by decide +kernel)
theorem ki_X5_cyclesOf : Cond.instanceMethod yX5_cyclesOf ∈ tg := tg_i 611 (by decide +kernel)
theorem ks_X5_cyclesOf : Cond.selects RX5 yX5_cyclesOf yX5_cyclesOf ∈ tg := tg_i 612 (by decide +kernel)
theorem kc_X5_cyclesOf : Cond.code yX5_cyclesOf cX5_cyclesOf 5 none ∈ tg := tg_i 613 (by decide +kernel)
theorem km_X5_59 : Cond.methodLink RX5 59 yX5_roundOf ∈ tg := tg_i 614 (by decide +kernel)
theorem km_X8_133 : Cond.methodLink RX8 133 yX1_entries ∈ tg := tg_i 615 (by decide +kernel)
theorem ki_X1_entries : Cond.instanceMethod yX1_entries ∈ tg := tg_i 616 (by decide +kernel)
theorem ks_X1_entries : Cond.selects RX1 yX1_entries yX1_entries ∈ tg := tg_i 617 (by decide +kernel)
theorem kc_X1_entries : Cond.code yX1_entries cX1_entries 3 (some .int) ∈ tg := tg_i 618 (by decide +kernel)
theorem km_L_49 : Cond.methodLink RL 49 yX8_die ∈ tg := tg_i 619 (by decide +kernel)
theorem ki_X8_die : Cond.instanceMethod yX8_die ∈ tg := tg_i 620 (by decide +kernel)
theorem ks_X8_die : Cond.selects RX8 yX8_die yX8_die ∈ tg := tg_i 621 (by decide +kernel)
theorem kc_X8_die : Cond.code yX8_die cX8_die 4 (some .int) ∈ tg := tg_i 622 (by decide +kernel)
theorem km_X8_136 : Cond.methodLink RX8 136 yX1_setAlive ∈ tg := tg_i 623 (by decide +kernel)
theorem km_X8_143 : Cond.methodLink RX8 143 yJ6_bitCount_0f7a4 ∈ tg := tg_i 624 (by decide +kernel)
theorem kt_J6_bitCount_0f7a4 : Cond.static yJ6_bitCount_0f7a4 ∈ tg := tg_i 625 (by decide +kernel)
theorem kc_J6_bitCount_0f7a4 : Cond.code yJ6_bitCount_0f7a4 cJ6_bitCount_0f7a4 1 (some .int) ∈ tg := tg_i 626 (by decide +kernel)
theorem kk_J6_265 : Cond.constant RJ6 265 (1431655765) ∈ tg := tg_i 627 (by decide +kernel)
theorem kk_J6_266 : Cond.constant RJ6 266 (858993459) ∈ tg := tg_i 628 (by decide +kernel)
theorem kk_J6_267 : Cond.constant RJ6 267 (252645135) ∈ tg := tg_i 629 (by decide +kernel)
theorem km_L_53 : Cond.methodLink RL 53 yX8_link ∈ tg := tg_i 630 (by decide +kernel)
theorem ki_X8_link : Cond.instanceMethod yX8_link ∈ tg := tg_i 631 (by decide +kernel)
theorem ks_X8_link : Cond.selects RX8 yX8_link yX8_link ∈ tg := tg_i 632 (by decide +kernel)
theorem kc_X8_link : Cond.code yX8_link cX8_link 4 (some .int) ∈ tg := tg_i 633 (by decide +kernel)
theorem km_X8_148 : Cond.methodLink RX8 148 yX1_hasTwo ∈ tg := tg_i 634 (by decide +kernel)
theorem km_X8_152 : Cond.methodLink RX8 152 yX7_holds ∈ tg := tg_i 635 (by decide +kernel)
theorem km_X8_158 : Cond.methodLink RX8 158 yX7_append ∈ tg := tg_i 636 (by decide +kernel)
theorem km_L_57 : Cond.methodLink RL 57 yX8_undo ∈ tg := tg_i 637 (by decide +kernel)
theorem ki_X8_undo : Cond.instanceMethod yX8_undo ∈ tg := tg_i 638 (by decide +kernel)
theorem ks_X8_undo : Cond.selects RX8 yX8_undo yX8_undo ∈ tg := tg_i 639 (by decide +kernel)
theorem kc_X8_undo : Cond.code yX8_undo cX8_undo 1 (some .int) ∈ tg := tg_i 640 (by decide +kernel)
theorem km_X8_162 : Cond.methodLink RX8 162 yX2_pop ∈ tg := tg_i 641 (by decide +kernel)
theorem ki_X2_pop : Cond.instanceMethod yX2_pop ∈ tg := tg_i 642 (by decide +kernel)
theorem ks_X2_pop : Cond.selects RX2 yX2_pop yX2_pop ∈ tg := tg_i 643 (by decide +kernel)
theorem kc_X2_pop : Cond.code yX2_pop cX2_pop 2 none ∈ tg := tg_i 644 (by decide +kernel)
theorem km_X2_35 : Cond.methodLink RX2 35 yJ9_floorMod_7cf53 ∈ tg := tg_i 645 (by decide +kernel)
theorem kt_J9_floorMod_7cf53 : Cond.static yJ9_floorMod_7cf53 ∈ tg := tg_i 646 (by decide +kernel)
theorem kc_J9_floorMod_7cf53 : Cond.code yJ9_floorMod_7cf53 cJ9_floorMod_7cf53 3 (some .int) ∈ tg := tg_i 647 (by decide +kernel)
theorem km_L_61 : Cond.methodLink RL 61 yX8_keep ∈ tg := tg_i 648 (by decide +kernel)
theorem ki_X8_keep : Cond.instanceMethod yX8_keep ∈ tg := tg_i 649 (by decide +kernel)
theorem ks_X8_keep : Cond.selects RX8 yX8_keep yX8_keep ∈ tg := tg_i 650 (by decide +kernel)
theorem kc_X8_keep : Cond.code yX8_keep cX8_keep 2 (some .int) ∈ tg := tg_i 651 (by decide +kernel)
theorem km_X8_165 : Cond.methodLink RX8 165 yX1_copyFrom ∈ tg := tg_i 652 (by decide +kernel)
theorem km_L_65 : Cond.methodLink RL 65 yX8_back ∈ tg := tg_i 653 (by decide +kernel)
theorem ki_X8_back : Cond.instanceMethod yX8_back ∈ tg := tg_i 654 (by decide +kernel)
theorem ks_X8_back : Cond.selects RX8 yX8_back yX8_back ∈ tg := tg_i 655 (by decide +kernel)
theorem kc_X8_back : Cond.code yX8_back cX8_back 2 (some .int) ∈ tg := tg_i 656 (by decide +kernel)
theorem km_L_69 : Cond.methodLink RL 69 yX8_forgotten ∈ tg := tg_i 657 (by decide +kernel)
theorem ki_X8_forgotten : Cond.instanceMethod yX8_forgotten ∈ tg := tg_i 658 (by decide +kernel)
theorem ks_X8_forgotten : Cond.selects RX8 yX8_forgotten yX8_forgotten ∈ tg := tg_i 659 (by decide +kernel)
theorem kc_X8_forgotten : Cond.code yX8_forgotten cX8_forgotten 3 (some .int) ∈ tg := tg_i 660 (by decide +kernel)
theorem km_L_73 : Cond.methodLink RL 73 yX8_next ∈ tg := tg_i 661 (by decide +kernel)
theorem ki_X8_next : Cond.instanceMethod yX8_next ∈ tg := tg_i 662 (by decide +kernel)
theorem ks_X8_next : Cond.selects RX8 yX8_next yX8_next ∈ tg := tg_i 663 (by decide +kernel)
theorem kc_X8_next : Cond.code yX8_next cX8_next 2 (some .int) ∈ tg := tg_i 664 (by decide +kernel)
theorem km_L_77 : Cond.methodLink RL 77 yX8_spread ∈ tg := tg_i 665 (by decide +kernel)
theorem ki_X8_spread : Cond.instanceMethod yX8_spread ∈ tg := tg_i 666 (by decide +kernel)
theorem ks_X8_spread : Cond.selects RX8 yX8_spread yX8_spread ∈ tg := tg_i 667 (by decide +kernel)
theorem kc_X8_spread : Cond.code yX8_spread cX8_spread 2 (some .int) ∈ tg := tg_i 668 (by decide +kernel)
theorem km_X8_168 : Cond.methodLink RX8 168 yX1_mostKnown ∈ tg := tg_i 669 (by decide +kernel)
theorem ki_X1_mostKnown : Cond.instanceMethod yX1_mostKnown ∈ tg := tg_i 670 (by decide +kernel)
theorem ks_X1_mostKnown : Cond.selects RX1 yX1_mostKnown yX1_mostKnown ∈ tg := tg_i 671 (by decide +kernel)
theorem kc_X1_mostKnown : Cond.code yX1_mostKnown cX1_mostKnown 3 (some .int) ∈ tg := tg_i 672 (by decide +kernel)
theorem km_X1_91 : Cond.methodLink RX1 91 yX1_known ∈ tg := tg_i 673 (by decide +kernel)
theorem km_X8_171 : Cond.methodLink RX8 171 yX1_leastKnown ∈ tg := tg_i 674 (by decide +kernel)
theorem ki_X1_leastKnown : Cond.instanceMethod yX1_leastKnown ∈ tg := tg_i 675 (by decide +kernel)
theorem ks_X1_leastKnown : Cond.selects RX1 yX1_leastKnown yX1_leastKnown ∈ tg := tg_i 676 (by decide +kernel)
theorem kc_X1_leastKnown : Cond.code yX1_leastKnown cX1_leastKnown 3 (some .int) ∈ tg := tg_i 677 (by decide +kernel)
theorem km_L_81 : Cond.methodLink RL 81 yX8_far ∈ tg := tg_i 678 (by decide +kernel)
theorem ki_X8_far : Cond.instanceMethod yX8_far ∈ tg := tg_i 679 (by decide +kernel)
theorem ks_X8_far : Cond.selects RX8 yX8_far yX8_far ∈ tg := tg_i 680 (by decide +kernel)
theorem kc_X8_far : Cond.code yX8_far cX8_far 3 (some .int) ∈ tg := tg_i 681 (by decide +kernel)
theorem km_X8_174 : Cond.methodLink RX8 174 yX1_fewestWays ∈ tg := tg_i 682 (by decide +kernel)
theorem ki_X1_fewestWays : Cond.instanceMethod yX1_fewestWays ∈ tg := tg_i 683 (by decide +kernel)
theorem ks_X1_fewestWays : Cond.selects RX1 yX1_fewestWays yX1_fewestWays ∈ tg := tg_i 684 (by decide +kernel)
theorem kc_X1_fewestWays : Cond.code yX1_fewestWays cX1_fewestWays 5 (some .int) ∈ tg := tg_i 685 (by decide +kernel)
theorem km_X1_94 : Cond.methodLink RX1 94 yX1_waysOut ∈ tg := tg_i 686 (by decide +kernel)
theorem ki_X1_waysOut : Cond.instanceMethod yX1_waysOut ∈ tg := tg_i 688 (by decide +kernel)
theorem kc_X1_waysOut : Cond.code yX1_waysOut cX1_waysOut 4 (some .int) ∈ tg := tg_i 689 (by decide +kernel)
theorem km_X1_103 : Cond.methodLink RX1 103 yX7_bits ∈ tg := tg_i 690 (by decide +kernel)
theorem km_L_85 : Cond.methodLink RL 85 yX8_ring ∈ tg := tg_i 691 (by decide +kernel)
theorem ki_X8_ring : Cond.instanceMethod yX8_ring ∈ tg := tg_i 692 (by decide +kernel)
theorem ks_X8_ring : Cond.selects RX8 yX8_ring yX8_ring ∈ tg := tg_i 693 (by decide +kernel)
theorem kc_X8_ring : Cond.code yX8_ring cX8_ring 2 (some .int) ∈ tg := tg_i 694 (by decide +kernel)
theorem km_X8_178 : Cond.methodLink RX8 178 yX8_isRing ∈ tg := tg_i 695 (by decide +kernel)
theorem kt_X8_isRing : Cond.static yX8_isRing ∈ tg := tg_i 696 (by decide +kernel)
theorem kc_X8_isRing : Cond.code yX8_isRing cX8_isRing 1 (some .boolean) ∈ tg := tg_i 697 (by decide +kernel)
theorem km_X8_181 : Cond.methodLink RX8 181 yX3_renew ∈ tg := tg_i 698 (by decide +kernel)
theorem ki_X3_renew : Cond.instanceMethod yX3_renew ∈ tg := tg_i 699 (by decide +kernel)
theorem ks_X3_renew : Cond.selects RX3 yX3_renew yX3_renew ∈ tg := tg_i 700 (by decide +kernel)
theorem kc_X3_renew : Cond.code yX3_renew cX3_renew 1 none ∈ tg := tg_i 701 (by decide +kernel)
theorem km_L_89 : Cond.methodLink RL 89 yX8_add ∈ tg := tg_i 702 (by decide +kernel)
theorem ki_X8_add : Cond.instanceMethod yX8_add ∈ tg := tg_i 703 (by decide +kernel)
theorem ks_X8_add : Cond.selects RX8 yX8_add yX8_add ∈ tg := tg_i 704 (by decide +kernel)
theorem kc_X8_add : Cond.code yX8_add cX8_add 4 (some .int) ∈ tg := tg_i 705 (by decide +kernel)
theorem km_X8_189 : Cond.methodLink RX8 189 yX3_insert ∈ tg := tg_i 706 (by decide +kernel)
theorem ki_X3_insert : Cond.instanceMethod yX3_insert ∈ tg := tg_i 707 (by decide +kernel)
theorem ks_X3_insert : Cond.selects RX3 yX3_insert yX3_insert ∈ tg := tg_i 708 (by decide +kernel)
theorem kc_X3_insert : Cond.code yX3_insert cX3_insert 4 none ∈ tg := tg_i 709 (by decide +kernel)
theorem km_L_93 : Cond.methodLink RL 93 yX8_step ∈ tg := tg_i 710 (by decide +kernel)
theorem ki_X8_step : Cond.instanceMethod yX8_step ∈ tg := tg_i 711 (by decide +kernel)
theorem ks_X8_step : Cond.selects RX8 yX8_step yX8_step ∈ tg := tg_i 712 (by decide +kernel)
theorem kc_X8_step : Cond.code yX8_step cX8_step 4 (some .int) ∈ tg := tg_i 713 (by decide +kernel)
theorem km_X8_192 : Cond.methodLink RX8 192 yX3_lack ∈ tg := tg_i 714 (by decide +kernel)
theorem ki_X3_lack : Cond.instanceMethod yX3_lack ∈ tg := tg_i 715 (by decide +kernel)
theorem ks_X3_lack : Cond.selects RX3 yX3_lack yX3_lack ∈ tg := tg_i 716 (by decide +kernel)
theorem kc_X3_lack : Cond.code yX3_lack cX3_lack 1 (some .int) ∈ tg := tg_i 717 (by decide +kernel)
theorem km_X8_195 : Cond.methodLink RX8 195 yX3_moveHand ∈ tg := tg_i 718 (by decide +kernel)
theorem ki_X3_moveHand : Cond.instanceMethod yX3_moveHand ∈ tg := tg_i 719 (by decide +kernel)
theorem ks_X3_moveHand : Cond.selects RX3 yX3_moveHand yX3_moveHand ∈ tg := tg_i 720 (by decide +kernel)
theorem kc_X3_moveHand : Cond.code yX3_moveHand cX3_moveHand 2 none ∈ tg := tg_i 721 (by decide +kernel)
theorem km_X8_198 : Cond.methodLink RX8 198 yX3_atHand ∈ tg := tg_i 722 (by decide +kernel)
theorem ki_X3_atHand : Cond.instanceMethod yX3_atHand ∈ tg := tg_i 723 (by decide +kernel)
theorem ks_X3_atHand : Cond.selects RX3 yX3_atHand yX3_atHand ∈ tg := tg_i 724 (by decide +kernel)
theorem kc_X3_atHand : Cond.code yX3_atHand cX3_atHand 1 (some .int) ∈ tg := tg_i 725 (by decide +kernel)
theorem km_L_97 : Cond.methodLink RL 97 yX8_take ∈ tg := tg_i 726 (by decide +kernel)
theorem ki_X8_take : Cond.instanceMethod yX8_take ∈ tg := tg_i 727 (by decide +kernel)
theorem ks_X8_take : Cond.selects RX8 yX8_take yX8_take ∈ tg := tg_i 728 (by decide +kernel)
theorem kc_X8_take : Cond.code yX8_take cX8_take 4 (some .int) ∈ tg := tg_i 729 (by decide +kernel)
theorem km_X8_201 : Cond.methodLink RX8 201 yX3_removeAtHand ∈ tg := tg_i 730 (by decide +kernel)
theorem ki_X3_removeAtHand : Cond.instanceMethod yX3_removeAtHand ∈ tg := tg_i 731 (by decide +kernel)
theorem ks_X3_removeAtHand : Cond.selects RX3 yX3_removeAtHand yX3_removeAtHand ∈ tg := tg_i 732 (by decide +kernel)
theorem kc_X3_removeAtHand : Cond.code yX3_removeAtHand cX3_removeAtHand 2 none ∈ tg := tg_i 733 (by decide +kernel)
theorem km_L_101 : Cond.methodLink RL 101 yX8_count ∈ tg := tg_i 734 (by decide +kernel)
theorem ki_X8_count : Cond.instanceMethod yX8_count ∈ tg := tg_i 735 (by decide +kernel)
theorem ks_X8_count : Cond.selects RX8 yX8_count yX8_count ∈ tg := tg_i 736 (by decide +kernel)
theorem kc_X8_count : Cond.code yX8_count cX8_count 4 (some .int) ∈ tg := tg_i 737 (by decide +kernel)
theorem km_X8_204 : Cond.methodLink RX8 204 yX3_countOut ∈ tg := tg_i 738 (by decide +kernel)
theorem ki_X3_countOut : Cond.instanceMethod yX3_countOut ∈ tg := tg_i 739 (by decide +kernel)
theorem ks_X3_countOut : Cond.selects RX3 yX3_countOut yX3_countOut ∈ tg := tg_i 740 (by decide +kernel)
theorem kc_X3_countOut : Cond.code yX3_countOut cX3_countOut 3 none ∈ tg := tg_i 741 (by decide +kernel)
theorem km_X3_26 : Cond.methodLink RX3 26 yX3_moveHand ∈ tg := tg_i 742 (by decide +kernel)
theorem km_X3_30 : Cond.methodLink RX3 30 yX3_removeAtHand ∈ tg := tg_i 743 (by decide +kernel)
theorem km_L_105 : Cond.methodLink RL 105 yX8_sum ∈ tg := tg_i 744 (by decide +kernel)
theorem ki_X8_sum : Cond.instanceMethod yX8_sum ∈ tg := tg_i 745 (by decide +kernel)
theorem ks_X8_sum : Cond.selects RX8 yX8_sum yX8_sum ∈ tg := tg_i 746 (by decide +kernel)
theorem kc_X8_sum : Cond.code yX8_sum cX8_sum 3 (some .int) ∈ tg := tg_i 747 (by decide +kernel)
theorem km_X8_207 : Cond.methodLink RX8 207 yX3_total ∈ tg := tg_i 748 (by decide +kernel)
theorem ki_X3_total : Cond.instanceMethod yX3_total ∈ tg := tg_i 749 (by decide +kernel)
theorem ks_X3_total : Cond.selects RX3 yX3_total yX3_total ∈ tg := tg_i 750 (by decide +kernel)
theorem kc_X3_total : Cond.code yX3_total cX3_total 3 (some .int) ∈ tg := tg_i 751 (by decide +kernel)
theorem kk_X8_210 : Cond.constant RX8 210 (50000) ∈ tg := tg_i 752 (by decide +kernel)
theorem km_L_109 : Cond.methodLink RL 109 yX8_drop ∈ tg := tg_i 753 (by decide +kernel)
theorem ki_X8_drop : Cond.instanceMethod yX8_drop ∈ tg := tg_i 754 (by decide +kernel)
theorem ks_X8_drop : Cond.selects RX8 yX8_drop yX8_drop ∈ tg := tg_i 755 (by decide +kernel)
theorem kc_X8_drop : Cond.code yX8_drop cX8_drop 4 (some .int) ∈ tg := tg_i 756 (by decide +kernel)
theorem km_L_113 : Cond.methodLink RL 113 yX8_told ∈ tg := tg_i 757 (by decide +kernel)
theorem ki_X8_told : Cond.instanceMethod yX8_told ∈ tg := tg_i 758 (by decide +kernel)
theorem ks_X8_told : Cond.selects RX8 yX8_told yX8_told ∈ tg := tg_i 759 (by decide +kernel)
theorem kc_X8_told : Cond.code yX8_told cX8_told 2 (some .int) ∈ tg := tg_i 760 (by decide +kernel)
theorem km_X8_214 : Cond.methodLink RX8 214 yX1_parts ∈ tg := tg_i 761 (by decide +kernel)
theorem ki_X1_parts : Cond.instanceMethod yX1_parts ∈ tg := tg_i 762 (by decide +kernel)
theorem ks_X1_parts : Cond.selects RX1 yX1_parts yX1_parts ∈ tg := tg_i 763 (by decide +kernel)
theorem kc_X1_parts : Cond.code yX1_parts cX1_parts 4 (some .int) ∈ tg := tg_i 764 (by decide +kernel)
theorem km_X1_97 : Cond.methodLink RX1 97 yX1_partOf ∈ tg := tg_i 765 (by decide +kernel)
theorem ki_X1_partOf : Cond.instanceMethod yX1_partOf ∈ tg := tg_i 767 (by decide +kernel)
theorem kc_X1_partOf : Cond.code yX1_partOf cX1_partOf 4 (some .int) ∈ tg := tg_i 768 (by decide +kernel)
theorem km_X1_100 : Cond.methodLink RX1 100 yX1_waysInto ∈ tg := tg_i 769 (by decide +kernel)
theorem ki_X1_waysInto : Cond.instanceMethod yX1_waysInto ∈ tg := tg_i 771 (by decide +kernel)
theorem kc_X1_waysInto : Cond.code yX1_waysInto cX1_waysInto 4 (some .int) ∈ tg := tg_i 772 (by decide +kernel)
theorem km_X8_220 : Cond.methodLink RX8 220 yX8_ringNumbers ∈ tg := tg_i 773 (by decide +kernel)
theorem ki_X8_ringNumbers : Cond.instanceMethod yX8_ringNumbers ∈ tg := tg_i 775 (by decide +kernel)
theorem kc_X8_ringNumbers : Cond.code yX8_ringNumbers cX8_ringNumbers 3 (some .int) ∈ tg := tg_i 776 (by decide +kernel)
theorem km_L_12 : Cond.methodLink RL 12 yX9_init ∈ tg := tg_i 779 (by decide +kernel)
theorem ki_X9_init : Cond.instanceMethod yX9_init ∈ tg := tg_i 780 (by decide +kernel)
theorem kc_X9_init : Cond.code yX9_init cX9_init 1 none ∈ tg := tg_i 781 (by decide +kernel)
theorem km_X9_1 : Cond.methodLink RX9 1 ⟨"java/lang/Object", "<init>", "()V"⟩ ∈ tg := tg_i 782 (by decide +kernel)
theorem km_X9_44 : Cond.methodLink RX9 44 yX9_anew ∈ tg := tg_i 783 (by decide +kernel)
theorem ki_X9_anew : Cond.instanceMethod yX9_anew ∈ tg := tg_i 785 (by decide +kernel)
theorem kc_X9_anew : Cond.code yX9_anew cX9_anew 7 none ∈ tg := tg_i 786 (by decide +kernel)
theorem km_X9_61 : Cond.methodLink RX9 61 yX9_put ∈ tg := tg_i 787 (by decide +kernel)
theorem ki_X9_put : Cond.instanceMethod yX9_put ∈ tg := tg_i 789 (by decide +kernel)
theorem kc_X9_put : Cond.code yX9_put cX9_put 6 none ∈ tg := tg_i 790 (by decide +kernel)
theorem kf_X9_7 : Cond.fieldLink RX9 7 "ShuffledViewsModel" "row" "[I" ∈ tg := tg_i 791 (by decide +kernel)
theorem kf_X9_48 : Cond.fieldLink RX9 48 "ShuffledViewsModel" "nodes" "I" ∈ tg := tg_i 792 (by decide +kernel)
theorem kf_X9_52 : Cond.fieldLink RX9 52 "ShuffledViewsModel" "room" "I" ∈ tg := tg_i 793 (by decide +kernel)
theorem kf_X9_55 : Cond.fieldLink RX9 55 "ShuffledViewsModel" "slice" "I" ∈ tg := tg_i 794 (by decide +kernel)
theorem kf_X9_58 : Cond.fieldLink RX9 58 "ShuffledViewsModel" "sly" "I" ∈ tg := tg_i 795 (by decide +kernel)
theorem kf_X9_149 : Cond.fieldLink RX9 149 "ShuffledViewsModel" "undos" "I" ∈ tg := tg_i 796 (by decide +kernel)
theorem kf_X9_13 : Cond.fieldLink RX9 13 "ShuffledViewsModel" "isKept" "[Z" ∈ tg := tg_i 797 (by decide +kernel)
theorem kf_X9_17 : Cond.fieldLink RX9 17 "ShuffledViewsModel" "text" "[I" ∈ tg := tg_i 798 (by decide +kernel)
theorem kf_X9_70 : Cond.fieldLink RX9 70 "ShuffledViewsModel" "length" "I" ∈ tg := tg_i 799 (by decide +kernel)
theorem kf_X9_20 : Cond.fieldLink RX9 20 "ShuffledViewsModel" "sizes" "[I" ∈ tg := tg_i 800 (by decide +kernel)
theorem kf_X9_23 : Cond.fieldLink RX9 23 "ShuffledViewsModel" "values" "[I" ∈ tg := tg_i 801 (by decide +kernel)
theorem kf_X9_84 : Cond.fieldLink RX9 84 "ShuffledViewsModel" "first" "I" ∈ tg := tg_i 802 (by decide +kernel)
theorem kf_X9_81 : Cond.fieldLink RX9 81 "ShuffledViewsModel" "behind" "I" ∈ tg := tg_i 803 (by decide +kernel)
theorem kf_X9_97 : Cond.fieldLink RX9 97 "ShuffledViewsModel" "readNodes" "I" ∈ tg := tg_i 804 (by decide +kernel)
theorem kf_X9_138 : Cond.fieldLink RX9 138 "ShuffledViewsModel" "clauses" "I" ∈ tg := tg_i 805 (by decide +kernel)
theorem kf_X9_130 : Cond.fieldLink RX9 130 "ShuffledViewsModel" "doing" "Z" ∈ tg := tg_i 806 (by decide +kernel)
theorem kf_X9_26 : Cond.fieldLink RX9 26 "ShuffledViewsModel" "numbers" "[I" ∈ tg := tg_i 807 (by decide +kernel)
theorem kf_X9_29 : Cond.fieldLink RX9 29 "ShuffledViewsModel" "words" "[I" ∈ tg := tg_i 808 (by decide +kernel)
theorem kf_X9_32 : Cond.fieldLink RX9 32 "ShuffledViewsModel" "sentNode" "[I" ∈ tg := tg_i 809 (by decide +kernel)
theorem kf_X9_35 : Cond.fieldLink RX9 35 "ShuffledViewsModel" "sentAge" "[I" ∈ tg := tg_i 810 (by decide +kernel)
theorem kf_X9_38 : Cond.fieldLink RX9 38 "ShuffledViewsModel" "sentMany" "[I" ∈ tg := tg_i 811 (by decide +kernel)
theorem kf_X9_41 : Cond.fieldLink RX9 41 "ShuffledViewsModel" "isTaken" "[Z" ∈ tg := tg_i 812 (by decide +kernel)
theorem km_L_17 : Cond.methodLink RL 17 yX9_write ∈ tg := tg_i 858 (by decide +kernel)
theorem ki_X9_write : Cond.instanceMethod yX9_write ∈ tg := tg_i 859 (by decide +kernel)
theorem ks_X9_write : Cond.selects RX9 yX9_write yX9_write ∈ tg := tg_i 860 (by decide +kernel)
theorem kc_X9_write : Cond.code yX9_write cX9_write 2 (some .int) ∈ tg := tg_i 861 (by decide +kernel)
theorem kk_X9_64 : Cond.constantLong RX9 64 (255) ∈ tg := tg_i 862 (by decide +kernel)
theorem km_X9_66 : Cond.methodLink RX9 66 yX9_in ∈ tg := tg_i 863 (by decide +kernel)
theorem kt_X9_in : Cond.static yX9_in ∈ tg := tg_i 864 (by decide +kernel)
theorem kc_X9_in : Cond.code yX9_in cX9_in 6 (some .boolean) ∈ tg := tg_i 865 (by decide +kernel)
theorem km_L_22 : Cond.methodLink RL 22 yX9_erase ∈ tg := tg_i 866 (by decide +kernel)
theorem ki_X9_erase : Cond.instanceMethod yX9_erase ∈ tg := tg_i 867 (by decide +kernel)
theorem ks_X9_erase : Cond.selects RX9 yX9_erase yX9_erase ∈ tg := tg_i 868 (by decide +kernel)
theorem kc_X9_erase : Cond.code yX9_erase cX9_erase 2 (some .int) ∈ tg := tg_i 869 (by decide +kernel)
theorem km_L_26 : Cond.methodLink RL 26 yX9_fault ∈ tg := tg_i 870 (by decide +kernel)
theorem ki_X9_fault : Cond.instanceMethod yX9_fault ∈ tg := tg_i 871 (by decide +kernel)
theorem ks_X9_fault : Cond.selects RX9 yX9_fault yX9_fault ∈ tg := tg_i 872 (by decide +kernel)
theorem kc_X9_fault : Cond.code yX9_fault cX9_fault 1 (some .int) ∈ tg := tg_i 873 (by decide +kernel)
theorem km_X9_145 : Cond.methodLink RX9 145 yX9_reads ∈ tg := tg_i 874 (by decide +kernel)
theorem ki_X9_reads : Cond.instanceMethod yX9_reads ∈ tg := tg_i 876 (by decide +kernel)
theorem kc_X9_reads : Cond.code yX9_reads cX9_reads 3 (some .boolean) ∈ tg := tg_i 877 (by decide +kernel)
theorem km_X9_94 : Cond.methodLink RX9 94 yX9_nextToken ∈ tg := tg_i 878 (by decide +kernel)
theorem ki_X9_nextToken : Cond.instanceMethod yX9_nextToken ∈ tg := tg_i 880 (by decide +kernel)
theorem kc_X9_nextToken : Cond.code yX9_nextToken cX9_nextToken 1 none ∈ tg := tg_i 881 (by decide +kernel)
theorem km_X9_87 : Cond.methodLink RX9 87 yX9_isSmall ∈ tg := tg_i 882 (by decide +kernel)
theorem kt_X9_isSmall : Cond.static yX9_isSmall ∈ tg := tg_i 883 (by decide +kernel)
theorem kc_X9_isSmall : Cond.code yX9_isSmall cX9_isSmall 1 (some .boolean) ∈ tg := tg_i 884 (by decide +kernel)
theorem kk_X9_73 : Cond.constantLong RX9 73 (97) ∈ tg := tg_i 885 (by decide +kernel)
theorem kk_X9_75 : Cond.constantLong RX9 75 (122) ∈ tg := tg_i 886 (by decide +kernel)
theorem km_X9_91 : Cond.methodLink RX9 91 yX9_isDigit ∈ tg := tg_i 887 (by decide +kernel)
theorem kt_X9_isDigit : Cond.static yX9_isDigit ∈ tg := tg_i 888 (by decide +kernel)
theorem kc_X9_isDigit : Cond.code yX9_isDigit cX9_isDigit 1 (some .boolean) ∈ tg := tg_i 889 (by decide +kernel)
theorem kk_X9_77 : Cond.constantLong RX9 77 (48) ∈ tg := tg_i 890 (by decide +kernel)
theorem kk_X9_79 : Cond.constantLong RX9 79 (57) ∈ tg := tg_i 891 (by decide +kernel)
theorem km_X9_141 : Cond.methodLink RX9 141 yX9_readsClause ∈ tg := tg_i 892 (by decide +kernel)
theorem ki_X9_readsClause : Cond.instanceMethod yX9_readsClause ∈ tg := tg_i 894 (by decide +kernel)
theorem kc_X9_readsClause : Cond.code yX9_readsClause cX9_readsClause 2 (some .boolean) ∈ tg := tg_i 895 (by decide +kernel)
theorem km_X9_123 : Cond.methodLink RX9 123 yX9_wordHere ∈ tg := tg_i 896 (by decide +kernel)
theorem ki_X9_wordHere : Cond.instanceMethod yX9_wordHere ∈ tg := tg_i 898 (by decide +kernel)
theorem kc_X9_wordHere : Cond.code yX9_wordHere cX9_wordHere 4 (some .int) ∈ tg := tg_i 899 (by decide +kernel)
theorem km_X9_127 : Cond.methodLink RX9 127 yX9_readsRest ∈ tg := tg_i 900 (by decide +kernel)
theorem ki_X9_readsRest : Cond.instanceMethod yX9_readsRest ∈ tg := tg_i 902 (by decide +kernel)
theorem kc_X9_readsRest : Cond.code yX9_readsRest cX9_readsRest 2 (some .boolean) ∈ tg := tg_i 903 (by decide +kernel)
theorem km_X9_100 : Cond.methodLink RX9 100 yX9_number ∈ tg := tg_i 904 (by decide +kernel)
theorem ki_X9_number : Cond.instanceMethod yX9_number ∈ tg := tg_i 906 (by decide +kernel)
theorem kc_X9_number : Cond.code yX9_number cX9_number 7 (some .boolean) ∈ tg := tg_i 907 (by decide +kernel)
theorem km_X9_104 : Cond.methodLink RX9 104 yX9_readsNode ∈ tg := tg_i 908 (by decide +kernel)
theorem ki_X9_readsNode : Cond.instanceMethod yX9_readsNode ∈ tg := tg_i 910 (by decide +kernel)
theorem kc_X9_readsNode : Cond.code yX9_readsNode cX9_readsNode 3 (some .boolean) ∈ tg := tg_i 911 (by decide +kernel)
theorem km_X9_134 : Cond.methodLink RX9 134 yX9_does ∈ tg := tg_i 912 (by decide +kernel)
theorem ki_X9_does : Cond.instanceMethod yX9_does ∈ tg := tg_i 914 (by decide +kernel)
theorem kc_X9_does : Cond.code yX9_does cX9_does 3 none ∈ tg := tg_i 915 (by decide +kernel)
theorem km_X9_116 : Cond.methodLink RX9 116 yX9_links ∈ tg := tg_i 916 (by decide +kernel)
theorem ki_X9_links : Cond.instanceMethod yX9_links ∈ tg := tg_i 918 (by decide +kernel)
theorem kc_X9_links : Cond.code yX9_links cX9_links 6 none ∈ tg := tg_i 919 (by decide +kernel)
theorem km_X9_108 : Cond.methodLink RX9 108 yX9_placeOf ∈ tg := tg_i 920 (by decide +kernel)
theorem ki_X9_placeOf : Cond.instanceMethod yX9_placeOf ∈ tg := tg_i 922 (by decide +kernel)
theorem kc_X9_placeOf : Cond.code yX9_placeOf cX9_placeOf 5 (some .int) ∈ tg := tg_i 923 (by decide +kernel)
theorem km_X9_112 : Cond.methodLink RX9 112 yX9_replace ∈ tg := tg_i 924 (by decide +kernel)
theorem ki_X9_replace : Cond.instanceMethod yX9_replace ∈ tg := tg_i 926 (by decide +kernel)
theorem kc_X9_replace : Cond.code yX9_replace cX9_replace 6 none ∈ tg := tg_i 927 (by decide +kernel)
theorem km_X9_120 : Cond.methodLink RX9 120 yX9_strike ∈ tg := tg_i 928 (by decide +kernel)
theorem ki_X9_strike : Cond.instanceMethod yX9_strike ∈ tg := tg_i 930 (by decide +kernel)
theorem kc_X9_strike : Cond.code yX9_strike cX9_strike 5 none ∈ tg := tg_i 931 (by decide +kernel)
theorem km_L_30 : Cond.methodLink RL 30 yX9_net ∈ tg := tg_i 932 (by decide +kernel)
theorem ki_X9_net : Cond.instanceMethod yX9_net ∈ tg := tg_i 933 (by decide +kernel)
theorem ks_X9_net : Cond.selects RX9 yX9_net yX9_net ∈ tg := tg_i 934 (by decide +kernel)
theorem kc_X9_net : Cond.code yX9_net cX9_net 2 (some .int) ∈ tg := tg_i 935 (by decide +kernel)
theorem km_L_35 : Cond.methodLink RL 35 yX9_node ∈ tg := tg_i 936 (by decide +kernel)
theorem ki_X9_node : Cond.instanceMethod yX9_node ∈ tg := tg_i 937 (by decide +kernel)
theorem ks_X9_node : Cond.selects RX9 yX9_node yX9_node ∈ tg := tg_i 938 (by decide +kernel)
theorem kc_X9_node : Cond.code yX9_node cX9_node 3 (some .int) ∈ tg := tg_i 939 (by decide +kernel)
theorem km_X9_188 : Cond.methodLink RX9 188 yX9_isNode ∈ tg := tg_i 940 (by decide +kernel)
theorem ki_X9_isNode : Cond.instanceMethod yX9_isNode ∈ tg := tg_i 942 (by decide +kernel)
theorem kc_X9_isNode : Cond.code yX9_isNode cX9_isNode 2 (some .boolean) ∈ tg := tg_i 943 (by decide +kernel)
theorem km_X9_176 : Cond.methodLink RX9 176 yX9_isDead ∈ tg := tg_i 944 (by decide +kernel)
theorem ki_X9_isDead : Cond.instanceMethod yX9_isDead ∈ tg := tg_i 946 (by decide +kernel)
theorem kc_X9_isDead : Cond.code yX9_isDead cX9_isDead 3 (some .boolean) ∈ tg := tg_i 947 (by decide +kernel)
theorem km_X9_152 : Cond.methodLink RX9 152 yX9_has ∈ tg := tg_i 948 (by decide +kernel)
theorem kt_X9_has : Cond.static yX9_has ∈ tg := tg_i 949 (by decide +kernel)
theorem kc_X9_has : Cond.code yX9_has cX9_has 2 (some .boolean) ∈ tg := tg_i 950 (by decide +kernel)
theorem km_X9_191 : Cond.methodLink RX9 191 yX9_known ∈ tg := tg_i 951 (by decide +kernel)
theorem ki_X9_known : Cond.instanceMethod yX9_known ∈ tg := tg_i 953 (by decide +kernel)
theorem kc_X9_known : Cond.code yX9_known cX9_known 5 (some .int) ∈ tg := tg_i 954 (by decide +kernel)
theorem km_X9_194 : Cond.methodLink RX9 194 yX9_viewOf ∈ tg := tg_i 955 (by decide +kernel)
theorem ki_X9_viewOf : Cond.instanceMethod yX9_viewOf ∈ tg := tg_i 957 (by decide +kernel)
theorem kc_X9_viewOf : Cond.code yX9_viewOf cX9_viewOf 4 (some .int) ∈ tg := tg_i 958 (by decide +kernel)
theorem km_L_40 : Cond.methodLink RL 40 yX9_entry ∈ tg := tg_i 959 (by decide +kernel)
theorem ki_X9_entry : Cond.instanceMethod yX9_entry ∈ tg := tg_i 960 (by decide +kernel)
theorem ks_X9_entry : Cond.selects RX9 yX9_entry yX9_entry ∈ tg := tg_i 961 (by decide +kernel)
theorem kc_X9_entry : Cond.code yX9_entry cX9_entry 4 (some .int) ∈ tg := tg_i 962 (by decide +kernel)
theorem km_L_44 : Cond.methodLink RL 44 yX9_round ∈ tg := tg_i 963 (by decide +kernel)
theorem ki_X9_round : Cond.instanceMethod yX9_round ∈ tg := tg_i 964 (by decide +kernel)
theorem ks_X9_round : Cond.selects RX9 yX9_round yX9_round ∈ tg := tg_i 965 (by decide +kernel)
theorem kc_X9_round : Cond.code yX9_round cX9_round 2 (some .int) ∈ tg := tg_i 966 (by decide +kernel)
theorem km_X9_201 : Cond.methodLink RX9 201 yX9_keepPast ∈ tg := tg_i 967 (by decide +kernel)
theorem ki_X9_keepPast : Cond.instanceMethod yX9_keepPast ∈ tg := tg_i 969 (by decide +kernel)
theorem kc_X9_keepPast : Cond.code yX9_keepPast cX9_keepPast 2 none ∈ tg := tg_i 970 (by decide +kernel)
theorem km_X9_198 : Cond.methodLink RX9 198 yX9_copyRow ∈ tg := tg_i 971 (by decide +kernel)
theorem ki_X9_copyRow : Cond.instanceMethod yX9_copyRow ∈ tg := tg_i 973 (by decide +kernel)
theorem kc_X9_copyRow : Cond.code yX9_copyRow cX9_copyRow 4 none ∈ tg := tg_i 974 (by decide +kernel)
theorem km_X9_185 : Cond.methodLink RX9 185 yX9_rounds ∈ tg := tg_i 975 (by decide +kernel)
theorem ki_X9_rounds : Cond.instanceMethod yX9_rounds ∈ tg := tg_i 977 (by decide +kernel)
theorem kc_X9_rounds : Cond.code yX9_rounds cX9_rounds 5 (some .int) ∈ tg := tg_i 978 (by decide +kernel)
theorem km_X9_169 : Cond.methodLink RX9 169 yX9_ages ∈ tg := tg_i 979 (by decide +kernel)
theorem ki_X9_ages : Cond.instanceMethod yX9_ages ∈ tg := tg_i 981 (by decide +kernel)
theorem kc_X9_ages : Cond.code yX9_ages cX9_ages 4 none ∈ tg := tg_i 982 (by decide +kernel)
theorem km_X9_173 : Cond.methodLink RX9 173 yX9_oldest ∈ tg := tg_i 983 (by decide +kernel)
theorem ki_X9_oldest : Cond.instanceMethod yX9_oldest ∈ tg := tg_i 985 (by decide +kernel)
theorem kc_X9_oldest : Cond.code yX9_oldest cX9_oldest 7 (some .int) ∈ tg := tg_i 986 (by decide +kernel)
theorem km_X9_163 : Cond.methodLink RX9 163 yX9_send ∈ tg := tg_i 987 (by decide +kernel)
theorem ki_X9_send : Cond.instanceMethod yX9_send ∈ tg := tg_i 989 (by decide +kernel)
theorem kc_X9_send : Cond.code yX9_send cX9_send 5 none ∈ tg := tg_i 990 (by decide +kernel)
theorem km_X9_179 : Cond.methodLink RX9 179 yX9_sends ∈ tg := tg_i 991 (by decide +kernel)
theorem ki_X9_sends : Cond.instanceMethod yX9_sends ∈ tg := tg_i 993 (by decide +kernel)
theorem kc_X9_sends : Cond.code yX9_sends cX9_sends 7 none ∈ tg := tg_i 994 (by decide +kernel)
theorem km_X9_156 : Cond.methodLink RX9 156 yX9_draw ∈ tg := tg_i 995 (by decide +kernel)
theorem ki_X9_draw : Cond.instanceMethod yX9_draw ∈ tg := tg_i 997 (by decide +kernel)
theorem kc_X9_draw : Cond.code yX9_draw cX9_draw 3 (some .int) ∈ tg := tg_i 998 (by decide +kernel)
theorem kk_X9_155 : Cond.constant RX9 155 (65537) ∈ tg := tg_i 999 (by decide +kernel)
theorem km_X9_160 : Cond.methodLink RX9 160 yX9_isSent ∈ tg := tg_i 1000 (by decide +kernel)
theorem ki_X9_isSent : Cond.instanceMethod yX9_isSent ∈ tg := tg_i 1002 (by decide +kernel)
theorem kc_X9_isSent : Cond.code yX9_isSent cX9_isSent 5 (some .boolean) ∈ tg := tg_i 1003 (by decide +kernel)
theorem km_X9_182 : Cond.methodLink RX9 182 yX9_takes ∈ tg := tg_i 1004 (by decide +kernel)
theorem ki_X9_takes : Cond.instanceMethod yX9_takes ∈ tg := tg_i 1006 (by decide +kernel)
theorem kc_X9_takes : Cond.code yX9_takes cX9_takes 8 none ∈ tg := tg_i 1007 (by decide +kernel)
theorem km_X9_166 : Cond.methodLink RX9 166 yX9_giveUp ∈ tg := tg_i 1008 (by decide +kernel)
theorem ki_X9_giveUp : Cond.instanceMethod yX9_giveUp ∈ tg := tg_i 1010 (by decide +kernel)
theorem kc_X9_giveUp : Cond.code yX9_giveUp cX9_giveUp 6 (some .int) ∈ tg := tg_i 1011 (by decide +kernel)
theorem km_L_48 : Cond.methodLink RL 48 yX9_cycle ∈ tg := tg_i 1012 (by decide +kernel)
theorem ki_X9_cycle : Cond.instanceMethod yX9_cycle ∈ tg := tg_i 1013 (by decide +kernel)
theorem ks_X9_cycle : Cond.selects RX9 yX9_cycle yX9_cycle ∈ tg := tg_i 1014 (by decide +kernel)
theorem kc_X9_cycle : Cond.code yX9_cycle cX9_cycle 3 (some .int) ∈ tg := tg_i 1015 (by decide +kernel)
theorem kk_X9_204 : Cond.constantLong RX9 204 (20) ∈ tg := tg_i 1016 (by decide +kernel)
theorem km_X9_206 : Cond.methodLink RX9 206 yX9_cycles ∈ tg := tg_i 1017 (by decide +kernel)
theorem ki_X9_cycles : Cond.instanceMethod yX9_cycles ∈ tg := tg_i 1019 (by decide +kernel)
theorem kc_X9_cycles : Cond.code yX9_cycles cX9_cycles 3 none ∈ tg := tg_i 1020 (by decide +kernel)
theorem km_X9_209 : Cond.methodLink RX9 209 yX9_entries ∈ tg := tg_i 1021 (by decide +kernel)
theorem ki_X9_entries : Cond.instanceMethod yX9_entries ∈ tg := tg_i 1023 (by decide +kernel)
theorem kc_X9_entries : Cond.code yX9_entries cX9_entries 3 (some .int) ∈ tg := tg_i 1024 (by decide +kernel)
theorem km_L_52 : Cond.methodLink RL 52 yX9_die ∈ tg := tg_i 1025 (by decide +kernel)
theorem ki_X9_die : Cond.instanceMethod yX9_die ∈ tg := tg_i 1026 (by decide +kernel)
theorem ks_X9_die : Cond.selects RX9 yX9_die yX9_die ∈ tg := tg_i 1027 (by decide +kernel)
theorem kc_X9_die : Cond.code yX9_die cX9_die 3 (some .int) ∈ tg := tg_i 1028 (by decide +kernel)
theorem km_X9_212 : Cond.methodLink RX9 212 yX9_alive ∈ tg := tg_i 1029 (by decide +kernel)
theorem ki_X9_alive : Cond.instanceMethod yX9_alive ∈ tg := tg_i 1031 (by decide +kernel)
theorem kc_X9_alive : Cond.code yX9_alive cX9_alive 2 (some .int) ∈ tg := tg_i 1032 (by decide +kernel)
theorem km_X9_215 : Cond.methodLink RX9 215 yX9_ones ∈ tg := tg_i 1033 (by decide +kernel)
theorem kt_X9_ones : Cond.static yX9_ones ∈ tg := tg_i 1034 (by decide +kernel)
theorem kc_X9_ones : Cond.code yX9_ones cX9_ones 3 (some .int) ∈ tg := tg_i 1035 (by decide +kernel)
theorem km_L_56 : Cond.methodLink RL 56 yX9_link ∈ tg := tg_i 1036 (by decide +kernel)
theorem ki_X9_link : Cond.instanceMethod yX9_link ∈ tg := tg_i 1037 (by decide +kernel)
theorem ks_X9_link : Cond.selects RX9 yX9_link yX9_link ∈ tg := tg_i 1038 (by decide +kernel)
theorem kc_X9_link : Cond.code yX9_link cX9_link 3 (some .int) ∈ tg := tg_i 1039 (by decide +kernel)
theorem km_L_60 : Cond.methodLink RL 60 yX9_undo ∈ tg := tg_i 1040 (by decide +kernel)
theorem ki_X9_undo : Cond.instanceMethod yX9_undo ∈ tg := tg_i 1041 (by decide +kernel)
theorem ks_X9_undo : Cond.selects RX9 yX9_undo yX9_undo ∈ tg := tg_i 1042 (by decide +kernel)
theorem kc_X9_undo : Cond.code yX9_undo cX9_undo 1 (some .int) ∈ tg := tg_i 1043 (by decide +kernel)
theorem km_L_64 : Cond.methodLink RL 64 yX9_keep ∈ tg := tg_i 1044 (by decide +kernel)
theorem ki_X9_keep : Cond.instanceMethod yX9_keep ∈ tg := tg_i 1045 (by decide +kernel)
theorem ks_X9_keep : Cond.selects RX9 yX9_keep yX9_keep ∈ tg := tg_i 1046 (by decide +kernel)
theorem kc_X9_keep : Cond.code yX9_keep cX9_keep 2 (some .int) ∈ tg := tg_i 1047 (by decide +kernel)
theorem km_L_68 : Cond.methodLink RL 68 yX9_back ∈ tg := tg_i 1048 (by decide +kernel)
theorem ki_X9_back : Cond.instanceMethod yX9_back ∈ tg := tg_i 1049 (by decide +kernel)
theorem ks_X9_back : Cond.selects RX9 yX9_back yX9_back ∈ tg := tg_i 1050 (by decide +kernel)
theorem kc_X9_back : Cond.code yX9_back cX9_back 2 (some .int) ∈ tg := tg_i 1051 (by decide +kernel)
theorem km_L_72 : Cond.methodLink RL 72 yX9_forgotten ∈ tg := tg_i 1052 (by decide +kernel)
theorem ki_X9_forgotten : Cond.instanceMethod yX9_forgotten ∈ tg := tg_i 1053 (by decide +kernel)
theorem ks_X9_forgotten : Cond.selects RX9 yX9_forgotten yX9_forgotten ∈ tg := tg_i 1054 (by decide +kernel)
theorem kc_X9_forgotten : Cond.code yX9_forgotten cX9_forgotten 3 (some .int) ∈ tg := tg_i 1055 (by decide +kernel)
theorem km_L_76 : Cond.methodLink RL 76 yX9_next ∈ tg := tg_i 1056 (by decide +kernel)
theorem ki_X9_next : Cond.instanceMethod yX9_next ∈ tg := tg_i 1057 (by decide +kernel)
theorem ks_X9_next : Cond.selects RX9 yX9_next yX9_next ∈ tg := tg_i 1058 (by decide +kernel)
theorem kc_X9_next : Cond.code yX9_next cX9_next 3 (some .int) ∈ tg := tg_i 1059 (by decide +kernel)
theorem km_L_80 : Cond.methodLink RL 80 yX9_spread ∈ tg := tg_i 1060 (by decide +kernel)
theorem ki_X9_spread : Cond.instanceMethod yX9_spread ∈ tg := tg_i 1061 (by decide +kernel)
theorem ks_X9_spread : Cond.selects RX9 yX9_spread yX9_spread ∈ tg := tg_i 1062 (by decide +kernel)
theorem kc_X9_spread : Cond.code yX9_spread cX9_spread 3 (some .int) ∈ tg := tg_i 1063 (by decide +kernel)
theorem kk_X9_218 : Cond.constantLong RX9 218 (60) ∈ tg := tg_i 1064 (by decide +kernel)
theorem km_X9_220 : Cond.methodLink RX9 220 yX9_extreme ∈ tg := tg_i 1065 (by decide +kernel)
theorem ki_X9_extreme : Cond.instanceMethod yX9_extreme ∈ tg := tg_i 1067 (by decide +kernel)
theorem kc_X9_extreme : Cond.code yX9_extreme cX9_extreme 6 (some .int) ∈ tg := tg_i 1068 (by decide +kernel)
theorem km_L_84 : Cond.methodLink RL 84 yX9_far ∈ tg := tg_i 1069 (by decide +kernel)
theorem ki_X9_far : Cond.instanceMethod yX9_far ∈ tg := tg_i 1070 (by decide +kernel)
theorem ks_X9_far : Cond.selects RX9 yX9_far yX9_far ∈ tg := tg_i 1071 (by decide +kernel)
theorem kc_X9_far : Cond.code yX9_far cX9_far 7 (some .int) ∈ tg := tg_i 1072 (by decide +kernel)
theorem km_L_88 : Cond.methodLink RL 88 yX9_ring ∈ tg := tg_i 1073 (by decide +kernel)
theorem ki_X9_ring : Cond.instanceMethod yX9_ring ∈ tg := tg_i 1074 (by decide +kernel)
theorem ks_X9_ring : Cond.selects RX9 yX9_ring yX9_ring ∈ tg := tg_i 1075 (by decide +kernel)
theorem kc_X9_ring : Cond.code yX9_ring cX9_ring 2 (some .int) ∈ tg := tg_i 1076 (by decide +kernel)
theorem km_X9_226 : Cond.methodLink RX9 226 yX9_isRing ∈ tg := tg_i 1077 (by decide +kernel)
theorem kt_X9_isRing : Cond.static yX9_isRing ∈ tg := tg_i 1078 (by decide +kernel)
theorem kc_X9_isRing : Cond.code yX9_isRing cX9_isRing 1 (some .boolean) ∈ tg := tg_i 1079 (by decide +kernel)
theorem kk_X9_224 : Cond.constantLong RX9 224 (2) ∈ tg := tg_i 1080 (by decide +kernel)
theorem km_L_92 : Cond.methodLink RL 92 yX9_add ∈ tg := tg_i 1081 (by decide +kernel)
theorem ki_X9_add : Cond.instanceMethod yX9_add ∈ tg := tg_i 1082 (by decide +kernel)
theorem ks_X9_add : Cond.selects RX9 yX9_add yX9_add ∈ tg := tg_i 1083 (by decide +kernel)
theorem kc_X9_add : Cond.code yX9_add cX9_add 4 (some .int) ∈ tg := tg_i 1084 (by decide +kernel)
theorem kk_X9_229 : Cond.constantLong RX9 229 (-999) ∈ tg := tg_i 1085 (by decide +kernel)
theorem kk_X9_231 : Cond.constantLong RX9 231 (999) ∈ tg := tg_i 1086 (by decide +kernel)
theorem km_L_96 : Cond.methodLink RL 96 yX9_step ∈ tg := tg_i 1087 (by decide +kernel)
theorem ki_X9_step : Cond.instanceMethod yX9_step ∈ tg := tg_i 1088 (by decide +kernel)
theorem ks_X9_step : Cond.selects RX9 yX9_step yX9_step ∈ tg := tg_i 1089 (by decide +kernel)
theorem kc_X9_step : Cond.code yX9_step cX9_step 4 (some .int) ∈ tg := tg_i 1090 (by decide +kernel)
theorem kk_X9_236 : Cond.constantLong RX9 236 (99) ∈ tg := tg_i 1091 (by decide +kernel)
theorem km_X9_233 : Cond.methodLink RX9 233 yX9_goesOn ∈ tg := tg_i 1092 (by decide +kernel)
theorem ki_X9_goesOn : Cond.instanceMethod yX9_goesOn ∈ tg := tg_i 1094 (by decide +kernel)
theorem kc_X9_goesOn : Cond.code yX9_goesOn cX9_goesOn 4 none ∈ tg := tg_i 1095 (by decide +kernel)
theorem km_L_100 : Cond.methodLink RL 100 yX9_take ∈ tg := tg_i 1096 (by decide +kernel)
theorem ki_X9_take : Cond.instanceMethod yX9_take ∈ tg := tg_i 1097 (by decide +kernel)
theorem ks_X9_take : Cond.selects RX9 yX9_take yX9_take ∈ tg := tg_i 1098 (by decide +kernel)
theorem kc_X9_take : Cond.code yX9_take cX9_take 2 (some .int) ∈ tg := tg_i 1099 (by decide +kernel)
theorem km_X9_238 : Cond.methodLink RX9 238 yX9_takesOne ∈ tg := tg_i 1100 (by decide +kernel)
theorem ki_X9_takesOne : Cond.instanceMethod yX9_takesOne ∈ tg := tg_i 1102 (by decide +kernel)
theorem kc_X9_takesOne : Cond.code yX9_takesOne cX9_takesOne 3 (some .int) ∈ tg := tg_i 1103 (by decide +kernel)
theorem km_L_104 : Cond.methodLink RL 104 yX9_count ∈ tg := tg_i 1104 (by decide +kernel)
theorem ki_X9_count : Cond.instanceMethod yX9_count ∈ tg := tg_i 1105 (by decide +kernel)
theorem ks_X9_count : Cond.selects RX9 yX9_count yX9_count ∈ tg := tg_i 1106 (by decide +kernel)
theorem kc_X9_count : Cond.code yX9_count cX9_count 4 (some .int) ∈ tg := tg_i 1107 (by decide +kernel)
theorem kk_X9_241 : Cond.constantLong RX9 241 (9) ∈ tg := tg_i 1108 (by decide +kernel)
theorem km_L_108 : Cond.methodLink RL 108 yX9_sum ∈ tg := tg_i 1109 (by decide +kernel)
theorem ki_X9_sum : Cond.instanceMethod yX9_sum ∈ tg := tg_i 1110 (by decide +kernel)
theorem ks_X9_sum : Cond.selects RX9 yX9_sum yX9_sum ∈ tg := tg_i 1111 (by decide +kernel)
theorem kc_X9_sum : Cond.code yX9_sum cX9_sum 4 (some .int) ∈ tg := tg_i 1112 (by decide +kernel)
theorem kk_X9_243 : Cond.constant RX9 243 (50000) ∈ tg := tg_i 1113 (by decide +kernel)
theorem km_L_112 : Cond.methodLink RL 112 yX9_drop ∈ tg := tg_i 1114 (by decide +kernel)
theorem ki_X9_drop : Cond.instanceMethod yX9_drop ∈ tg := tg_i 1115 (by decide +kernel)
theorem ks_X9_drop : Cond.selects RX9 yX9_drop yX9_drop ∈ tg := tg_i 1116 (by decide +kernel)
theorem kc_X9_drop : Cond.code yX9_drop cX9_drop 3 (some .int) ∈ tg := tg_i 1117 (by decide +kernel)
theorem km_L_116 : Cond.methodLink RL 116 yX9_told ∈ tg := tg_i 1118 (by decide +kernel)
theorem ki_X9_told : Cond.instanceMethod yX9_told ∈ tg := tg_i 1119 (by decide +kernel)
theorem ks_X9_told : Cond.selects RX9 yX9_told yX9_told ∈ tg := tg_i 1120 (by decide +kernel)
theorem kc_X9_told : Cond.code yX9_told cX9_told 2 (some .int) ∈ tg := tg_i 1121 (by decide +kernel)
theorem km_X9_244 : Cond.methodLink RX9 244 yX9_parts ∈ tg := tg_i 1122 (by decide +kernel)
theorem ki_X9_parts : Cond.instanceMethod yX9_parts ∈ tg := tg_i 1124 (by decide +kernel)
theorem kc_X9_parts : Cond.code yX9_parts cX9_parts 8 (some .int) ∈ tg := tg_i 1125 (by decide +kernel)
theorem km_X9_247 : Cond.methodLink RX9 247 yX9_allNumbers ∈ tg := tg_i 1126 (by decide +kernel)
theorem ki_X9_allNumbers : Cond.instanceMethod yX9_allNumbers ∈ tg := tg_i 1128 (by decide +kernel)
theorem kc_X9_allNumbers : Cond.code yX9_allNumbers cX9_allNumbers 3 (some .int) ∈ tg := tg_i 1129 (by decide +kernel)
theorem kf_J0_9 : Cond.fieldLink RJ0 9 "java/lang/String" "value" "[B" ∈ tg := tg_i 1130 (by decide +kernel)
theorem kf_J0_15 : Cond.fieldLink RJ0 15 "java/lang/String" "coder" "B" ∈ tg := tg_i 1131 (by decide +kernel)
theorem ks_X6_letterAt : Cond.selects RX6 yX6_letterAt yX6_letterAt ∈ tg := tg_i 0 (by decide +kernel)
theorem ks_X6_kindAt : Cond.selects RX6 yX6_kindAt yX6_kindAt ∈ tg := tg_i 1 (by decide +kernel)
theorem ks_X0_readClause : Cond.selects RX0 yX0_readClause yX0_readClause ∈ tg := tg_i 2 (by decide +kernel)
theorem ks_X0_fits : Cond.selects RX0 yX0_fits yX0_fits ∈ tg := tg_i 3 (by decide +kernel)
theorem ks_X0_formAt : Cond.selects RX0 yX0_formAt yX0_formAt ∈ tg := tg_i 4 (by decide +kernel)
theorem ks_X0_mostOfNet : Cond.selects RX0 yX0_mostOfNet yX0_mostOfNet ∈ tg := tg_i 5 (by decide +kernel)
theorem ks_X0_numberOf : Cond.selects RX0 yX0_numberOf yX0_numberOf ∈ tg := tg_i 6 (by decide +kernel)
theorem ks_X0_doOne : Cond.selects RX0 yX0_doOne yX0_doOne ∈ tg := tg_i 7 (by decide +kernel)
theorem ks_X7_isAskedBefore : Cond.selects RX7 yX7_isAskedBefore yX7_isAskedBefore ∈ tg := tg_i 8 (by decide +kernel)
theorem ks_X5_swap : Cond.selects RX5 yX5_swap yX5_swap ∈ tg := tg_i 9 (by decide +kernel)
theorem ks_X1_waysOut : Cond.selects RX1 yX1_waysOut yX1_waysOut ∈ tg := tg_i 10 (by decide +kernel)
theorem ks_X1_partOf : Cond.selects RX1 yX1_partOf yX1_partOf ∈ tg := tg_i 11 (by decide +kernel)
theorem ks_X1_waysInto : Cond.selects RX1 yX1_waysInto yX1_waysInto ∈ tg := tg_i 12 (by decide +kernel)
theorem ks_X8_ringNumbers : Cond.selects RX8 yX8_ringNumbers yX8_ringNumbers ∈ tg := tg_i 13 (by decide +kernel)
theorem ks_X9_anew : Cond.selects RX9 yX9_anew yX9_anew ∈ tg := tg_i 14 (by decide +kernel)
theorem ks_X9_put : Cond.selects RX9 yX9_put yX9_put ∈ tg := tg_i 15 (by decide +kernel)
theorem ks_X9_reads : Cond.selects RX9 yX9_reads yX9_reads ∈ tg := tg_i 16 (by decide +kernel)
theorem ks_X9_nextToken : Cond.selects RX9 yX9_nextToken yX9_nextToken ∈ tg := tg_i 17 (by decide +kernel)
theorem ks_X9_readsClause : Cond.selects RX9 yX9_readsClause yX9_readsClause ∈ tg := tg_i 18 (by decide +kernel)
theorem ks_X9_wordHere : Cond.selects RX9 yX9_wordHere yX9_wordHere ∈ tg := tg_i 19 (by decide +kernel)
theorem ks_X9_readsRest : Cond.selects RX9 yX9_readsRest yX9_readsRest ∈ tg := tg_i 20 (by decide +kernel)
theorem ks_X9_number : Cond.selects RX9 yX9_number yX9_number ∈ tg := tg_i 21 (by decide +kernel)
theorem ks_X9_readsNode : Cond.selects RX9 yX9_readsNode yX9_readsNode ∈ tg := tg_i 22 (by decide +kernel)
theorem ks_X9_does : Cond.selects RX9 yX9_does yX9_does ∈ tg := tg_i 23 (by decide +kernel)
theorem ks_X9_links : Cond.selects RX9 yX9_links yX9_links ∈ tg := tg_i 24 (by decide +kernel)
theorem ks_X9_placeOf : Cond.selects RX9 yX9_placeOf yX9_placeOf ∈ tg := tg_i 25 (by decide +kernel)
theorem ks_X9_replace : Cond.selects RX9 yX9_replace yX9_replace ∈ tg := tg_i 26 (by decide +kernel)
theorem ks_X9_strike : Cond.selects RX9 yX9_strike yX9_strike ∈ tg := tg_i 27 (by decide +kernel)
theorem ks_X9_isNode : Cond.selects RX9 yX9_isNode yX9_isNode ∈ tg := tg_i 28 (by decide +kernel)
theorem ks_X9_isDead : Cond.selects RX9 yX9_isDead yX9_isDead ∈ tg := tg_i 29 (by decide +kernel)
theorem ks_X9_known : Cond.selects RX9 yX9_known yX9_known ∈ tg := tg_i 30 (by decide +kernel)
theorem ks_X9_viewOf : Cond.selects RX9 yX9_viewOf yX9_viewOf ∈ tg := tg_i 31 (by decide +kernel)
theorem ks_X9_keepPast : Cond.selects RX9 yX9_keepPast yX9_keepPast ∈ tg := tg_i 32 (by decide +kernel)
theorem ks_X9_copyRow : Cond.selects RX9 yX9_copyRow yX9_copyRow ∈ tg := tg_i 33 (by decide +kernel)
theorem ks_X9_rounds : Cond.selects RX9 yX9_rounds yX9_rounds ∈ tg := tg_i 34 (by decide +kernel)
theorem ks_X9_ages : Cond.selects RX9 yX9_ages yX9_ages ∈ tg := tg_i 35 (by decide +kernel)
theorem ks_X9_oldest : Cond.selects RX9 yX9_oldest yX9_oldest ∈ tg := tg_i 36 (by decide +kernel)
theorem ks_X9_send : Cond.selects RX9 yX9_send yX9_send ∈ tg := tg_i 37 (by decide +kernel)
theorem ks_X9_sends : Cond.selects RX9 yX9_sends yX9_sends ∈ tg := tg_i 38 (by decide +kernel)
theorem ks_X9_draw : Cond.selects RX9 yX9_draw yX9_draw ∈ tg := tg_i 39 (by decide +kernel)
theorem ks_X9_isSent : Cond.selects RX9 yX9_isSent yX9_isSent ∈ tg := tg_i 40 (by decide +kernel)
theorem ks_X9_takes : Cond.selects RX9 yX9_takes yX9_takes ∈ tg := tg_i 41 (by decide +kernel)
theorem ks_X9_giveUp : Cond.selects RX9 yX9_giveUp yX9_giveUp ∈ tg := tg_i 42 (by decide +kernel)
theorem ks_X9_cycles : Cond.selects RX9 yX9_cycles yX9_cycles ∈ tg := tg_i 43 (by decide +kernel)
theorem ks_X9_entries : Cond.selects RX9 yX9_entries yX9_entries ∈ tg := tg_i 44 (by decide +kernel)
theorem ks_X9_alive : Cond.selects RX9 yX9_alive yX9_alive ∈ tg := tg_i 45 (by decide +kernel)
theorem ks_X9_extreme : Cond.selects RX9 yX9_extreme yX9_extreme ∈ tg := tg_i 46 (by decide +kernel)
theorem ks_X9_goesOn : Cond.selects RX9 yX9_goesOn yX9_goesOn ∈ tg := tg_i 47 (by decide +kernel)
theorem ks_X9_takesOne : Cond.selects RX9 yX9_takesOne yX9_takesOne ∈ tg := tg_i 48 (by decide +kernel)
theorem ks_X9_parts : Cond.selects RX9 yX9_parts yX9_parts ∈ tg := tg_i 49 (by decide +kernel)
theorem ks_X9_allNumbers : Cond.selects RX9 yX9_allNumbers yX9_allNumbers ∈ tg := tg_i 50 (by decide +kernel)
theorem inGX0 : ∀ w ∈ wsX00, w ∈ tg := by
  have h : ∀ w ∈ wsX00, w ∈ lw_tbl ∧ goodWord w = true := by decide +kernel
  exact fun w hw => tg_mem (h w hw).1 (h w hw).2
theorem inGX1 : ∀ w ∈ wsX10, w ∈ tg := by
  have h : ∀ w ∈ wsX10, w ∈ lw_tbl ∧ goodWord w = true := by decide +kernel
  exact fun w hw => tg_mem (h w hw).1 (h w hw).2
theorem inGX2 : ∀ w ∈ wsX20, w ∈ tg := by
  have h : ∀ w ∈ wsX20, w ∈ lw_tbl ∧ goodWord w = true := by decide +kernel
  exact fun w hw => tg_mem (h w hw).1 (h w hw).2
theorem inGX3 : ∀ w ∈ wsX30, w ∈ tg := by
  have h : ∀ w ∈ wsX30, w ∈ lw_tbl ∧ goodWord w = true := by decide +kernel
  exact fun w hw => tg_mem (h w hw).1 (h w hw).2
theorem inGX4 : ∀ w ∈ wsX40, w ∈ tg := by
  have h : ∀ w ∈ wsX40, w ∈ lw_tbl ∧ goodWord w = true := by decide +kernel
  exact fun w hw => tg_mem (h w hw).1 (h w hw).2
theorem inGX5 : ∀ w ∈ wsX50, w ∈ tg := by
  have h : ∀ w ∈ wsX50, w ∈ lw_tbl ∧ goodWord w = true := by decide +kernel
  exact fun w hw => tg_mem (h w hw).1 (h w hw).2
theorem inGX6 : ∀ w ∈ wsX60, w ∈ tg := by
  have h : ∀ w ∈ wsX60, w ∈ lw_tbl ∧ goodWord w = true := by decide +kernel
  exact fun w hw => tg_mem (h w hw).1 (h w hw).2
theorem inGX7 : ∀ w ∈ wsX70, w ∈ tg := by
  have h : ∀ w ∈ wsX70, w ∈ lw_tbl ∧ goodWord w = true := by decide +kernel
  exact fun w hw => tg_mem (h w hw).1 (h w hw).2
theorem inGX8 : ∀ w ∈ wsX80, w ∈ tg := by
  have h : ∀ w ∈ wsX80, w ∈ lw_tbl ∧ goodWord w = true := by decide +kernel
  exact fun w hw => tg_mem (h w hw).1 (h w hw).2
theorem inGX9 : ∀ w ∈ wsX90, w ∈ tg := by
  have h : ∀ w ∈ wsX90, w ∈ lw_tbl ∧ goodWord w = true := by decide +kernel
  exact fun w hw => tg_mem (h w hw).1 (h w hw).2
end
section
/-! what lies outside the cells and stays: the five words as String constants, two statics -/
def zlen : List Nat := [3, 4, 3, 4, 3]
def zbyt : List (List Int32) := [[110, 101, 116], [100, 101, 97, 100], [115, 108, 121], [108, 105, 110, 107], [99, 117, 116]]
def zpool : List Nat := [72, 78, 80, 82, 84]
def ztx : List String := ["net", "dead", "sly", "link", "cut"]
def Zs (ad zk zv : Nat → Nat) (U : State) : Prop := vk_S 5 zlen zbyt zk zv (inA ad) U U.heap ∧ va_Z "java/lang/String" "COMPACT_STRINGS" "Z" (.int 1) (inA ad) U U.heap ∧ va_Zq "jdk/internal/util/Preconditions" "SIOOBE_FORMATTER" "Ljava/util/function/BiFunction;" (inA ad) U U.heap ∧ ∀ i, i < 5 → vk_R RX0 (zpool.getD i 0) (ztx.getD i "") (zk i) U
theorem Zs.move {ad zk zv : Nat → Nat} {s U : State} {H : Heap} {locs : List Loc} (h : Zs ad zk zv s) (hS : va_S (inA ad) s.heap H locs) (hU : U.heap = H) (hW : s.WarmedH U.vm) : Zs ad zk zv U := by
  obtain ⟨h1, h2, h3, h4⟩ := h
  refine ⟨?_, ?_, ?_, fun i hi => (h4 i hi).warm hW⟩
  · rw [hU]; exact (h1.kept hS.2.1).moved hW.alike
  · rw [hU]; exact (h2.kept hS.2.1).moved hW.alike
  · rw [hU]; exact (h3.kept hS.2.1).moved hW.alike
theorem Zs.blind {ad zk zv : Nat → Nat} {U : State} (g : JFrame) (mk : MethodId) (a : Array Value) (h : Zs ad zk zv U) : Zs ad zk zv (U.calling g mk a) := by
  obtain ⟨h1, h2, h3, h4⟩ := h
  exact ⟨h1.moved (u := U) (U := U.calling g mk a) (Vm.Alike.refl U.vm), h2.moved (u := U) (U := U.calling g mk a) (Vm.Alike.refl U.vm), h3.moved (u := U) (U := U.calling g mk a) (Vm.Alike.refl U.vm), fun i hi => (h4 i hi).same rfl⟩
/-! a method's start and end -/
def APre (G : va_G) (ad : Nat → Nat) (cs : Nat → ClassId) (zk zv : Nat → Nat) (avs : List Value) (M : Mm) : Array Value → State → Prop :=
  va_Pc avs (fun U => va_P G vwCl (wsO ad cs M) U.heap ∧ va_K G vwCl (tys cs) U ∧ Zs ad zk zv U)
def AQi (G : va_G) (ad : Nat → Nat) (cs : Nat → ClassId) (r : Int32) (M : Mm) : Array Value → State → Outcome → State → Prop :=
  va_Qi (fun (r' : Int32) (_ : Unit) => r' = r) (fun _ t => va_P G vwCl (wsO ad cs M) t.heap) (inA ad)
def AQv (G : va_G) (ad : Nat → Nat) (cs : Nat → ClassId) (M : Mm) : Array Value → State → Outcome → State → Prop :=
  va_Qv (fun (_ : Unit) => True) (fun _ t => va_P G vwCl (wsO ad cs M) t.heap) (inA ad)
theorem APre.blind {G : va_G} {ad : Nat → Nat} {cs : Nat → ClassId} {zk zv : Nat → Nat} {avs : List Value} {M : Mm} : FrameBlind (APre G ad cs zk zv avs M) := by
  intro a U g mk ⟨q0, qP, qK, qZ⟩
  exact ⟨q0, qP, va_K.moved (u := U) (U := U.calling g mk a) (Vm.Alike.refl U.vm) qK, qZ.blind g mk a⟩
/-! what stands through a walk -/
def Fx (G : va_G) (ad : Nat → Nat) (cs : Nat → ClassId) (zk zv : Nat → Nat) (p : Program) (m : MethodId) (meth : Method) (c : Code) (cc : ByteArray) (nL : Nat) (ret : Option FieldType) (s : State) (args : Array Value) (own : String) : Prop :=
  p.tables.exec = Jvm.exec ∧ c.code = cc ∧ c.maxLocals = nL ∧ s.vm.findClass own = some m.cls ∧ (∀ w ∈ tg, w.before args s = true) ∧ va_K G vwCl (tys cs) s ∧ inj ad ∧ Zs ad zk zv s ∧ meth.sig.returnType = ret ∧ meth.locks = false
/-! the locals: by their places -/
def lvh (ls : Array Slot) (nL : Nat) (lv : List (Option Value)) : Prop := ls.size = nL ∧ lv_wf ls ∧ ∀ (i : Nat) (v : Value), lv[i]? = some (some v) → ls[i]? = some (.val v)
def lvP (lv : List (Option Value)) : Nat → List (Nat × Value)
  | 0 => []
  | n + 1 => match lv[n]? with
    | some (some v) => (n, v) :: lvP lv n
    | _ => lvP lv n
theorem lvP_mem {lv : List (Option Value)} {q : Nat × Value} : ∀ n, q ∈ lvP lv n ↔ q.1 < n ∧ lv[q.1]? = some (some q.2) := by
  intro n
  induction n with
  | zero => simp [lvP]
  | succ n ih =>
    rw [lvP]
    split
    next v hv =>
      rw [List.mem_cons, ih]
      constructor
      · rintro (rfl | ⟨h1, h2⟩)
        · exact ⟨Nat.lt_succ_self _, hv⟩
        · exact ⟨Nat.lt_succ_of_lt h1, h2⟩
      · rintro ⟨h1, h2⟩
        rcases Nat.lt_succ_iff_lt_or_eq.mp h1 with h | h
        · exact Or.inr ⟨h, h2⟩
        · refine Or.inl ?_
          obtain ⟨q1, q2⟩ := q
          simp only at h h2
          subst h
          rw [hv] at h2
          cases h2
          rfl
    next hno =>
      rw [ih]
      constructor
      · rintro ⟨h1, h2⟩; exact ⟨Nat.lt_succ_of_lt h1, h2⟩
      · rintro ⟨h1, h2⟩
        rcases Nat.lt_succ_iff_lt_or_eq.mp h1 with h | h
        · exact ⟨h, h2⟩
        · rw [h] at h2; exact absurd h2 (hno _)
theorem lvh_has {ls : Array Slot} {nL : Nat} {lv : List (Option Value)} (h : lvh ls nL lv) : lv_has ls nL (lvP lv lv.length) :=
  ⟨h.1, h.2.1, fun q hq => h.2.2 q.1 q.2 ((lvP_mem _).mp hq).2⟩
def cat1 (lv : List (Option Value)) (i : Nat) : Bool := match i with
  | 0 => true
  | j + 1 => match lv[j]? with
    | some (some v) => v.category == 1
    | _ => true
theorem lvh_store {ls ls' : Array Slot} {nL i : Nat} {lv : List (Option Value)} {v : Value} (hc : cat1 lv i = true)
    (h : lv_has ls' nL ((i, v) :: (lvP lv lv.length).filter (fun q => !(q.1 == i) && !(q.1 + 1 == i && q.2.category == 2)))) : lvh ls' nL (lv.set i (some v)) := by
  refine ⟨h.1, h.2.1, fun j w hj => ?_⟩
  rw [List.getElem?_set] at hj
  by_cases hij : i = j
  · subst hij
    rw [if_pos rfl] at hj
    split at hj
    · cases hj; exact h.2.2 (i, v) List.mem_cons_self
    · cases hj
  · rw [if_neg hij] at hj
    have hlt : j < lv.length := by
      rcases Nat.lt_or_ge j lv.length with h2 | h2
      · exact h2
      · rw [List.getElem?_eq_none h2] at hj; cases hj
    refine h.2.2 (j, w) (List.mem_cons_of_mem _ (List.mem_filter.mpr ⟨(lvP_mem _).mpr ⟨hlt, hj⟩, ?_⟩))
    have h1 : (j == i) = false := by simp; exact fun e => hij e.symm
    have h2 : (j + 1 == i && w.category == 2) = false := by
      by_cases e : j + 1 = i
      · subst e
        simp only [cat1, hj] at hc
        have : w.category = 1 := by simpa using hc
        simp [this]
      · have : (j + 1 == i) = false := by simpa using e
        simp [this]
    simp [h1, h2]
/-- the locals with which a method begins -/
def enl : List Value → List (Option Value)
  | [] => []
  | v :: vs => if v.category = 2 then some v :: none :: enl vs else some v :: enl vs
theorem enl_args : ∀ (vs : List Value) (k : Nat) (i : Nat) (v : Value), (enl vs)[i]? = some (some v) → (k + i, v) ∈ lv_args k vs := by
  intro vs
  induction vs with
  | nil => intro k i v h; simp [enl] at h
  | cons w ws ih =>
    intro k i v h
    rw [lv_args]
    by_cases hc : w.category = 2
    · rw [enl, if_pos hc] at h
      match i, h with
      | 0, h => simp only [List.getElem?_cons_zero] at h; cases h; exact List.mem_cons_self
      | 1, h => simp at h
      | j + 2, h =>
        simp only [List.getElem?_cons_succ] at h
        have := ih (k + 2) j v h
        rw [if_pos hc]
        refine List.mem_cons_of_mem _ ?_
        rw [show k + (j + 2) = k + 2 + j by omega]
        exact this
    · rw [enl, if_neg hc] at h
      match i, h with
      | 0, h => simp only [List.getElem?_cons_zero] at h; cases h; exact List.mem_cons_self
      | j + 1, h =>
        simp only [List.getElem?_cons_succ] at h
        have := ih (k + 1) j v h
        rw [if_neg hc]
        refine List.mem_cons_of_mem _ ?_
        rw [show k + (j + 1) = k + 1 + j by omega]
        exact this
section Ax
variable {p : Program} {l : Launch} {e : Env} {R : Room} {s : State} {m : MethodId} {args : Array Value} {below : List Frame} {meth : Method} {c : Code} {Q : State → Prop}
variable {G : va_G} {ad : Nat → Nat} {cs : Nat → ClassId} {zk zv : Nat → Nat} {cc : ByteArray} {nL : Nat} {ret : Option FieldType} {own : String}
variable {pc : Nat} {lv : List (Option Value)} {st : List Value} {M : Mm}
/-- the machine at pc, with these locals, this stack, the cells as M says, comes to Q -/
def AW (p : Program) (l : Launch) (e : Env) (R : Room) (s : State) (m : MethodId) (args : Array Value) (below : List Frame) (meth : Method) (c : Code) (Q : State → Prop) (G : va_G) (ad : Nat → Nat) (cs : Nat → ClassId) (nL : Nat) (pc : Nat) (lv : List (Option Value)) (st : List Value) (M : Mm) : Prop :=
  ∀ (H : Heap) (locs : List Loc) (ls : Array Slot), va_P G vwCl (wsO ad cs M) H → va_S (inA ad) s.heap H locs → lvh ls nL lv → W p l e R s m args below meth c H locs 0 0 Q (F0 m pc ls st)
theorem ax_iconst (F : Fx G ad cs zk zv p m meth c cc nL ret s args own) {n : Int} {v : Int32} (hd : decode cc pc = .ok (.iconst n, 1)) (hv : Int32.ofInt n = v)
    (k : AW p l e R s m args below meth c Q G ad cs nL (pc + 1) lv (.int v :: st) M) : AW p l e R s m args below meth c Q G ad cs nL pc lv st M :=
  fun H locs ls hP hS hl => lv_iconst F.1 F.2.1 hd hv (k H locs ls hP hS hl)
theorem ax_bipush (F : Fx G ad cs zk zv p m meth c cc nL ret s args own) {n : Int} {v : Int32} (hd : decode cc pc = .ok (.bipush n, 2)) (hv : (Int8.ofInt n).toInt32 = v)
    (k : AW p l e R s m args below meth c Q G ad cs nL (pc + 2) lv (.int v :: st) M) : AW p l e R s m args below meth c Q G ad cs nL pc lv st M :=
  fun H locs ls hP hS hl => lv_bipush F.1 F.2.1 hd hv (k H locs ls hP hS hl)
theorem ax_sipush (F : Fx G ad cs zk zv p m meth c cc nL ret s args own) {n : Int} {v : Int32} (hd : decode cc pc = .ok (.sipush n, 3)) (hv : (Int16.ofInt n).toInt32 = v)
    (k : AW p l e R s m args below meth c Q G ad cs nL (pc + 3) lv (.int v :: st) M) : AW p l e R s m args below meth c Q G ad cs nL pc lv st M :=
  fun H locs ls hP hS hl => lv_sipush F.1 F.2.1 hd hv (k H locs ls hP hS hl)
theorem ax_ldc (F : Fx G ad cs zk zv p m meth c cc nL ret s args own) {i : Nat} {v : Int32} (hk : Cond.constant own i v ∈ tg) (hd : decode cc pc = .ok (.ldc i, 2))
    (k : AW p l e R s m args below meth c Q G ad cs nL (pc + 2) lv (.int v :: st) M) : AW p l e R s m args below meth c Q G ad cs nL pc lv st M :=
  fun H locs ls hP hS hl => lv_ldc F.1 F.2.1 F.2.2.2.1 (F.2.2.2.2.1 _ hk) hd (k H locs ls hP hS hl)
theorem ax_lconst (F : Fx G ad cs zk zv p m meth c cc nL ret s args own) {n : Fin 2} {v : Int64} (hd : decode cc pc = .ok (.lconst n, 1)) (hv : Int64.ofNat (n : Nat) = v)
    (k : AW p l e R s m args below meth c Q G ad cs nL (pc + 1) lv (.long v :: st) M) : AW p l e R s m args below meth c Q G ad cs nL pc lv st M :=
  fun H locs ls hP hS hl => lv_lconst F.1 F.2.1 hd hv (k H locs ls hP hS hl)
theorem ax_ldc2 (F : Fx G ad cs zk zv p m meth c cc nL ret s args own) {i : Nat} {v : Int64} (hk : Cond.constantLong own i v ∈ tg) (hd : decode cc pc = .ok (.ldc2_w i, 3))
    (k : AW p l e R s m args below meth c Q G ad cs nL (pc + 3) lv (.long v :: st) M) : AW p l e R s m args below meth c Q G ad cs nL pc lv st M :=
  fun H locs ls hP hS hl => lv_ldc2 F.1 F.2.1 F.2.2.2.1 (F.2.2.2.2.1 _ hk) hd (k H locs ls hP hS hl)
theorem ax_i2l (F : Fx G ad cs zk zv p m meth c cc nL ret s args own) {x : Int32} (hd : decode cc pc = .ok (.i2l, 1))
    (k : AW p l e R s m args below meth c Q G ad cs nL (pc + 1) lv (.long x.toInt64 :: st) M) : AW p l e R s m args below meth c Q G ad cs nL pc lv (.int x :: st) M :=
  fun H locs ls hP hS hl => lv_i2l F.1 F.2.1 hd rfl (k H locs ls hP hS hl)
theorem ax_lcmp (F : Fx G ad cs zk zv p m meth c cc nL ret s args own) {x y : Int64} (hd : decode cc pc = .ok (.lcmp, 1))
    (k : AW p l e R s m args below meth c Q G ad cs nL (pc + 1) lv (.int (lg_cmp x y) :: st) M) : AW p l e R s m args below meth c Q G ad cs nL pc lv (.long y :: .long x :: st) M :=
  fun H locs ls hP hS hl => W.lcmp F.1 F.2.1 hd (k H locs ls hP hS hl)
theorem ax_lload_n (F : Fx G ad cs zk zv p m meth c cc nL ret s args own) {k : Fin 4} {x : Int64} (hd : decode cc pc = .ok (.lload_n k, 1)) (hl0 : lv[(k : Nat)]? = some (some (.long x)))
    (kk : AW p l e R s m args below meth c Q G ad cs nL (pc + 1) lv (.long x :: st) M) : AW p l e R s m args below meth c Q G ad cs nL pc lv st M :=
  fun H locs ls hP hS hl => lv_lload_n F.1 F.2.1 hd rfl (hl.2.2 _ _ hl0) (kk H locs ls hP hS hl)
theorem ax_lload (F : Fx G ad cs zk zv p m meth c cc nL ret s args own) {k : Nat} {x : Int64} (hd : decode cc pc = .ok (.lload k, 2)) (hl0 : lv[k]? = some (some (.long x)))
    (kk : AW p l e R s m args below meth c Q G ad cs nL (pc + 2) lv (.long x :: st) M) : AW p l e R s m args below meth c Q G ad cs nL pc lv st M :=
  fun H locs ls hP hS hl => lv_lload F.1 F.2.1 hd (hl.2.2 _ _ hl0) (kk H locs ls hP hS hl)
theorem ax_iload_n (F : Fx G ad cs zk zv p m meth c cc nL ret s args own) {k : Fin 4} {x : Int32} (hd : decode cc pc = .ok (.iload_n k, 1)) (hl0 : lv[(k : Nat)]? = some (some (.int x)))
    (kk : AW p l e R s m args below meth c Q G ad cs nL (pc + 1) lv (.int x :: st) M) : AW p l e R s m args below meth c Q G ad cs nL pc lv st M :=
  fun H locs ls hP hS hl => lv_iload_n F.1 F.2.1 hd rfl (hl.2.2 _ _ hl0) (kk H locs ls hP hS hl)
theorem ax_iload (F : Fx G ad cs zk zv p m meth c cc nL ret s args own) {k : Nat} {x : Int32} (hd : decode cc pc = .ok (.iload k, 2)) (hl0 : lv[k]? = some (some (.int x)))
    (kk : AW p l e R s m args below meth c Q G ad cs nL (pc + 2) lv (.int x :: st) M) : AW p l e R s m args below meth c Q G ad cs nL pc lv st M :=
  fun H locs ls hP hS hl => lv_iload F.1 F.2.1 hd (hl.2.2 _ _ hl0) (kk H locs ls hP hS hl)
theorem ax_aload_n (F : Fx G ad cs zk zv p m meth c cc nL ret s args own) {k : Fin 4} {x : Nat} (hd : decode cc pc = .ok (.aload_n k, 1)) (hl0 : lv[(k : Nat)]? = some (some (.ref x)))
    (kk : AW p l e R s m args below meth c Q G ad cs nL (pc + 1) lv (.ref x :: st) M) : AW p l e R s m args below meth c Q G ad cs nL pc lv st M :=
  fun H locs ls hP hS hl => lv_aload_n F.1 F.2.1 hd rfl (hl.2.2 _ _ hl0) (kk H locs ls hP hS hl)
theorem ax_aload (F : Fx G ad cs zk zv p m meth c cc nL ret s args own) {k : Nat} {x : Nat} (hd : decode cc pc = .ok (.aload k, 2)) (hl0 : lv[k]? = some (some (.ref x)))
    (kk : AW p l e R s m args below meth c Q G ad cs nL (pc + 2) lv (.ref x :: st) M) : AW p l e R s m args below meth c Q G ad cs nL pc lv st M :=
  fun H locs ls hP hS hl => lv_aload F.1 F.2.1 hd (hl.2.2 _ _ hl0) (kk H locs ls hP hS hl)
theorem ax_istore_n (F : Fx G ad cs zk zv p m meth c cc nL ret s args own) {k : Fin 4} {x : Int32} (hd : decode cc pc = .ok (.istore_n k, 1)) (hk : (k : Nat) < nL) (hc : cat1 lv (k : Nat) = true)
    (kk : AW p l e R s m args below meth c Q G ad cs nL (pc + 1) (lv.set (k : Nat) (some (.int x))) st M) : AW p l e R s m args below meth c Q G ad cs nL pc lv (.int x :: st) M :=
  fun H locs _ hP hS hl => lv_istore_n F.1 F.2.1 hd rfl (lvh_has hl) hk rfl (fun ls' hl' => kk H locs ls' hP hS (lvh_store (ls := ls') hc hl'))
theorem ax_istore (F : Fx G ad cs zk zv p m meth c cc nL ret s args own) {k : Nat} {x : Int32} (hd : decode cc pc = .ok (.istore k, 2)) (hk : k < nL) (hc : cat1 lv k = true)
    (kk : AW p l e R s m args below meth c Q G ad cs nL (pc + 2) (lv.set k (some (.int x))) st M) : AW p l e R s m args below meth c Q G ad cs nL pc lv (.int x :: st) M :=
  fun H locs _ hP hS hl => lv_istore F.1 F.2.1 hd (lvh_has hl) hk rfl (fun ls' hl' => kk H locs ls' hP hS (lvh_store (ls := ls') hc hl'))
theorem ax_astore_n (F : Fx G ad cs zk zv p m meth c cc nL ret s args own) {k : Fin 4} {x : Nat} (hd : decode cc pc = .ok (.astore_n k, 1)) (hk : (k : Nat) < nL) (hc : cat1 lv (k : Nat) = true)
    (kk : AW p l e R s m args below meth c Q G ad cs nL (pc + 1) (lv.set (k : Nat) (some (.ref x))) st M) : AW p l e R s m args below meth c Q G ad cs nL pc lv (.ref x :: st) M :=
  fun H locs _ hP hS hl => lv_astore_n F.1 F.2.1 hd rfl (lvh_has hl) hk rfl (fun ls' hl' => kk H locs ls' hP hS (lvh_store (ls := ls') hc hl'))
theorem ax_astore (F : Fx G ad cs zk zv p m meth c cc nL ret s args own) {k : Nat} {x : Nat} (hd : decode cc pc = .ok (.astore k, 2)) (hk : k < nL) (hc : cat1 lv k = true)
    (kk : AW p l e R s m args below meth c Q G ad cs nL (pc + 2) (lv.set k (some (.ref x))) st M) : AW p l e R s m args below meth c Q G ad cs nL pc lv (.ref x :: st) M :=
  fun H locs _ hP hS hl => lv_astore F.1 F.2.1 hd (lvh_has hl) hk rfl (fun ls' hl' => kk H locs ls' hP hS (lvh_store (ls := ls') hc hl'))
theorem lvP_idx {lv : List (Option Value)} {i : Nat} {v : Value} (h : lv[i]? = some (some v)) : ∃ k : Nat, (lvP lv lv.length)[k]? = some (i, v) := by
  have hlt : i < lv.length := by
    rcases Nat.lt_or_ge i lv.length with h2 | h2
    · exact h2
    · rw [List.getElem?_eq_none h2] at h; cases h
  exact List.getElem?_of_mem ((lvP_mem (q := (i, v)) _).mpr ⟨hlt, h⟩)
theorem ax_iinc (F : Fx G ad cs zk zv p m meth c cc nL ret s args own) {i : Nat} {n : Int} {x v : Int32} (hd : decode cc pc = .ok (.iinc i n, 3)) (hl0 : lv[i]? = some (some (.int x))) (hv : Int32.ofInt n = v) (hk : i < nL) (hc : cat1 lv i = true)
    (kk : AW p l e R s m args below meth c Q G ad cs nL (pc + 3) (lv.set i (some (.int (x + v)))) st M) : AW p l e R s m args below meth c Q G ad cs nL pc lv st M := by
  intro H locs ls hP hS hl
  obtain ⟨k, hk0⟩ := lvP_idx hl0
  exact lv_iinc F.1 F.2.1 hd (lvh_has hl) hk0 (by rw [hv]) hk rfl (fun ls' hl' => kk H locs ls' hP hS (lvh_store (ls := ls') hc hl'))
theorem ax_iadd (F : Fx G ad cs zk zv p m meth c cc nL ret s args own) {x y : Int32} (hd : decode cc pc = .ok (.iadd, 1))
    (k : AW p l e R s m args below meth c Q G ad cs nL (pc + 1) lv (.int (x + y) :: st) M) : AW p l e R s m args below meth c Q G ad cs nL pc lv (.int y :: .int x :: st) M :=
  fun H locs ls hP hS hl => lv_iadd F.1 F.2.1 hd (k H locs ls hP hS hl)
theorem ax_isub (F : Fx G ad cs zk zv p m meth c cc nL ret s args own) {x y : Int32} (hd : decode cc pc = .ok (.isub, 1))
    (k : AW p l e R s m args below meth c Q G ad cs nL (pc + 1) lv (.int (x - y) :: st) M) : AW p l e R s m args below meth c Q G ad cs nL pc lv (.int y :: .int x :: st) M :=
  fun H locs ls hP hS hl => lv_isub F.1 F.2.1 hd (k H locs ls hP hS hl)
theorem ax_imul (F : Fx G ad cs zk zv p m meth c cc nL ret s args own) {x y : Int32} (hd : decode cc pc = .ok (.imul, 1))
    (k : AW p l e R s m args below meth c Q G ad cs nL (pc + 1) lv (.int (x * y) :: st) M) : AW p l e R s m args below meth c Q G ad cs nL pc lv (.int y :: .int x :: st) M :=
  fun H locs ls hP hS hl => lv_imul F.1 F.2.1 hd (k H locs ls hP hS hl)
theorem ax_iand (F : Fx G ad cs zk zv p m meth c cc nL ret s args own) {x y : Int32} (hd : decode cc pc = .ok (.iand, 1))
    (k : AW p l e R s m args below meth c Q G ad cs nL (pc + 1) lv (.int (x &&& y) :: st) M) : AW p l e R s m args below meth c Q G ad cs nL pc lv (.int y :: .int x :: st) M :=
  fun H locs ls hP hS hl => lv_iand F.1 F.2.1 hd (k H locs ls hP hS hl)
theorem ax_ior (F : Fx G ad cs zk zv p m meth c cc nL ret s args own) {x y : Int32} (hd : decode cc pc = .ok (.ior, 1))
    (k : AW p l e R s m args below meth c Q G ad cs nL (pc + 1) lv (.int (x ||| y) :: st) M) : AW p l e R s m args below meth c Q G ad cs nL pc lv (.int y :: .int x :: st) M :=
  fun H locs ls hP hS hl => lv_ior F.1 F.2.1 hd (k H locs ls hP hS hl)
theorem ax_ixor (F : Fx G ad cs zk zv p m meth c cc nL ret s args own) {x y : Int32} (hd : decode cc pc = .ok (.ixor, 1))
    (k : AW p l e R s m args below meth c Q G ad cs nL (pc + 1) lv (.int (x ^^^ y) :: st) M) : AW p l e R s m args below meth c Q G ad cs nL pc lv (.int y :: .int x :: st) M :=
  fun H locs ls hP hS hl => lv_ixor F.1 F.2.1 hd (k H locs ls hP hS hl)
theorem ax_ishl (F : Fx G ad cs zk zv p m meth c cc nL ret s args own) {x y : Int32} (hd : decode cc pc = .ok (.ishl, 1))
    (k : AW p l e R s m args below meth c Q G ad cs nL (pc + 1) lv (.int (ish x y) :: st) M) : AW p l e R s m args below meth c Q G ad cs nL pc lv (.int y :: .int x :: st) M :=
  fun H locs ls hP hS hl => lv_ishl F.1 F.2.1 hd (k H locs ls hP hS hl)
theorem ax_ishr (F : Fx G ad cs zk zv p m meth c cc nL ret s args own) {x y : Int32} (hd : decode cc pc = .ok (.ishr, 1))
    (k : AW p l e R s m args below meth c Q G ad cs nL (pc + 1) lv (.int (isr x y) :: st) M) : AW p l e R s m args below meth c Q G ad cs nL pc lv (.int y :: .int x :: st) M :=
  fun H locs ls hP hS hl => lv_ishr F.1 F.2.1 hd (k H locs ls hP hS hl)
theorem ax_idiv (F : Fx G ad cs zk zv p m meth c cc nL ret s args own) {x y : Int32} (hd : decode cc pc = .ok (.idiv, 1)) (hy : ¬ y = 0)
    (k : AW p l e R s m args below meth c Q G ad cs nL (pc + 1) lv (.int (x / y) :: st) M) : AW p l e R s m args below meth c Q G ad cs nL pc lv (.int y :: .int x :: st) M :=
  fun H locs ls hP hS hl => lv_idiv F.1 F.2.1 hd hy (k H locs ls hP hS hl)
theorem ax_irem (F : Fx G ad cs zk zv p m meth c cc nL ret s args own) {x y : Int32} (hd : decode cc pc = .ok (.irem, 1)) (hy : ¬ y = 0)
    (k : AW p l e R s m args below meth c Q G ad cs nL (pc + 1) lv (.int (irem x y) :: st) M) : AW p l e R s m args below meth c Q G ad cs nL pc lv (.int y :: .int x :: st) M :=
  fun H locs ls hP hS hl => lv_irem F.1 F.2.1 hd hy (k H locs ls hP hS hl)
theorem ax_ineg (F : Fx G ad cs zk zv p m meth c cc nL ret s args own) {x : Int32} (hd : decode cc pc = .ok (.ineg, 1))
    (k : AW p l e R s m args below meth c Q G ad cs nL (pc + 1) lv (.int (-x) :: st) M) : AW p l e R s m args below meth c Q G ad cs nL pc lv (.int x :: st) M :=
  fun H locs ls hP hS hl => lv_ineg F.1 F.2.1 hd (k H locs ls hP hS hl)
theorem ax_dup (F : Fx G ad cs zk zv p m meth c cc nL ret s args own) {v : Value} (hd : decode cc pc = .ok (.dup, 1)) (hv : v.category = 1)
    (k : AW p l e R s m args below meth c Q G ad cs nL (pc + 1) lv (v :: v :: st) M) : AW p l e R s m args below meth c Q G ad cs nL pc lv (v :: st) M :=
  fun H locs ls hP hS hl => lv_dup F.1 F.2.1 hd hv (k H locs ls hP hS hl)
theorem ax_dup2 (F : Fx G ad cs zk zv p m meth c cc nL ret s args own) {v w : Value} (hd : decode cc pc = .ok (.dup2, 1)) (hv : v.category = 1) (hw : w.category = 1)
    (k : AW p l e R s m args below meth c Q G ad cs nL (pc + 1) lv (v :: w :: v :: w :: st) M) : AW p l e R s m args below meth c Q G ad cs nL pc lv (v :: w :: st) M :=
  fun H locs ls hP hS hl => lv_dup2_11 F.1 F.2.1 hd hv hw (k H locs ls hP hS hl)
theorem ax_pop (F : Fx G ad cs zk zv p m meth c cc nL ret s args own) {v : Value} (hd : decode cc pc = .ok (.pop, 1)) (hv : v.category = 1)
    (k : AW p l e R s m args below meth c Q G ad cs nL (pc + 1) lv st M) : AW p l e R s m args below meth c Q G ad cs nL pc lv (v :: st) M :=
  fun H locs ls hP hS hl => lv_pop F.1 F.2.1 hd hv (k H locs ls hP hS hl)
theorem ax_goto (F : Fx G ad cs zk zv p m meth c cc nL ret s args own) {o : Int} {t : Nat} (hd : decode cc pc = .ok (.goto o, 3)) (ht : (pc : Int) + o = (t : Int))
    (k : AW p l e R s m args below meth c Q G ad cs nL t lv st M) : AW p l e R s m args below meth c Q G ad cs nL pc lv st M :=
  fun H locs ls hP hS hl => lv_goto F.1 F.2.1 hd ht (k H locs ls hP hS hl)
theorem ax_swOut (F : Fx G ad cs zk zv p m meth c cc nL ret s args own) {d lo hi : Int} {os : Array Int} {len : Nat} {x : Int32} {t : Nat} (hd : decode cc pc = .ok (.tableswitch d lo hi os, len)) (h : x.toInt < lo ∨ hi < x.toInt) (ht : (pc : Int) + d = (t : Int))
    (k : AW p l e R s m args below meth c Q G ad cs nL t lv st M) : AW p l e R s m args below meth c Q G ad cs nL pc lv (.int x :: st) M :=
  fun H locs ls hP hS hl => lv_tableOut F.1 F.2.1 hd h ht (k H locs ls hP hS hl)
theorem ax_swIn (F : Fx G ad cs zk zv p m meth c cc nL ret s args own) {d lo hi : Int} {os : Array Int} {len : Nat} {x : Int32} {t : Nat} {o : Int} (hd : decode cc pc = .ok (.tableswitch d lo hi os, len)) (h1 : ¬ x.toInt < lo) (h2 : ¬ hi < x.toInt) (ho : os[(x.toInt - lo).toNat]? = some o) (ht : (pc : Int) + o = (t : Int))
    (k : AW p l e R s m args below meth c Q G ad cs nL t lv st M) : AW p l e R s m args below meth c Q G ad cs nL pc lv (.int x :: st) M :=
  fun H locs ls hP hS hl => lv_tableIn F.1 F.2.1 hd h1 h2 ho ht (k H locs ls hP hS hl)
theorem ax_if_eq (F : Fx G ad cs zk zv p m meth c cc nL ret s args own) {x : Int32} {o : Int} {t : Nat} (hd : decode cc pc = .ok (.ifCond .eq o, 3)) (ht : (pc : Int) + o = (t : Int))
    (kt : x = 0 → AW p l e R s m args below meth c Q G ad cs nL t lv st M) (kf : ¬ x = 0 → AW p l e R s m args below meth c Q G ad cs nL (pc + 3) lv st M) : AW p l e R s m args below meth c Q G ad cs nL pc lv (.int x :: st) M :=
  fun H locs ls hP hS hl => lv_if_eq F.1 F.2.1 hd ht (fun h => kt h H locs ls hP hS hl) (fun h => kf h H locs ls hP hS hl)
theorem ax_icmp_eq (F : Fx G ad cs zk zv p m meth c cc nL ret s args own) {x y : Int32} {o : Int} {t : Nat} (hd : decode cc pc = .ok (.if_icmp .eq o, 3)) (ht : (pc : Int) + o = (t : Int))
    (kt : x = y → AW p l e R s m args below meth c Q G ad cs nL t lv st M) (kf : ¬ x = y → AW p l e R s m args below meth c Q G ad cs nL (pc + 3) lv st M) : AW p l e R s m args below meth c Q G ad cs nL pc lv (.int y :: .int x :: st) M :=
  fun H locs ls hP hS hl => lv_icmp_eq F.1 F.2.1 hd ht (fun h => kt h H locs ls hP hS hl) (fun h => kf h H locs ls hP hS hl)
theorem ax_if_ne (F : Fx G ad cs zk zv p m meth c cc nL ret s args own) {x : Int32} {o : Int} {t : Nat} (hd : decode cc pc = .ok (.ifCond .ne o, 3)) (ht : (pc : Int) + o = (t : Int))
    (kt : ¬ x = 0 → AW p l e R s m args below meth c Q G ad cs nL t lv st M) (kf : x = 0 → AW p l e R s m args below meth c Q G ad cs nL (pc + 3) lv st M) : AW p l e R s m args below meth c Q G ad cs nL pc lv (.int x :: st) M :=
  fun H locs ls hP hS hl => lv_if_ne F.1 F.2.1 hd ht (fun h => kt h H locs ls hP hS hl) (fun h => kf h H locs ls hP hS hl)
theorem ax_icmp_ne (F : Fx G ad cs zk zv p m meth c cc nL ret s args own) {x y : Int32} {o : Int} {t : Nat} (hd : decode cc pc = .ok (.if_icmp .ne o, 3)) (ht : (pc : Int) + o = (t : Int))
    (kt : ¬ x = y → AW p l e R s m args below meth c Q G ad cs nL t lv st M) (kf : x = y → AW p l e R s m args below meth c Q G ad cs nL (pc + 3) lv st M) : AW p l e R s m args below meth c Q G ad cs nL pc lv (.int y :: .int x :: st) M :=
  fun H locs ls hP hS hl => lv_icmp_ne F.1 F.2.1 hd ht (fun h => kt h H locs ls hP hS hl) (fun h => kf h H locs ls hP hS hl)
theorem ax_if_lt (F : Fx G ad cs zk zv p m meth c cc nL ret s args own) {x : Int32} {o : Int} {t : Nat} (hd : decode cc pc = .ok (.ifCond .lt o, 3)) (ht : (pc : Int) + o = (t : Int))
    (kt : x < 0 → AW p l e R s m args below meth c Q G ad cs nL t lv st M) (kf : ¬ x < 0 → AW p l e R s m args below meth c Q G ad cs nL (pc + 3) lv st M) : AW p l e R s m args below meth c Q G ad cs nL pc lv (.int x :: st) M :=
  fun H locs ls hP hS hl => lv_if_lt F.1 F.2.1 hd ht (fun h => kt h H locs ls hP hS hl) (fun h => kf h H locs ls hP hS hl)
theorem ax_icmp_lt (F : Fx G ad cs zk zv p m meth c cc nL ret s args own) {x y : Int32} {o : Int} {t : Nat} (hd : decode cc pc = .ok (.if_icmp .lt o, 3)) (ht : (pc : Int) + o = (t : Int))
    (kt : x < y → AW p l e R s m args below meth c Q G ad cs nL t lv st M) (kf : ¬ x < y → AW p l e R s m args below meth c Q G ad cs nL (pc + 3) lv st M) : AW p l e R s m args below meth c Q G ad cs nL pc lv (.int y :: .int x :: st) M :=
  fun H locs ls hP hS hl => lv_icmp_lt F.1 F.2.1 hd ht (fun h => kt h H locs ls hP hS hl) (fun h => kf h H locs ls hP hS hl)
theorem ax_if_ge (F : Fx G ad cs zk zv p m meth c cc nL ret s args own) {x : Int32} {o : Int} {t : Nat} (hd : decode cc pc = .ok (.ifCond .ge o, 3)) (ht : (pc : Int) + o = (t : Int))
    (kt : 0 ≤ x → AW p l e R s m args below meth c Q G ad cs nL t lv st M) (kf : ¬ 0 ≤ x → AW p l e R s m args below meth c Q G ad cs nL (pc + 3) lv st M) : AW p l e R s m args below meth c Q G ad cs nL pc lv (.int x :: st) M :=
  fun H locs ls hP hS hl => lv_if_ge F.1 F.2.1 hd ht (fun h => kt h H locs ls hP hS hl) (fun h => kf h H locs ls hP hS hl)
theorem ax_icmp_ge (F : Fx G ad cs zk zv p m meth c cc nL ret s args own) {x y : Int32} {o : Int} {t : Nat} (hd : decode cc pc = .ok (.if_icmp .ge o, 3)) (ht : (pc : Int) + o = (t : Int))
    (kt : y ≤ x → AW p l e R s m args below meth c Q G ad cs nL t lv st M) (kf : ¬ y ≤ x → AW p l e R s m args below meth c Q G ad cs nL (pc + 3) lv st M) : AW p l e R s m args below meth c Q G ad cs nL pc lv (.int y :: .int x :: st) M :=
  fun H locs ls hP hS hl => lv_icmp_ge F.1 F.2.1 hd ht (fun h => kt h H locs ls hP hS hl) (fun h => kf h H locs ls hP hS hl)
theorem ax_if_gt (F : Fx G ad cs zk zv p m meth c cc nL ret s args own) {x : Int32} {o : Int} {t : Nat} (hd : decode cc pc = .ok (.ifCond .gt o, 3)) (ht : (pc : Int) + o = (t : Int))
    (kt : 0 < x → AW p l e R s m args below meth c Q G ad cs nL t lv st M) (kf : ¬ 0 < x → AW p l e R s m args below meth c Q G ad cs nL (pc + 3) lv st M) : AW p l e R s m args below meth c Q G ad cs nL pc lv (.int x :: st) M :=
  fun H locs ls hP hS hl => lv_if_gt F.1 F.2.1 hd ht (fun h => kt h H locs ls hP hS hl) (fun h => kf h H locs ls hP hS hl)
theorem ax_icmp_gt (F : Fx G ad cs zk zv p m meth c cc nL ret s args own) {x y : Int32} {o : Int} {t : Nat} (hd : decode cc pc = .ok (.if_icmp .gt o, 3)) (ht : (pc : Int) + o = (t : Int))
    (kt : y < x → AW p l e R s m args below meth c Q G ad cs nL t lv st M) (kf : ¬ y < x → AW p l e R s m args below meth c Q G ad cs nL (pc + 3) lv st M) : AW p l e R s m args below meth c Q G ad cs nL pc lv (.int y :: .int x :: st) M :=
  fun H locs ls hP hS hl => lv_icmp_gt F.1 F.2.1 hd ht (fun h => kt h H locs ls hP hS hl) (fun h => kf h H locs ls hP hS hl)
theorem ax_if_le (F : Fx G ad cs zk zv p m meth c cc nL ret s args own) {x : Int32} {o : Int} {t : Nat} (hd : decode cc pc = .ok (.ifCond .le o, 3)) (ht : (pc : Int) + o = (t : Int))
    (kt : x ≤ 0 → AW p l e R s m args below meth c Q G ad cs nL t lv st M) (kf : ¬ x ≤ 0 → AW p l e R s m args below meth c Q G ad cs nL (pc + 3) lv st M) : AW p l e R s m args below meth c Q G ad cs nL pc lv (.int x :: st) M :=
  fun H locs ls hP hS hl => lv_if_le F.1 F.2.1 hd ht (fun h => kt h H locs ls hP hS hl) (fun h => kf h H locs ls hP hS hl)
theorem ax_icmp_le (F : Fx G ad cs zk zv p m meth c cc nL ret s args own) {x y : Int32} {o : Int} {t : Nat} (hd : decode cc pc = .ok (.if_icmp .le o, 3)) (ht : (pc : Int) + o = (t : Int))
    (kt : x ≤ y → AW p l e R s m args below meth c Q G ad cs nL t lv st M) (kf : ¬ x ≤ y → AW p l e R s m args below meth c Q G ad cs nL (pc + 3) lv st M) : AW p l e R s m args below meth c Q G ad cs nL pc lv (.int y :: .int x :: st) M :=
  fun H locs ls hP hS hl => lv_icmp_le F.1 F.2.1 hd ht (fun h => kt h H locs ls hP hS hl) (fun h => kf h H locs ls hP hS hl)
theorem ax_get (F : Fx G ad cs zk zv p m meth c cc nL ret s args own) {a ci i : Nat} {fs : (Nat → Int32) → List Value} {C ref nm ds : String} {T : u_T} {N : Nat} (ho : isOb ad cs a ci fs) (hc : vwCl[ci]? = some (C, T, N)) (hin : ∀ w ∈ u_ws C T N, w ∈ tg) (k : Nat) (hk : k < N) (hT : T k = (ref, nm, ds, (T k).2.2.2)) (hl : Cond.fieldLink own i ref nm ds ∈ tg) {v : Value} (hv : (fs (M a))[k]? = some v) (hd : decode cc pc = .ok (.getfield i, 3))
    (kk : AW p l e R s m args below meth c Q G ad cs nL (pc + 3) lv (v :: st) M) : AW p l e R s m args below meth c Q G ad cs nL pc lv (.ref (ad a) :: st) M := by
  intro H locs ls hP hS hl0
  have he : (wsO ad cs M)[a]? = some (ad a, .inr (ci, fs (M a))) := by rw [wsO_get ad cs M ho.1, ho.2]
  have h1 : (T k).1 = ref := congrArg (fun q => q.1) hT
  have h2 : (T k).2.1 = nm := congrArg (fun q => q.2.1) hT
  have h3 : (T k).2.2.1 = ds := congrArg (fun q => q.2.2.1) hT
  exact va_get (ref := ref) F.1 F.2.1 F.2.2.2.2.1 hin F.2.2.2.1 F.2.2.2.2.2.1 hP a he hc k hk (by rw [h2, h3]; exact F.2.2.2.2.1 _ hl) (fun x hx => by rw [h1] at hx; exact hx) hv hd (kk H locs ls hP hS hl0)
theorem ax_put (F : Fx G ad cs zk zv p m meth c cc nL ret s args own) {a ci i : Nat} {fs : (Nat → Int32) → List Value} {C ref nm ds : String} {T : u_T} {N : Nat} (ho : isOb ad cs a ci fs) (hc : vwCl[ci]? = some (C, T, N)) (hin : ∀ w ∈ u_ws C T N, w ∈ tg) (ty0 : Nat → FieldType) (hty : ∀ k, k < N → parseFieldDescriptor (T k).2.2.1 = some (ty0 k)) (hnm : ∀ a, a < N → ∀ b, b < N → a ≠ b → (T a).2.1 ≠ (T b).2.1) (k : Nat) (hk : k < N) (hT : T k = (ref, nm, ds, false)) (hl : Cond.fieldLink own i ref nm ds ∈ tg) {x : Int32} {ty : FieldType} (hds : parseFieldDescriptor ds = some ty) (hn : narrow ty (.int x) = .int x) (hfit : fits ty (.int x) = true) (hlen : k < (fs (M a)).length) (hs : (fs (M a)).set k (.int x) = fs (upd (M a) k x)) (hd : decode cc pc = .ok (.putfield i, 3))
    (kk : AW p l e R s m args below meth c Q G ad cs nL (pc + 3) lv st (up2 M a k x)) : AW p l e R s m args below meth c Q G ad cs nL pc lv (.int x :: .ref (ad a) :: st) M := by
  intro H locs ls hP hS hl0
  have he : (wsO ad cs M)[a]? = some (ad a, .inr (ci, fs (M a))) := by rw [wsO_get ad cs M ho.1, ho.2]
  have h1 : (T k).1 = ref := congrArg (fun q => q.1) hT
  have h2 : (T k).2.1 = nm := congrArg (fun q => q.2.1) hT
  have h3 : (T k).2.2.1 = ds := congrArg (fun q => q.2.2.1) hT
  have h4 : (T k).2.2.2 = false := congrArg (fun q => q.2.2.2) hT
  refine va_put (ref := ref) (ty := ty) F.1 F.2.1 F.2.2.2.2.1 hin ty0 hty hnm F.2.2.2.1 F.2.2.2.2.2.1 hP (wsO_D F.2.2.2.2.2.2.1) hS a he hc k hk (by rw [h2, h3]; exact F.2.2.2.2.1 _ hl) (fun x hx => by rw [h1] at hx; exact hx) h4 (by rw [h3]; exact hds) hn hfit hlen hd (fun H1 locs1 hP1 _ hS1 => ?_)
  rw [wsO_set ad cs M (upd (M a) k x) ho.1 (by rw [ho.2, hs])] at hP1
  exact kk H1 locs1 ls hP1 hS1 hl0
theorem ax_iald (F : Fx G ad cs zk zv p m meth c cc nL ret s args own) {a n : Nat} (ho : isAr ad cs a 0 n) {i : Int32} (hi : okI i n = true) (hd : decode cc pc = .ok (.iaload, 1))
    (kk : AW p l e R s m args below meth c Q G ad cs nL (pc + 1) lv (.int (M a (ix i)) :: st) M) : AW p l e R s m args below meth c Q G ad cs nL pc lv (.int i :: .ref (ad a) :: st) M := by
  intro H locs ls hP hS hl0
  have he : (wsO ad cs M)[a]? = some (ad a, .inl (cs 0, n, .inl (M a))) := by rw [wsO_get ad cs M ho.1, ho.2]
  exact va_iald F.1 F.2.1 F.2.2.2.2.2.1 hP a 0 he rfl (okI_in hi) hd (kk H locs ls hP hS hl0)
theorem ax_zald (F : Fx G ad cs zk zv p m meth c cc nL ret s args own) {a n : Nat} (ho : isAr ad cs a 1 n) {i : Int32} (hi : okI i n = true) (hd : decode cc pc = .ok (.baload, 1))
    (kk : AW p l e R s m args below meth c Q G ad cs nL (pc + 1) lv (.int (M a (ix i)) :: st) M) : AW p l e R s m args below meth c Q G ad cs nL pc lv (.int i :: .ref (ad a) :: st) M := by
  intro H locs ls hP hS hl0
  have he : (wsO ad cs M)[a]? = some (ad a, .inl (cs 1, n, .inl (M a))) := by rw [wsO_get ad cs M ho.1, ho.2]
  exact va_zald F.1 F.2.1 F.2.2.2.2.2.1 hP a 1 he rfl (okI_in hi) hd (kk H locs ls hP hS hl0)
theorem ax_iast (F : Fx G ad cs zk zv p m meth c cc nL ret s args own) {a n : Nat} (ho : isAr ad cs a 0 n) {i x : Int32} (hi : okI i n = true) (hd : decode cc pc = .ok (.iastore, 1))
    (kk : AW p l e R s m args below meth c Q G ad cs nL (pc + 1) lv st (up2 M a (ix i) x)) : AW p l e R s m args below meth c Q G ad cs nL pc lv (.int x :: .int i :: .ref (ad a) :: st) M := by
  intro H locs ls hP hS hl0
  have he : (wsO ad cs M)[a]? = some (ad a, .inl (cs 0, n, .inl (M a))) := by rw [wsO_get ad cs M ho.1, ho.2]
  refine va_iast F.1 F.2.1 F.2.2.2.2.2.1 hP (wsO_D F.2.2.2.2.2.2.1) hS a 0 he rfl (okI_in hi) hd (fun H1 locs1 hP1 _ hS1 => ?_)
  rw [wsO_set ad cs M (upd (M a) i.toNatClampNeg x) ho.1 (by rw [ho.2])] at hP1
  exact kk H1 locs1 ls hP1 hS1 hl0
theorem nar_z {x : Int32} (h : okZ x = true) : narrow .boolean (.int x) = .int x := by
  rcases okZ_or h with rfl | rfl <;> decide
theorem fit_z {x : Int32} (h : okZ x = true) : fits .boolean (.int x) = true := by
  rcases okZ_or h with rfl | rfl <;> decide
theorem ax_zast (F : Fx G ad cs zk zv p m meth c cc nL ret s args own) {a n : Nat} (ho : isAr ad cs a 1 n) {i x : Int32} (hi : okI i n = true) (hz : okZ x = true) (hd : decode cc pc = .ok (.bastore, 1))
    (kk : AW p l e R s m args below meth c Q G ad cs nL (pc + 1) lv st (up2 M a (ix i) x)) : AW p l e R s m args below meth c Q G ad cs nL pc lv (.int x :: .int i :: .ref (ad a) :: st) M := by
  intro H locs ls hP hS hl0
  have he : (wsO ad cs M)[a]? = some (ad a, .inl (cs 1, n, .inl (M a))) := by rw [wsO_get ad cs M ho.1, ho.2]
  refine va_zast F.1 F.2.1 F.2.2.2.2.2.1 hP (wsO_D F.2.2.2.2.2.2.1) hS a 1 he rfl (okI_in hi) hd (fun H1 locs1 hP1 _ hS1 => ?_)
  have hx : vp_nar .boolean x = x := by unfold vp_nar; rw [nar_z hz]
  rw [hx, wsO_set ad cs M (upd (M a) i.toNatClampNeg x) ho.1 (by rw [ho.2])] at hP1
  exact kk H1 locs1 ls hP1 hS1 hl0
theorem ax_aald (F : Fx G ad cs zk zv p m meth c cc nL ret s args own) {a t n : Nat} {f : Nat → Nat} {C : String} (ho : isRf ad cs a t n f) (ht : (tys cs)[t]? = some (cs t, .object C)) {i : Int32} (hi : okI i n = true) (hd : decode cc pc = .ok (.aaload, 1))
    (kk : AW p l e R s m args below meth c Q G ad cs nL (pc + 1) lv (.ref (ad (f (ix i))) :: st) M) : AW p l e R s m args below meth c Q G ad cs nL pc lv (.int i :: .ref (ad a) :: st) M := by
  intro H locs ls hP hS hl0
  have he : (wsO ad cs M)[a]? = some (ad a, .inl (cs t, n, rfs (fun j => ad (f j)))) := by rw [wsO_get ad cs M ho.1, ho.2]
  exact va_aldq F.1 F.2.1 F.2.2.2.2.2.1 hP a t he ht (okI_in hi) hd (kk H locs ls hP hS hl0)
theorem ax_iret (F : Fx G ad cs zk zv p m meth c cc nL (some .int) s args own) {v : Int32} (hd : decode cc pc = .ok (.ireturn, 1)) :
    AW p l e R s m args below meth c (MQ below (AQi G ad cs v M) args s 0 0 (inA ad)) G ad cs nL pc lv [.int v] M := by
  intro H locs ls hP hS hl0
  have hlocks : meth.locks = false := F.2.2.2.2.2.2.2.2.2
  exact W.iret F.1 F.2.1 F.2.2.2.2.2.2.2.2.1 (fun t ht hW => ⟨⟨v, (), rfl, rfl, by show va_P _ _ _ t.heap; rw [ht]; exact hP⟩, hS.F ht⟩) hS.2.2 hd
theorem ax_zret (F : Fx G ad cs zk zv p m meth c cc nL (some .boolean) s args own) {v : Int32} (hz : okZ v = true) (hd : decode cc pc = .ok (.ireturn, 1)) :
    AW p l e R s m args below meth c (MQ below (AQi G ad cs v M) args s 0 0 (inA ad)) G ad cs nL pc lv [.int v] M := by
  intro H locs ls hP hS hl0
  have hlocks : meth.locks = false := F.2.2.2.2.2.2.2.2.2
  exact W.zret F.1 F.2.1 F.2.2.2.2.2.2.2.2.1 (nar_z hz) (fun t ht hW => ⟨⟨v, (), rfl, rfl, by show va_P _ _ _ t.heap; rw [ht]; exact hP⟩, hS.F ht⟩) hS.2.2 hd
theorem ax_vret (F : Fx G ad cs zk zv p m meth c cc nL none s args own) (hd : decode cc pc = .ok (.return_, 1)) :
    AW p l e R s m args below meth c (MQ below (AQv G ad cs M) args s 0 0 (inA ad)) G ad cs nL pc lv [] M := by
  intro H locs ls hP hS hl0
  have hlocks : meth.locks = false := F.2.2.2.2.2.2.2.2.2
  exact W.vret F.1 F.2.1 F.2.2.2.2.2.2.2.2.1 (fun t ht hW => ⟨⟨(), rfl, trivial, by show va_P _ _ _ t.heap; rw [ht]; exact hP⟩, hS.F ht⟩) hS.2.2 hd
theorem Fx.fix (F : Fx G ad cs zk zv p m meth c cc nL ret s args own) : CallFix p m c cc nL s args tg own := ⟨F.1, F.2.1, F.2.2.1, F.2.2.2.1, F.2.2.2.2.1⟩
/-- what a callee's name must be, and its room -/
def okC (R : Room) (y : MethodName) (maxL n : Nat) (rm : Room) : Prop := (y.cls ≠ "java/lang/invoke/MethodHandle" ∧ y.cls ≠ "java/lang/invoke/VarHandle" ∧ (parseMethodDescriptor y.desc).map (fun d => d.parameters.length) = some n) ∧ rm.cells = 0 ∧ rm.slots = 0 ∧ rm.frames + 1 ≤ R.frames ∧ 8 + (maxL + 11) + rm.locals ≤ R.locals
theorem ax_cB (F : Fx G ad cs zk zv p m meth c cc nL ret s args own) {y : MethodName} {by' : ByteArray} {maxL n i : Nat} {ry : Option FieldType} {rm : Room} (hk : Cond.code y by' maxL ry ∈ tg) (hz : Cond.initialized y.cls ∈ tg) (hl : Cond.methodLink own i y ∈ tg) (ho : okC R y maxL n rm) : CallB R s args own i y by' maxL ry (tgW y by' maxL ry) rm 0 0 n :=
  callB_of n F.2.2.2.2.1 (tg_good hk) rfl ho.2.1 ho.2.2.1 (F.2.2.2.2.1 _ hz) (F.2.2.2.2.1 _ hl) ho.1 ho.2.2.2
theorem ax_pre (F : Fx G ad cs zk zv p m meth c cc nL ret s args own) {H : Heap} {locs : List Loc} {avs : List Value} (hP : va_P G vwCl (wsO ad cs M) H) (hS : va_S (inA ad) s.heap H locs) : ∀ U : State, U.heap = H → s.WarmedH U.vm → APre G ad cs zk zv avs M avs.toArray U :=
  fun U hU hW => ⟨rfl, by rw [hU]; exact hP, va_K.moved hW.alike F.2.2.2.2.2.1, F.2.2.2.2.2.2.2.1.move hS hU hW⟩
section Calls
variable {y : MethodName} {by' : ByteArray} {maxL n i a ci : Nat} {ry : Option FieldType} {rm : Room} {As : List Value} {st0 : List Value} {fs : (Nat → Int32) → List Value} {T : u_T} {N : Nat} {r : Int32} {M' : Mm}
theorem ax_callVi (F : Fx G ad cs zk zv p m meth c cc nL ret s args own) (hM : Met l y (tgW y by' maxL ry) rm (APre G ad cs zk zv (.ref (ad a) :: As) M) (AQi G ad cs r M') 0 0 (inA ad)) (hob : isOb ad cs a ci fs) (hc : vwCl[ci]? = some (y.cls, T, N)) (hk : Cond.code y by' maxL ry ∈ tg) (hz : Cond.initialized y.cls ∈ tg) (hi : Cond.instanceMethod y ∈ tg) (hse : Cond.selects y.cls y y ∈ tg) (hl : Cond.methodLink own i y ∈ tg) (ho : okC R y maxL As.length rm) (hst : st0 = As.reverse ++ .ref (ad a) :: st) (hsum : (st.map fun v => v.category).sum ≤ 8) (hd : decode cc pc = .ok (.invokevirtual i, 3))
    (kk : AW p l e R s m args below meth c Q G ad cs nL (pc + 3) lv (.int r :: st) M') : AW p l e R s m args below meth c Q G ad cs nL pc lv st0 M := by
  intro H locs ls hP hS hl0
  have he : (wsO ad cs M)[a]? = some (ad a, .inr (ci, fs (M a))) := by rw [wsO_get ad cs M hob.1, hob.2]
  refine va_calli (va_runV F.fix hM ⟨ax_cB F hk hz hl ho, F.2.2.2.2.1 _ hi, F.2.2.2.2.1 _ hse⟩ ⟨APre.blind, va_recv F.2.2.2.2.2.1 hP hc he, ax_pre F hP hS⟩ rfl rfl hl0.1 hst (lv_room hsum) hd ⟨Nat.zero_le _, Nat.zero_le _⟩) hS (fun _ _ h => h) (fun _ h => h) (fun r' u t H1 locs1 ht hvm hw hB hz1 hk1 hS1 => ?_)
  subst hw
  have hB : va_P G vwCl (wsO ad cs M') t.heap := hB
  rw [ht] at hB
  exact kk H1 locs1 ls hB hS1 hl0
theorem ax_callVv (F : Fx G ad cs zk zv p m meth c cc nL ret s args own) (hM : Met l y (tgW y by' maxL ry) rm (APre G ad cs zk zv (.ref (ad a) :: As) M) (AQv G ad cs M') 0 0 (inA ad)) (hob : isOb ad cs a ci fs) (hc : vwCl[ci]? = some (y.cls, T, N)) (hk : Cond.code y by' maxL ry ∈ tg) (hz : Cond.initialized y.cls ∈ tg) (hi : Cond.instanceMethod y ∈ tg) (hse : Cond.selects y.cls y y ∈ tg) (hl : Cond.methodLink own i y ∈ tg) (ho : okC R y maxL As.length rm) (hst : st0 = As.reverse ++ .ref (ad a) :: st) (hsum : (st.map fun v => v.category).sum ≤ 8) (hd : decode cc pc = .ok (.invokevirtual i, 3))
    (kk : AW p l e R s m args below meth c Q G ad cs nL (pc + 3) lv st M') : AW p l e R s m args below meth c Q G ad cs nL pc lv st0 M := by
  intro H locs ls hP hS hl0
  have he : (wsO ad cs M)[a]? = some (ad a, .inr (ci, fs (M a))) := by rw [wsO_get ad cs M hob.1, hob.2]
  refine va_callv (va_runV F.fix hM ⟨ax_cB F hk hz hl ho, F.2.2.2.2.1 _ hi, F.2.2.2.2.1 _ hse⟩ ⟨APre.blind, va_recv F.2.2.2.2.2.1 hP hc he, ax_pre F hP hS⟩ rfl rfl hl0.1 hst (lv_room hsum) hd ⟨Nat.zero_le _, Nat.zero_le _⟩) hS (fun _ _ h => h) (fun _ h => h) (fun u t H1 locs1 ht hvm hw hB hz1 hk1 hS1 => ?_)
  have hB : va_P G vwCl (wsO ad cs M') t.heap := hB
  rw [ht] at hB
  exact kk H1 locs1 ls hB hS1 hl0
theorem ax_callSi (F : Fx G ad cs zk zv p m meth c cc nL ret s args own) (hM : Met l y (tgW y by' maxL ry) rm (APre G ad cs zk zv As M) (AQi G ad cs r M') 0 0 (inA ad)) (hk : Cond.code y by' maxL ry ∈ tg) (hz : Cond.initialized y.cls ∈ tg) (hi : Cond.static y ∈ tg) (hl : Cond.methodLink own i y ∈ tg) (ho : okC R y maxL As.length rm) (hst : st0 = As.reverse ++ st) (hsum : (st.map fun v => v.category).sum ≤ 8) (hd : decode cc pc = .ok (.invokestatic i, 3))
    (kk : AW p l e R s m args below meth c Q G ad cs nL (pc + 3) lv (.int r :: st) M') : AW p l e R s m args below meth c Q G ad cs nL pc lv st0 M := by
  intro H locs ls hP hS hl0
  refine va_calli (va_runS F.fix hM ⟨ax_cB F hk hz hl ho, F.2.2.2.2.1 _ hi⟩ ⟨APre.blind, ax_pre F hP hS⟩ rfl rfl hl0.1 hst (lv_room hsum) hd ⟨Nat.zero_le _, Nat.zero_le _⟩) hS (fun _ _ h => h) (fun _ h => h) (fun r' u t H1 locs1 ht hvm hw hB hz1 hk1 hS1 => ?_)
  subst hw
  have hB : va_P G vwCl (wsO ad cs M') t.heap := hB
  rw [ht] at hB
  exact kk H1 locs1 ls hB hS1 hl0
theorem ax_callSv (F : Fx G ad cs zk zv p m meth c cc nL ret s args own) (hM : Met l y (tgW y by' maxL ry) rm (APre G ad cs zk zv As M) (AQv G ad cs M') 0 0 (inA ad)) (hk : Cond.code y by' maxL ry ∈ tg) (hz : Cond.initialized y.cls ∈ tg) (hi : Cond.static y ∈ tg) (hl : Cond.methodLink own i y ∈ tg) (ho : okC R y maxL As.length rm) (hst : st0 = As.reverse ++ st) (hsum : (st.map fun v => v.category).sum ≤ 8) (hd : decode cc pc = .ok (.invokestatic i, 3))
    (kk : AW p l e R s m args below meth c Q G ad cs nL (pc + 3) lv st M') : AW p l e R s m args below meth c Q G ad cs nL pc lv st0 M := by
  intro H locs ls hP hS hl0
  refine va_callv (va_runS F.fix hM ⟨ax_cB F hk hz hl ho, F.2.2.2.2.1 _ hi⟩ ⟨APre.blind, ax_pre F hP hS⟩ rfl rfl hl0.1 hst (lv_room hsum) hd ⟨Nat.zero_le _, Nat.zero_le _⟩) hS (fun _ _ h => h) (fun _ h => h) (fun u t H1 locs1 ht hvm hw hB hz1 hk1 hS1 => ?_)
  have hB : va_P G vwCl (wsO ad cs M') t.heap := hB
  rw [ht] at hB
  exact kk H1 locs1 ls hB hS1 hl0
end Calls
theorem ax_max (F : Fx G ad cs zk zv p m meth c cc nL ret s args own) {i : Nat} (hl : Cond.methodLink own i Lib.Math.max.name ∈ tg) (ht : Cond.static Lib.Math.max.name ∈ tg) (hz : Cond.initialized "java/lang/Math" ∈ tg) (hk : Cond.code Lib.Math.max.name Lib.Math.max.code 2 (some .int) ∈ tg) (hfr : 1 ≤ R.frames) (hsum : (st.map fun v => v.category).sum + 13 ≤ R.locals) {x y : Int32} (hd : decode cc pc = .ok (.invokestatic i, 3))
    (kk : AW p l e R s m args below meth c Q G ad cs nL (pc + 3) lv (.int (imax x y) :: st) M) : AW p l e R s m args below meth c Q G ad cs nL pc lv (.int y :: .int x :: st) M :=
  fun H locs ls hP hS hl0 => va_mmax F.1 F.2.1 (by rw [hl0.1]; exact F.2.2.1) F.2.2.2.1 (F.2.2.2.2.1 _ hl) (F.2.2.2.2.1 _ ht) (F.2.2.2.2.1 _ hz) (F.2.2.2.2.1 _ hk) hfr hsum (Nat.zero_le _) (Nat.zero_le _) hd (kk H locs ls hP hS hl0)
theorem ax_min (F : Fx G ad cs zk zv p m meth c cc nL ret s args own) {i : Nat} (hl : Cond.methodLink own i Lib.Math.min.name ∈ tg) (ht : Cond.static Lib.Math.min.name ∈ tg) (hz : Cond.initialized "java/lang/Math" ∈ tg) (hk : Cond.code Lib.Math.min.name Lib.Math.min.code 2 (some .int) ∈ tg) (hfr : 1 ≤ R.frames) (hsum : (st.map fun v => v.category).sum + 13 ≤ R.locals) {x y : Int32} (hd : decode cc pc = .ok (.invokestatic i, 3))
    (kk : AW p l e R s m args below meth c Q G ad cs nL (pc + 3) lv (.int (imin x y) :: st) M) : AW p l e R s m args below meth c Q G ad cs nL pc lv (.int y :: .int x :: st) M :=
  fun H locs ls hP hS hl0 => va_mmin F.1 F.2.1 (by rw [hl0.1]; exact F.2.2.1) F.2.2.2.1 (F.2.2.2.2.1 _ hl) (F.2.2.2.2.1 _ ht) (F.2.2.2.2.1 _ hz) (F.2.2.2.2.1 _ hk) hfr hsum (Nat.zero_le _) (Nat.zero_le _) hd (kk H locs ls hP hS hl0)
end Ax
/-- a method's contract out of a walk of its body -/
theorem met_of {l : Launch} {G : va_G} {ad : Nat → Nat} {cs : Nat → ClassId} {zk zv : Nat → Nat} {y : MethodName} {cc : ByteArray} {nL : Nat} {ret : Option FieldType} {rm : Room} {avs : List Value} {M : Mm} {Qc : Array Value → State → Outcome → State → Prop}
    (hy : plainName y.cls = true) (hlen : (lg_sl avs).length ≤ nL) (hinj : inj ad) (lv : List (Option Value)) (hlv : lv = enl avs ++ List.replicate (nL - (enl avs).length) none)
    (body : ∀ (p : Program) (e : Env) (s : State) (m : MethodId) (below : List Frame) (meth : Method) (c : Code), Fx G ad cs zk zv p m meth c cc nL ret s avs.toArray y.cls → AW p l e rm s m avs.toArray below meth c (MQ below Qc avs.toArray s 0 0 (inA ad)) G ad cs nL 0 lv [] M) :
    Met l y (tgW y cc nL ret) rm (APre G ad cs zk zv avs M) Qc 0 0 (inA ad) := by
  refine Met.ofW (cc := cc) (maxL := nL) (ret := ret) hy rfl ?_
  intro p e s m args below meth c s₁ B hml hv
  obtain ⟨rfl, hP, hK, hZ⟩ := hv
  have hts := atoms_spec (ws := tgW y cc nL ret) B.pre
  have hown : s.vm.findClass y.cls = some m.cls := findClass_of_methodNamed B.named
  have F : Fx G ad cs zk zv p m meth c cc nL ret s avs.toArray y.cls := ⟨B.exec, B.bytes, hml, hown, fun w hw => hts w (List.mem_cons_of_mem _ hw), hK, hinj, hZ, B.returns, B.notSynchronized⟩
  have hl := lv_entry avs (n := nL) hlen
  rw [lg_entry_eq]
  refine body p e s m below meth c F s.heap [] _ hP va_S.rf ⟨hl.1, hl.2.1, fun i v hi => ?_⟩
  subst hlv
  have h1 : (enl avs)[i]? = some (some v) := by
    rw [List.getElem?_append] at hi
    split at hi
    · exact hi
    · rw [List.getElem?_replicate] at hi
      split at hi <;> simp at hi
  have h2 := enl_args avs 0 i v h1
  rw [Nat.zero_add] at h2
  exact hl.2.2 (i, v) h2
end
