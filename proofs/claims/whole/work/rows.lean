section
-- ===== PART A: goes FIRST, ahead of the names: the tables' words, and 'selects' of the private methods out of them =====
/-- a private method of a class that the tables say can be made, by its rows of tables_1 -/
def lw_okq (q : MethodName × Nat) : Prop := (q.1.cls ≠ "java/lang/invoke/MethodHandle" ∧ q.1.cls ≠ "java/lang/invoke/VarHandle") ∧ Cond.instantiable q.1.cls q.2 ∈ tables_1 ∧ Cond.privateMethod q.1 ∈ tables_1 ∧ Cond.instanceMethod q.1 ∈ tables_1
theorem lw_p0 : lw_okq (⟨"WheelTickets$Teller", "takeLine", "(LWheelTickets$Tape;LWheelTickets$Wheel;)Z"⟩, 7) := ⟨⟨by decide +kernel, by decide +kernel⟩, List.mem_of_getElem? (i := 152) (by decide +kernel), List.mem_of_getElem? (i := 262) (by decide +kernel), List.mem_of_getElem? (i := 263) (by decide +kernel)⟩
theorem lw_p1 : lw_okq (⟨"WheelTickets$Tape", "passBlanks", "()V"⟩, 6) := ⟨⟨by decide +kernel, by decide +kernel⟩, List.mem_of_getElem? (i := 121) (by decide +kernel), List.mem_of_getElem? (i := 270) (by decide +kernel), List.mem_of_getElem? (i := 271) (by decide +kernel)⟩
theorem lw_p2 : lw_okq (⟨"WheelTickets$Tape", "passLetters", "()V"⟩, 6) := ⟨⟨by decide +kernel, by decide +kernel⟩, List.mem_of_getElem? (i := 121) (by decide +kernel), List.mem_of_getElem? (i := 274) (by decide +kernel), List.mem_of_getElem? (i := 275) (by decide +kernel)⟩
theorem lw_p3 : lw_okq (⟨"WheelTickets$Tape", "numberToken", "()I"⟩, 6) := ⟨⟨by decide +kernel, by decide +kernel⟩, List.mem_of_getElem? (i := 121) (by decide +kernel), List.mem_of_getElem? (i := 278) (by decide +kernel), List.mem_of_getElem? (i := 279) (by decide +kernel)⟩
theorem lw_p4 : lw_okq (⟨"WheelTickets$Teller", "blame", "(II)Z"⟩, 7) := ⟨⟨by decide +kernel, by decide +kernel⟩, List.mem_of_getElem? (i := 152) (by decide +kernel), List.mem_of_getElem? (i := 282) (by decide +kernel), List.mem_of_getElem? (i := 283) (by decide +kernel)⟩
theorem lw_p5 : lw_okq (⟨"WheelTickets$Teller", "toldAlready", "(ILWheelTickets$Wheel;)I"⟩, 7) := ⟨⟨by decide +kernel, by decide +kernel⟩, List.mem_of_getElem? (i := 152) (by decide +kernel), List.mem_of_getElem? (i := 351) (by decide +kernel), List.mem_of_getElem? (i := 352) (by decide +kernel)⟩
theorem lw_p6 : lw_okq (⟨"WheelTickets$Teller", "takeNumbers", "(LWheelTickets$Tape;I)Z"⟩, 7) := ⟨⟨by decide +kernel, by decide +kernel⟩, List.mem_of_getElem? (i := 152) (by decide +kernel), List.mem_of_getElem? (i := 355) (by decide +kernel), List.mem_of_getElem? (i := 356) (by decide +kernel)⟩
theorem lw_p7 : lw_okq (⟨"WheelTickets$Teller", "take", "(LWheelTickets$Tape;I)Z"⟩, 7) := ⟨⟨by decide +kernel, by decide +kernel⟩, List.mem_of_getElem? (i := 152) (by decide +kernel), List.mem_of_getElem? (i := 362) (by decide +kernel), List.mem_of_getElem? (i := 363) (by decide +kernel)⟩
theorem lw_p8 : lw_okq (⟨"WheelTickets$Teller", "put", "(ILWheelTickets$Wheel;)V"⟩, 7) := ⟨⟨by decide +kernel, by decide +kernel⟩, List.mem_of_getElem? (i := 152) (by decide +kernel), List.mem_of_getElem? (i := 369) (by decide +kernel), List.mem_of_getElem? (i := 370) (by decide +kernel)⟩
theorem lw_p9 : lw_okq (⟨"WheelTickets$Teller", "tellBehindAll", "(ILWheelTickets$Wheel;)Z"⟩, 7) := ⟨⟨by decide +kernel, by decide +kernel⟩, List.mem_of_getElem? (i := 152) (by decide +kernel), List.mem_of_getElem? (i := 386) (by decide +kernel), List.mem_of_getElem? (i := 387) (by decide +kernel)⟩
theorem lw_p10 : lw_okq (⟨"WheelTickets$Wheel", "sharedOut", "(IIII)I"⟩, 10) := ⟨⟨by decide +kernel, by decide +kernel⟩, List.mem_of_getElem? (i := 25) (by decide +kernel), List.mem_of_getElem? (i := 430) (by decide +kernel), List.mem_of_getElem? (i := 431) (by decide +kernel)⟩
theorem lw_p11 : lw_okq (⟨"WheelTickets$Rest", "weigh", "(LWheelTickets$Wheel;I)V"⟩, 11) := ⟨⟨by decide +kernel, by decide +kernel⟩, List.mem_of_getElem? (i := 80) (by decide +kernel), List.mem_of_getElem? (i := 555) (by decide +kernel), List.mem_of_getElem? (i := 556) (by decide +kernel)⟩
theorem lw_p12 : lw_okq (⟨"WheelTickets$Rest", "look", "(LWheelTickets$Wheel;)V"⟩, 11) := ⟨⟨by decide +kernel, by decide +kernel⟩, List.mem_of_getElem? (i := 80) (by decide +kernel), List.mem_of_getElem? (i := 559) (by decide +kernel), List.mem_of_getElem? (i := 560) (by decide +kernel)⟩
theorem lw_p13 : lw_okq (⟨"WheelTickets$Rest", "gain", "(III)I"⟩, 11) := ⟨⟨by decide +kernel, by decide +kernel⟩, List.mem_of_getElem? (i := 80) (by decide +kernel), List.mem_of_getElem? (i := 589) (by decide +kernel), List.mem_of_getElem? (i := 590) (by decide +kernel)⟩
theorem lw_p14 : lw_okq (⟨"WheelTickets$Rest", "isSolid", "(LWheelTickets$Wheel;II)Z"⟩, 11) := ⟨⟨by decide +kernel, by decide +kernel⟩, List.mem_of_getElem? (i := 80) (by decide +kernel), List.mem_of_getElem? (i := 610) (by decide +kernel), List.mem_of_getElem? (i := 611) (by decide +kernel)⟩
theorem lw_p15 : lw_okq (⟨"WheelTickets$Rest", "leastOf", "([II)I"⟩, 11) := ⟨⟨by decide +kernel, by decide +kernel⟩, List.mem_of_getElem? (i := 80) (by decide +kernel), List.mem_of_getElem? (i := 622) (by decide +kernel), List.mem_of_getElem? (i := 623) (by decide +kernel)⟩
def lw_privs_1 : List (MethodName × Nat) := [(⟨"WheelTickets$Teller", "takeLine", "(LWheelTickets$Tape;LWheelTickets$Wheel;)Z"⟩, 7), (⟨"WheelTickets$Tape", "passBlanks", "()V"⟩, 6), (⟨"WheelTickets$Tape", "passLetters", "()V"⟩, 6), (⟨"WheelTickets$Tape", "numberToken", "()I"⟩, 6), (⟨"WheelTickets$Teller", "blame", "(II)Z"⟩, 7), (⟨"WheelTickets$Teller", "toldAlready", "(ILWheelTickets$Wheel;)I"⟩, 7), (⟨"WheelTickets$Teller", "takeNumbers", "(LWheelTickets$Tape;I)Z"⟩, 7), (⟨"WheelTickets$Teller", "take", "(LWheelTickets$Tape;I)Z"⟩, 7), (⟨"WheelTickets$Teller", "put", "(ILWheelTickets$Wheel;)V"⟩, 7), (⟨"WheelTickets$Teller", "tellBehindAll", "(ILWheelTickets$Wheel;)Z"⟩, 7), (⟨"WheelTickets$Wheel", "sharedOut", "(IIII)I"⟩, 10), (⟨"WheelTickets$Rest", "weigh", "(LWheelTickets$Wheel;I)V"⟩, 11), (⟨"WheelTickets$Rest", "look", "(LWheelTickets$Wheel;)V"⟩, 11), (⟨"WheelTickets$Rest", "gain", "(III)I"⟩, 11), (⟨"WheelTickets$Rest", "isSolid", "(LWheelTickets$Wheel;II)Z"⟩, 11), (⟨"WheelTickets$Rest", "leastOf", "([II)I"⟩, 11)]
theorem lw_r1 : ∀ q ∈ lw_privs_1, lw_okq q := List.forall_mem_cons.mpr ⟨lw_p0, List.forall_mem_cons.mpr ⟨lw_p1, List.forall_mem_cons.mpr ⟨lw_p2, List.forall_mem_cons.mpr ⟨lw_p3, List.forall_mem_cons.mpr ⟨lw_p4, List.forall_mem_cons.mpr ⟨lw_p5, List.forall_mem_cons.mpr ⟨lw_p6, List.forall_mem_cons.mpr ⟨lw_p7, List.forall_mem_cons.mpr ⟨lw_p8, List.forall_mem_cons.mpr ⟨lw_p9, List.forall_mem_cons.mpr ⟨lw_p10, List.forall_mem_cons.mpr ⟨lw_p11, List.forall_mem_cons.mpr ⟨lw_p12, List.forall_mem_cons.mpr ⟨lw_p13, List.forall_mem_cons.mpr ⟨lw_p14, List.forall_mem_cons.mpr ⟨lw_p15, fun _ h => absurd h List.not_mem_nil⟩⟩⟩⟩⟩⟩⟩⟩⟩⟩⟩⟩⟩⟩⟩⟩
theorem lw_p16 : lw_okq (⟨"WheelTickets$Rest", "mostOf", "([II)I"⟩, 11) := ⟨⟨by decide +kernel, by decide +kernel⟩, List.mem_of_getElem? (i := 80) (by decide +kernel), List.mem_of_getElem? (i := 633) (by decide +kernel), List.mem_of_getElem? (i := 634) (by decide +kernel)⟩
theorem lw_p17 : lw_okq (⟨"WheelTickets$Rest", "ordersThatFit", "(LWheelTickets$Wheel;I)I"⟩, 11) := ⟨⟨by decide +kernel, by decide +kernel⟩, List.mem_of_getElem? (i := 80) (by decide +kernel), List.mem_of_getElem? (i := 696) (by decide +kernel), List.mem_of_getElem? (i := 697) (by decide +kernel)⟩
theorem lw_p18 : lw_okq (⟨"WheelTickets$Rest", "isAsSeen", "(LWheelTickets$Wheel;II)Z"⟩, 11) := ⟨⟨by decide +kernel, by decide +kernel⟩, List.mem_of_getElem? (i := 80) (by decide +kernel), List.mem_of_getElem? (i := 700) (by decide +kernel), List.mem_of_getElem? (i := 701) (by decide +kernel)⟩
theorem lw_p19 : lw_okq (⟨"WheelTicketsModel", "firstDraft", "()V"⟩, 37) := ⟨⟨by decide +kernel, by decide +kernel⟩, List.mem_of_getElem? (i := 787) (by decide +kernel), List.mem_of_getElem? (i := 793) (by decide +kernel), List.mem_of_getElem? (i := 794) (by decide +kernel)⟩
theorem lw_p20 : lw_okq (⟨"WheelTicketsModel", "keepDraft", "()V"⟩, 37) := ⟨⟨by decide +kernel, by decide +kernel⟩, List.mem_of_getElem? (i := 787) (by decide +kernel), List.mem_of_getElem? (i := 797) (by decide +kernel), List.mem_of_getElem? (i := 798) (by decide +kernel)⟩
theorem lw_p21 : lw_okq (⟨"WheelTicketsModel", "next", "()V"⟩, 37) := ⟨⟨by decide +kernel, by decide +kernel⟩, List.mem_of_getElem? (i := 787) (by decide +kernel), List.mem_of_getElem? (i := 930) (by decide +kernel), List.mem_of_getElem? (i := 931) (by decide +kernel)⟩
theorem lw_p22 : lw_okq (⟨"WheelTicketsModel", "byteAt", "(I)I"⟩, 37) := ⟨⟨by decide +kernel, by decide +kernel⟩, List.mem_of_getElem? (i := 787) (by decide +kernel), List.mem_of_getElem? (i := 934) (by decide +kernel), List.mem_of_getElem? (i := 935) (by decide +kernel)⟩
theorem lw_p23 : lw_okq (⟨"WheelTicketsModel", "needs", "(ZI)V"⟩, 37) := ⟨⟨by decide +kernel, by decide +kernel⟩, List.mem_of_getElem? (i := 787) (by decide +kernel), List.mem_of_getElem? (i := 942) (by decide +kernel), List.mem_of_getElem? (i := 943) (by decide +kernel)⟩
theorem lw_p24 : lw_okq (⟨"WheelTicketsModel", "readLine", "()V"⟩, 37) := ⟨⟨by decide +kernel, by decide +kernel⟩, List.mem_of_getElem? (i := 787) (by decide +kernel), List.mem_of_getElem? (i := 946) (by decide +kernel), List.mem_of_getElem? (i := 947) (by decide +kernel)⟩
theorem lw_p25 : lw_okq (⟨"WheelTicketsModel", "lineNow", "()I"⟩, 37) := ⟨⟨by decide +kernel, by decide +kernel⟩, List.mem_of_getElem? (i := 787) (by decide +kernel), List.mem_of_getElem? (i := 950) (by decide +kernel), List.mem_of_getElem? (i := 951) (by decide +kernel)⟩
theorem lw_p26 : lw_okq (⟨"WheelTicketsModel", "is", "(IIII)Z"⟩, 37) := ⟨⟨by decide +kernel, by decide +kernel⟩, List.mem_of_getElem? (i := 787) (by decide +kernel), List.mem_of_getElem? (i := 954) (by decide +kernel), List.mem_of_getElem? (i := 955) (by decide +kernel)⟩
theorem lw_p27 : lw_okq (⟨"WheelTicketsModel", "hasEnd", "(IIII)Z"⟩, 37) := ⟨⟨by decide +kernel, by decide +kernel⟩, List.mem_of_getElem? (i := 787) (by decide +kernel), List.mem_of_getElem? (i := 958) (by decide +kernel), List.mem_of_getElem? (i := 959) (by decide +kernel)⟩
theorem lw_p28 : lw_okq (⟨"WheelTicketsModel", "hasRoom", "(I)Z"⟩, 37) := ⟨⟨by decide +kernel, by decide +kernel⟩, List.mem_of_getElem? (i := 787) (by decide +kernel), List.mem_of_getElem? (i := 962) (by decide +kernel), List.mem_of_getElem? (i := 963) (by decide +kernel)⟩
theorem lw_p29 : lw_okq (⟨"WheelTicketsModel", "readLineOf", "(I)V"⟩, 37) := ⟨⟨by decide +kernel, by decide +kernel⟩, List.mem_of_getElem? (i := 787) (by decide +kernel), List.mem_of_getElem? (i := 966) (by decide +kernel), List.mem_of_getElem? (i := 967) (by decide +kernel)⟩
theorem lw_p30 : lw_okq (⟨"WheelTicketsModel", "readNumber", "(II)I"⟩, 37) := ⟨⟨by decide +kernel, by decide +kernel⟩, List.mem_of_getElem? (i := 787) (by decide +kernel), List.mem_of_getElem? (i := 970) (by decide +kernel), List.mem_of_getElem? (i := 971) (by decide +kernel)⟩
theorem lw_p31 : lw_okq (⟨"WheelTicketsModel", "readTicket", "(I)V"⟩, 37) := ⟨⟨by decide +kernel, by decide +kernel⟩, List.mem_of_getElem? (i := 787) (by decide +kernel), List.mem_of_getElem? (i := 974) (by decide +kernel), List.mem_of_getElem? (i := 975) (by decide +kernel)⟩
def lw_privs_2 : List (MethodName × Nat) := [(⟨"WheelTickets$Rest", "mostOf", "([II)I"⟩, 11), (⟨"WheelTickets$Rest", "ordersThatFit", "(LWheelTickets$Wheel;I)I"⟩, 11), (⟨"WheelTickets$Rest", "isAsSeen", "(LWheelTickets$Wheel;II)Z"⟩, 11), (⟨"WheelTicketsModel", "firstDraft", "()V"⟩, 37), (⟨"WheelTicketsModel", "keepDraft", "()V"⟩, 37), (⟨"WheelTicketsModel", "next", "()V"⟩, 37), (⟨"WheelTicketsModel", "byteAt", "(I)I"⟩, 37), (⟨"WheelTicketsModel", "needs", "(ZI)V"⟩, 37), (⟨"WheelTicketsModel", "readLine", "()V"⟩, 37), (⟨"WheelTicketsModel", "lineNow", "()I"⟩, 37), (⟨"WheelTicketsModel", "is", "(IIII)Z"⟩, 37), (⟨"WheelTicketsModel", "hasEnd", "(IIII)Z"⟩, 37), (⟨"WheelTicketsModel", "hasRoom", "(I)Z"⟩, 37), (⟨"WheelTicketsModel", "readLineOf", "(I)V"⟩, 37), (⟨"WheelTicketsModel", "readNumber", "(II)I"⟩, 37), (⟨"WheelTicketsModel", "readTicket", "(I)V"⟩, 37)]
theorem lw_r2 : ∀ q ∈ lw_privs_2, lw_okq q := List.forall_mem_cons.mpr ⟨lw_p16, List.forall_mem_cons.mpr ⟨lw_p17, List.forall_mem_cons.mpr ⟨lw_p18, List.forall_mem_cons.mpr ⟨lw_p19, List.forall_mem_cons.mpr ⟨lw_p20, List.forall_mem_cons.mpr ⟨lw_p21, List.forall_mem_cons.mpr ⟨lw_p22, List.forall_mem_cons.mpr ⟨lw_p23, List.forall_mem_cons.mpr ⟨lw_p24, List.forall_mem_cons.mpr ⟨lw_p25, List.forall_mem_cons.mpr ⟨lw_p26, List.forall_mem_cons.mpr ⟨lw_p27, List.forall_mem_cons.mpr ⟨lw_p28, List.forall_mem_cons.mpr ⟨lw_p29, List.forall_mem_cons.mpr ⟨lw_p30, List.forall_mem_cons.mpr ⟨lw_p31, fun _ h => absurd h List.not_mem_nil⟩⟩⟩⟩⟩⟩⟩⟩⟩⟩⟩⟩⟩⟩⟩⟩
theorem lw_p32 : lw_okq (⟨"WheelTicketsModel", "readPerson", "()I"⟩, 37) := ⟨⟨by decide +kernel, by decide +kernel⟩, List.mem_of_getElem? (i := 787) (by decide +kernel), List.mem_of_getElem? (i := 978) (by decide +kernel), List.mem_of_getElem? (i := 979) (by decide +kernel)⟩
theorem lw_p33 : lw_okq (⟨"WheelTicketsModel", "drawsCome", "()V"⟩, 37) := ⟨⟨by decide +kernel, by decide +kernel⟩, List.mem_of_getElem? (i := 787) (by decide +kernel), List.mem_of_getElem? (i := 982) (by decide +kernel), List.mem_of_getElem? (i := 983) (by decide +kernel)⟩
theorem lw_p34 : lw_okq (⟨"WheelTicketsModel", "isInWheel", "(I)Z"⟩, 37) := ⟨⟨by decide +kernel, by decide +kernel⟩, List.mem_of_getElem? (i := 787) (by decide +kernel), List.mem_of_getElem? (i := 986) (by decide +kernel), List.mem_of_getElem? (i := 987) (by decide +kernel)⟩
theorem lw_p35 : lw_okq (⟨"WheelTicketsModel", "of", "(II)I"⟩, 37) := ⟨⟨by decide +kernel, by decide +kernel⟩, List.mem_of_getElem? (i := 787) (by decide +kernel), List.mem_of_getElem? (i := 990) (by decide +kernel), List.mem_of_getElem? (i := 991) (by decide +kernel)⟩
theorem lw_p36 : lw_okq (⟨"WheelTicketsModel", "draws", "(III)V"⟩, 37) := ⟨⟨by decide +kernel, by decide +kernel⟩, List.mem_of_getElem? (i := 787) (by decide +kernel), List.mem_of_getElem? (i := 994) (by decide +kernel), List.mem_of_getElem? (i := 995) (by decide +kernel)⟩
theorem lw_p37 : lw_okq (⟨"WheelTicketsModel", "pays", "(III)V"⟩, 37) := ⟨⟨by decide +kernel, by decide +kernel⟩, List.mem_of_getElem? (i := 787) (by decide +kernel), List.mem_of_getElem? (i := 998) (by decide +kernel), List.mem_of_getElem? (i := 999) (by decide +kernel)⟩
theorem lw_p38 : lw_okq (⟨"WheelTicketsModel", "findLeft", "()V"⟩, 37) := ⟨⟨by decide +kernel, by decide +kernel⟩, List.mem_of_getElem? (i := 787) (by decide +kernel), List.mem_of_getElem? (i := 1010) (by decide +kernel), List.mem_of_getElem? (i := 1011) (by decide +kernel)⟩
theorem lw_p39 : lw_okq (⟨"WheelTicketsModel", "wheel", "()I"⟩, 37) := ⟨⟨by decide +kernel, by decide +kernel⟩, List.mem_of_getElem? (i := 787) (by decide +kernel), List.mem_of_getElem? (i := 1014) (by decide +kernel), List.mem_of_getElem? (i := 1015) (by decide +kernel)⟩
theorem lw_p40 : lw_okq (⟨"WheelTicketsModel", "wheelPrizes", "()I"⟩, 37) := ⟨⟨by decide +kernel, by decide +kernel⟩, List.mem_of_getElem? (i := 787) (by decide +kernel), List.mem_of_getElem? (i := 1021) (by decide +kernel), List.mem_of_getElem? (i := 1022) (by decide +kernel)⟩
theorem lw_p41 : lw_okq (⟨"WheelTicketsModel", "sumInWheel", "()I"⟩, 37) := ⟨⟨by decide +kernel, by decide +kernel⟩, List.mem_of_getElem? (i := 787) (by decide +kernel), List.mem_of_getElem? (i := 1025) (by decide +kernel), List.mem_of_getElem? (i := 1026) (by decide +kernel)⟩
theorem lw_p42 : lw_okq (⟨"WheelTicketsModel", "isPerson", "(I)Z"⟩, 37) := ⟨⟨by decide +kernel, by decide +kernel⟩, List.mem_of_getElem? (i := 787) (by decide +kernel), List.mem_of_getElem? (i := 1033) (by decide +kernel), List.mem_of_getElem? (i := 1034) (by decide +kernel)⟩
theorem lw_p43 : lw_okq (⟨"WheelTicketsModel", "starts", "()V"⟩, 37) := ⟨⟨by decide +kernel, by decide +kernel⟩, List.mem_of_getElem? (i := 787) (by decide +kernel), List.mem_of_getElem? (i := 1038) (by decide +kernel), List.mem_of_getElem? (i := 1039) (by decide +kernel)⟩
theorem lw_p44 : lw_okq (⟨"WheelTicketsModel", "isTicket", "(I)Z"⟩, 37) := ⟨⟨by decide +kernel, by decide +kernel⟩, List.mem_of_getElem? (i := 787) (by decide +kernel), List.mem_of_getElem? (i := 1046) (by decide +kernel), List.mem_of_getElem? (i := 1047) (by decide +kernel)⟩
theorem lw_p45 : lw_okq (⟨"WheelTicketsModel", "isDrawn", "(I)Z"⟩, 37) := ⟨⟨by decide +kernel, by decide +kernel⟩, List.mem_of_getElem? (i := 787) (by decide +kernel), List.mem_of_getElem? (i := 1064) (by decide +kernel), List.mem_of_getElem? (i := 1065) (by decide +kernel)⟩
theorem lw_p46 : lw_okq (⟨"WheelTicketsModel", "becomes", "(II)I"⟩, 37) := ⟨⟨by decide +kernel, by decide +kernel⟩, List.mem_of_getElem? (i := 787) (by decide +kernel), List.mem_of_getElem? (i := 1068) (by decide +kernel), List.mem_of_getElem? (i := 1069) (by decide +kernel)⟩
theorem lw_p47 : lw_okq (⟨"WheelTicketsModel", "settles", "()V"⟩, 37) := ⟨⟨by decide +kernel, by decide +kernel⟩, List.mem_of_getElem? (i := 787) (by decide +kernel), List.mem_of_getElem? (i := 1085) (by decide +kernel), List.mem_of_getElem? (i := 1086) (by decide +kernel)⟩
def lw_privs_3 : List (MethodName × Nat) := [(⟨"WheelTicketsModel", "readPerson", "()I"⟩, 37), (⟨"WheelTicketsModel", "drawsCome", "()V"⟩, 37), (⟨"WheelTicketsModel", "isInWheel", "(I)Z"⟩, 37), (⟨"WheelTicketsModel", "of", "(II)I"⟩, 37), (⟨"WheelTicketsModel", "draws", "(III)V"⟩, 37), (⟨"WheelTicketsModel", "pays", "(III)V"⟩, 37), (⟨"WheelTicketsModel", "findLeft", "()V"⟩, 37), (⟨"WheelTicketsModel", "wheel", "()I"⟩, 37), (⟨"WheelTicketsModel", "wheelPrizes", "()I"⟩, 37), (⟨"WheelTicketsModel", "sumInWheel", "()I"⟩, 37), (⟨"WheelTicketsModel", "isPerson", "(I)Z"⟩, 37), (⟨"WheelTicketsModel", "starts", "()V"⟩, 37), (⟨"WheelTicketsModel", "isTicket", "(I)Z"⟩, 37), (⟨"WheelTicketsModel", "isDrawn", "(I)Z"⟩, 37), (⟨"WheelTicketsModel", "becomes", "(II)I"⟩, 37), (⟨"WheelTicketsModel", "settles", "()V"⟩, 37)]
theorem lw_r3 : ∀ q ∈ lw_privs_3, lw_okq q := List.forall_mem_cons.mpr ⟨lw_p32, List.forall_mem_cons.mpr ⟨lw_p33, List.forall_mem_cons.mpr ⟨lw_p34, List.forall_mem_cons.mpr ⟨lw_p35, List.forall_mem_cons.mpr ⟨lw_p36, List.forall_mem_cons.mpr ⟨lw_p37, List.forall_mem_cons.mpr ⟨lw_p38, List.forall_mem_cons.mpr ⟨lw_p39, List.forall_mem_cons.mpr ⟨lw_p40, List.forall_mem_cons.mpr ⟨lw_p41, List.forall_mem_cons.mpr ⟨lw_p42, List.forall_mem_cons.mpr ⟨lw_p43, List.forall_mem_cons.mpr ⟨lw_p44, List.forall_mem_cons.mpr ⟨lw_p45, List.forall_mem_cons.mpr ⟨lw_p46, List.forall_mem_cons.mpr ⟨lw_p47, fun _ h => absurd h List.not_mem_nil⟩⟩⟩⟩⟩⟩⟩⟩⟩⟩⟩⟩⟩⟩⟩⟩
theorem lw_p48 : lw_okq (⟨"WheelTicketsModel", "tries", "(II)V"⟩, 37) := ⟨⟨by decide +kernel, by decide +kernel⟩, List.mem_of_getElem? (i := 787) (by decide +kernel), List.mem_of_getElem? (i := 1110) (by decide +kernel), List.mem_of_getElem? (i := 1111) (by decide +kernel)⟩
theorem lw_p49 : lw_okq (⟨"WheelTicketsModel", "findEnds", "(I)V"⟩, 37) := ⟨⟨by decide +kernel, by decide +kernel⟩, List.mem_of_getElem? (i := 787) (by decide +kernel), List.mem_of_getElem? (i := 1114) (by decide +kernel), List.mem_of_getElem? (i := 1115) (by decide +kernel)⟩
theorem lw_p50 : lw_okq (⟨"WheelTicketsModel", "findOrders", "()V"⟩, 37) := ⟨⟨by decide +kernel, by decide +kernel⟩, List.mem_of_getElem? (i := 787) (by decide +kernel), List.mem_of_getElem? (i := 1118) (by decide +kernel), List.mem_of_getElem? (i := 1119) (by decide +kernel)⟩
theorem lw_p51 : lw_okq (⟨"WheelTicketsModel", "power", "(I)I"⟩, 37) := ⟨⟨by decide +kernel, by decide +kernel⟩, List.mem_of_getElem? (i := 787) (by decide +kernel), List.mem_of_getElem? (i := 1122) (by decide +kernel), List.mem_of_getElem? (i := 1123) (by decide +kernel)⟩
theorem lw_p52 : lw_okq (⟨"WheelTicketsModel", "addsOrder", "(I)V"⟩, 37) := ⟨⟨by decide +kernel, by decide +kernel⟩, List.mem_of_getElem? (i := 787) (by decide +kernel), List.mem_of_getElem? (i := 1126) (by decide +kernel), List.mem_of_getElem? (i := 1127) (by decide +kernel)⟩
theorem lw_p53 : lw_okq (⟨"WheelTicketsModel", "waysMany", "()I"⟩, 37) := ⟨⟨by decide +kernel, by decide +kernel⟩, List.mem_of_getElem? (i := 787) (by decide +kernel), List.mem_of_getElem? (i := 1132) (by decide +kernel), List.mem_of_getElem? (i := 1133) (by decide +kernel)⟩
theorem lw_p54 : lw_okq (⟨"WheelTicketsModel", "startsTried", "()V"⟩, 37) := ⟨⟨by decide +kernel, by decide +kernel⟩, List.mem_of_getElem? (i := 787) (by decide +kernel), List.mem_of_getElem? (i := 1136) (by decide +kernel), List.mem_of_getElem? (i := 1137) (by decide +kernel)⟩
theorem lw_p55 : lw_okq (⟨"WheelTicketsModel", "goesBy", "(I)V"⟩, 37) := ⟨⟨by decide +kernel, by decide +kernel⟩, List.mem_of_getElem? (i := 787) (by decide +kernel), List.mem_of_getElem? (i := 1140) (by decide +kernel), List.mem_of_getElem? (i := 1141) (by decide +kernel)⟩
theorem lw_p56 : lw_okq (⟨"WheelTicketsModel", "firstTicket", "(I)I"⟩, 37) := ⟨⟨by decide +kernel, by decide +kernel⟩, List.mem_of_getElem? (i := 787) (by decide +kernel), List.mem_of_getElem? (i := 1144) (by decide +kernel), List.mem_of_getElem? (i := 1145) (by decide +kernel)⟩
theorem lw_p57 : lw_okq (⟨"WheelTicketsModel", "ownerOf", "(I)I"⟩, 37) := ⟨⟨by decide +kernel, by decide +kernel⟩, List.mem_of_getElem? (i := 787) (by decide +kernel), List.mem_of_getElem? (i := 1166) (by decide +kernel), List.mem_of_getElem? (i := 1167) (by decide +kernel)⟩
theorem lw_p58 : lw_okq (⟨"WheelTicketsModel", "isFit", "(I)Z"⟩, 37) := ⟨⟨by decide +kernel, by decide +kernel⟩, List.mem_of_getElem? (i := 787) (by decide +kernel), List.mem_of_getElem? (i := 1194) (by decide +kernel), List.mem_of_getElem? (i := 1195) (by decide +kernel)⟩
theorem lw_p59 : lw_okq (⟨"WheelTicketsModel", "atOf", "(ZI)I"⟩, 37) := ⟨⟨by decide +kernel, by decide +kernel⟩, List.mem_of_getElem? (i := 787) (by decide +kernel), List.mem_of_getElem? (i := 1207) (by decide +kernel), List.mem_of_getElem? (i := 1208) (by decide +kernel)⟩
theorem lw_p60 : lw_okq (⟨"WheelTicketsModel", "copies", "(II)V"⟩, 37) := ⟨⟨by decide +kernel, by decide +kernel⟩, List.mem_of_getElem? (i := 787) (by decide +kernel), List.mem_of_getElem? (i := 1215) (by decide +kernel), List.mem_of_getElem? (i := 1216) (by decide +kernel)⟩
def lw_privs_4 : List (MethodName × Nat) := [(⟨"WheelTicketsModel", "tries", "(II)V"⟩, 37), (⟨"WheelTicketsModel", "findEnds", "(I)V"⟩, 37), (⟨"WheelTicketsModel", "findOrders", "()V"⟩, 37), (⟨"WheelTicketsModel", "power", "(I)I"⟩, 37), (⟨"WheelTicketsModel", "addsOrder", "(I)V"⟩, 37), (⟨"WheelTicketsModel", "waysMany", "()I"⟩, 37), (⟨"WheelTicketsModel", "startsTried", "()V"⟩, 37), (⟨"WheelTicketsModel", "goesBy", "(I)V"⟩, 37), (⟨"WheelTicketsModel", "firstTicket", "(I)I"⟩, 37), (⟨"WheelTicketsModel", "ownerOf", "(I)I"⟩, 37), (⟨"WheelTicketsModel", "isFit", "(I)Z"⟩, 37), (⟨"WheelTicketsModel", "atOf", "(ZI)I"⟩, 37), (⟨"WheelTicketsModel", "copies", "(II)V"⟩, 37)]
theorem lw_r4 : ∀ q ∈ lw_privs_4, lw_okq q := List.forall_mem_cons.mpr ⟨lw_p48, List.forall_mem_cons.mpr ⟨lw_p49, List.forall_mem_cons.mpr ⟨lw_p50, List.forall_mem_cons.mpr ⟨lw_p51, List.forall_mem_cons.mpr ⟨lw_p52, List.forall_mem_cons.mpr ⟨lw_p53, List.forall_mem_cons.mpr ⟨lw_p54, List.forall_mem_cons.mpr ⟨lw_p55, List.forall_mem_cons.mpr ⟨lw_p56, List.forall_mem_cons.mpr ⟨lw_p57, List.forall_mem_cons.mpr ⟨lw_p58, List.forall_mem_cons.mpr ⟨lw_p59, List.forall_mem_cons.mpr ⟨lw_p60, fun _ h => absurd h List.not_mem_nil⟩⟩⟩⟩⟩⟩⟩⟩⟩⟩⟩⟩⟩
def lw_privs : List (MethodName × Nat) := lw_privs_1 ++ (lw_privs_2 ++ (lw_privs_3 ++ (lw_privs_4)))
def lw_tbl : List Cond := k2_sels lw_privs ++ tables_1
theorem lw_privs_ok : ∀ q ∈ lw_privs, lw_okq q := by
  show ∀ q ∈ lw_privs_1 ++ (lw_privs_2 ++ (lw_privs_3 ++ (lw_privs_4))), lw_okq q
  exact List.forall_mem_append.mpr ⟨lw_r1, List.forall_mem_append.mpr ⟨lw_r2, List.forall_mem_append.mpr ⟨lw_r3, lw_r4⟩⟩⟩
-- ===== end of PART A =====
def RX0 : String := "WheelTickets$Rest"
def TX0 : u_T := fun k => match k with
  | 0 => ("WheelTickets$Rest", "left", "I", false)
  | 1 => ("WheelTickets$Rest", "orders", "I", false)
  | 2 => ("WheelTickets$Rest", "tickets", "[I", true)
  | 3 => ("WheelTickets$Rest", "prizes", "[I", true)
  | 4 => ("WheelTickets$Rest", "fees", "[I", true)
  | 5 => ("WheelTickets$Rest", "shares", "[I", true)
  | 6 => ("WheelTickets$Rest", "byFees", "[I", true)
  | 7 => ("WheelTickets$Rest", "byPrizes", "[I", true)
  | 8 => ("WheelTickets$Rest", "beside", "[I", true)
  | 9 => ("WheelTickets$Rest", "pairs", "[I", true)
  | _ => ("WheelTickets$Rest", "fitting", "I", false)
def tyX0 : Nat → FieldType := fun k => match k with
  | 0 => .int
  | 1 => .int
  | 2 => .array .int
  | 3 => .array .int
  | 4 => .array .int
  | 5 => .array .int
  | 6 => .array .int
  | 7 => .array .int
  | 8 => .array .int
  | 9 => .array .int
  | _ => .int
abbrev wsX00 : List Cond := u_ws RX0 TX0 11
theorem nmX0 : ∀ a, a < 11 → ∀ b, b < 11 → a ≠ b → (TX0 a).2.1 ≠ (TX0 b).2.1 := by decide +kernel
theorem tyX0_ok : ∀ k, k < 11 → parseFieldDescriptor (TX0 k).2.2.1 = some (tyX0 k) := by decide +kernel
def RX1 : String := "WheelTickets$Sheet"
def TX1 : u_T := fun k => match k with
  | 0 => ("WheelTickets$Sheet", "size", "I", false)
  | 1 => ("WheelTickets$Sheet", "lane", "I", false)
  | _ => ("WheelTickets$Sheet", "cells", "[I", true)
def tyX1 : Nat → FieldType := fun k => match k with
  | 0 => .int
  | 1 => .int
  | _ => .array .int
abbrev wsX10 : List Cond := u_ws RX1 TX1 3
theorem nmX1 : ∀ a, a < 3 → ∀ b, b < 3 → a ≠ b → (TX1 a).2.1 ≠ (TX1 b).2.1 := by decide +kernel
theorem tyX1_ok : ∀ k, k < 3 → parseFieldDescriptor (TX1 k).2.2.1 = some (tyX1 k) := by decide +kernel
def RX2 : String := "WheelTickets$Tape"
def TX2 : u_T := fun k => match k with
  | 0 => ("WheelTickets$Tape", "bytes", "[B", true)
  | 1 => ("WheelTickets$Tape", "length", "I", false)
  | 2 => ("WheelTickets$Tape", "place", "I", false)
  | 3 => ("WheelTickets$Tape", "token", "I", false)
  | 4 => ("WheelTickets$Tape", "start", "I", false)
  | _ => ("WheelTickets$Tape", "value", "I", false)
def tyX2 : Nat → FieldType := fun k => match k with
  | 0 => .array .byte
  | 1 => .int
  | 2 => .int
  | 3 => .int
  | 4 => .int
  | _ => .int
abbrev wsX20 : List Cond := u_ws RX2 TX2 6
theorem nmX2 : ∀ a, a < 6 → ∀ b, b < 6 → a ≠ b → (TX2 a).2.1 ≠ (TX2 b).2.1 := by decide +kernel
theorem tyX2_ok : ∀ k, k < 6 → parseFieldDescriptor (TX2 k).2.2.1 = some (tyX2 k) := by decide +kernel
def RX3 : String := "WheelTickets$Teller"
def TX3 : u_T := fun k => match k with
  | 0 => ("WheelTickets$Teller", "found", "I", false)
  | 1 => ("WheelTickets$Teller", "foundAt", "I", false)
  | 2 => ("WheelTickets$Teller", "numbers", "[I", true)
  | 3 => ("WheelTickets$Teller", "prizes", "I", false)
  | 4 => ("WheelTickets$Teller", "draws", "I", false)
  | 5 => ("WheelTickets$Teller", "drawnTickets", "[I", true)
  | _ => ("WheelTickets$Teller", "drawnPrizes", "[I", true)
def tyX3 : Nat → FieldType := fun k => match k with
  | 0 => .int
  | 1 => .int
  | 2 => .array .int
  | 3 => .int
  | 4 => .int
  | 5 => .array .int
  | _ => .array .int
abbrev wsX30 : List Cond := u_ws RX3 TX3 7
theorem nmX3 : ∀ a, a < 7 → ∀ b, b < 7 → a ≠ b → (TX3 a).2.1 ≠ (TX3 b).2.1 := by decide +kernel
theorem tyX3_ok : ∀ k, k < 7 → parseFieldDescriptor (TX3 k).2.2.1 = some (tyX3 k) := by decide +kernel
def RX4 : String := "WheelTickets$Wheel"
def TX4 : u_T := fun k => match k with
  | 0 => ("WheelTickets$Wheel", "people", "I", false)
  | 1 => ("WheelTickets$Wheel", "tickets", "I", false)
  | 2 => ("WheelTickets$Wheel", "seen", "I", false)
  | 3 => ("WheelTickets$Wheel", "purses", "[I", true)
  | 4 => ("WheelTickets$Wheel", "traits", "[I", true)
  | 5 => ("WheelTickets$Wheel", "drew", "[I", true)
  | 6 => ("WheelTickets$Wheel", "amounts", "[I", true)
  | 7 => ("WheelTickets$Wheel", "drawnBy", "[I", true)
  | 8 => ("WheelTickets$Wheel", "seenOf", "[I", true)
  | _ => ("WheelTickets$Wheel", "seenEnd", "[I", true)
def tyX4 : Nat → FieldType := fun k => match k with
  | 0 => .int
  | 1 => .int
  | 2 => .int
  | 3 => .array .int
  | 4 => .array .int
  | 5 => .array .int
  | 6 => .array .int
  | 7 => .array .int
  | 8 => .array .int
  | _ => .array .int
abbrev wsX40 : List Cond := u_ws RX4 TX4 10
theorem nmX4 : ∀ a, a < 10 → ∀ b, b < 10 → a ≠ b → (TX4 a).2.1 ≠ (TX4 b).2.1 := by decide +kernel
theorem tyX4_ok : ∀ k, k < 10 → parseFieldDescriptor (TX4 k).2.2.1 = some (tyX4 k) := by decide +kernel
def RX5 : String := "WheelTickets"
def TX5 : u_T := fun k => match k with
  | 0 => ("WheelTickets", "now", "LWheelTickets$Wheel;", true)
  | 1 => ("WheelTickets", "trial", "LWheelTickets$Wheel;", true)
  | 2 => ("WheelTickets", "images", "[LWheelTickets$Wheel;", true)
  | 3 => ("WheelTickets", "kept", "[I", true)
  | 4 => ("WheelTickets", "rest", "LWheelTickets$Rest;", true)
  | 5 => ("WheelTickets", "tape", "LWheelTickets$Tape;", true)
  | 6 => ("WheelTickets", "teller", "LWheelTickets$Teller;", true)
  | 7 => ("WheelTickets", "sheets", "[LWheelTickets$Sheet;", true)
  | _ => ("WheelTickets", "tornFault", "I", false)
def tyX5 : Nat → FieldType := fun k => match k with
  | 0 => .object "WheelTickets$Wheel"
  | 1 => .object "WheelTickets$Wheel"
  | 2 => .array (.object "WheelTickets$Wheel")
  | 3 => .array .int
  | 4 => .object "WheelTickets$Rest"
  | 5 => .object "WheelTickets$Tape"
  | 6 => .object "WheelTickets$Teller"
  | 7 => .array (.object "WheelTickets$Sheet")
  | _ => .int
abbrev wsX50 : List Cond := u_ws RX5 TX5 9
theorem nmX5 : ∀ a, a < 9 → ∀ b, b < 9 → a ≠ b → (TX5 a).2.1 ≠ (TX5 b).2.1 := by decide +kernel
theorem tyX5_ok : ∀ k, k < 9 → parseFieldDescriptor (TX5 k).2.2.1 = some (tyX5 k) := by decide +kernel
def RX6 : String := "WheelTicketsModel"
def TX6 : u_T := fun k => match k with
  | 0 => ("WheelTicketsModel", "st", "[I", true)
  | 1 => ("WheelTicketsModel", "now", "[I", true)
  | 2 => ("WheelTicketsModel", "isKept", "[Z", true)
  | 3 => ("WheelTicketsModel", "people", "I", false)
  | 4 => ("WheelTicketsModel", "tickets", "I", false)
  | 5 => ("WheelTicketsModel", "draft", "[I", true)
  | 6 => ("WheelTicketsModel", "dPeople", "I", false)
  | 7 => ("WheelTicketsModel", "dTickets", "I", false)
  | 8 => ("WheelTicketsModel", "dPrizes", "I", false)
  | 9 => ("WheelTicketsModel", "drawMany", "I", false)
  | 10 => ("WheelTicketsModel", "drawn", "[I", true)
  | 11 => ("WheelTicketsModel", "highest", "I", false)
  | 12 => ("WheelTicketsModel", "tape", "[I", true)
  | 13 => ("WheelTicketsModel", "taped", "I", false)
  | 14 => ("WheelTicketsModel", "pos", "I", false)
  | 15 => ("WheelTicketsModel", "from", "I", false)
  | 16 => ("WheelTicketsModel", "sort", "I", false)
  | 17 => ("WheelTicketsModel", "value", "I", false)
  | 18 => ("WheelTicketsModel", "fault", "I", false)
  | 19 => ("WheelTicketsModel", "wrongAt", "I", false)
  | 20 => ("WheelTicketsModel", "order", "[I", true)
  | 21 => ("WheelTicketsModel", "orderMany", "I", false)
  | 22 => ("WheelTicketsModel", "leftMany", "I", false)
  | 23 => ("WheelTicketsModel", "leftTicket", "[I", true)
  | 24 => ("WheelTicketsModel", "leftPrize", "[I", true)
  | 25 => ("WheelTicketsModel", "triedCell", "I", false)
  | 26 => ("WheelTicketsModel", "triedValue", "I", false)
  | 27 => ("WheelTicketsModel", "endSum", "J", false)
  | 28 => ("WheelTicketsModel", "endLeast", "I", false)
  | 29 => ("WheelTicketsModel", "endMost", "I", false)
  | 30 => ("WheelTicketsModel", "endFirst", "I", false)
  | 31 => ("WheelTicketsModel", "ways", "[I", true)
  | 32 => ("WheelTicketsModel", "lanes", "[I", true)
  | 33 => ("WheelTicketsModel", "sizes", "[I", true)
  | 34 => ("WheelTicketsModel", "cells", "[I", true)
  | 35 => ("WheelTicketsModel", "torn", "I", false)
  | _ => ("WheelTicketsModel", "had", "[I", true)
def tyX6 : Nat → FieldType := fun k => match k with
  | 0 => .array .int
  | 1 => .array .int
  | 2 => .array .boolean
  | 3 => .int
  | 4 => .int
  | 5 => .array .int
  | 6 => .int
  | 7 => .int
  | 8 => .int
  | 9 => .int
  | 10 => .array .int
  | 11 => .int
  | 12 => .array .int
  | 13 => .int
  | 14 => .int
  | 15 => .int
  | 16 => .int
  | 17 => .int
  | 18 => .int
  | 19 => .int
  | 20 => .array .int
  | 21 => .int
  | 22 => .int
  | 23 => .array .int
  | 24 => .array .int
  | 25 => .int
  | 26 => .int
  | 27 => .long
  | 28 => .int
  | 29 => .int
  | 30 => .int
  | 31 => .array .int
  | 32 => .array .int
  | 33 => .array .int
  | 34 => .array .int
  | 35 => .int
  | _ => .array .int
abbrev wsX60 : List Cond := u_ws RX6 TX6 37
theorem nmX6 : ∀ a, a < 37 → ∀ b, b < 37 → a ≠ b → (TX6 a).2.1 ≠ (TX6 b).2.1 := by decide +kernel
theorem tyX6_ok : ∀ k, k < 37 → parseFieldDescriptor (TX6 k).2.2.1 = some (tyX6 k) := by decide +kernel
/-- the words that a method may take along -/
def pm_gw : List Cond := lw_tbl.filter goodWord
theorem pm_in {w : Cond} (h : w ∈ tables_1) (g : goodWord w = true) : w ∈ pm_gw := List.mem_filter.mpr ⟨List.mem_append_right _ h, g⟩
theorem pm_ins {w : Cond} (h : w ∈ k2_sels lw_privs) (g : goodWord w = true) : w ∈ pm_gw := List.mem_filter.mpr ⟨List.mem_append_left _ h, g⟩
theorem pm_gg : GoodIn pm_gw pm_gw := fun w h => ⟨h, good_of_word (List.mem_filter.mp h).2⟩
def pm_RN : Nat → String := fun k => match k with
  | 0 => "WheelTickets$Rest"
  | 1 => "WheelTickets$Sheet"
  | 2 => "WheelTickets$Tape"
  | 3 => "WheelTickets$Teller"
  | 4 => "WheelTickets$Wheel"
  | 5 => "WheelTickets"
  | 6 => "WheelTicketsModel"
  | 7 => "WheelTicketsLaw"
  | 8 => "java/lang/String"
  | 9 => "java/lang/StringLatin1"
  | 10 => "java/util/Arrays"
  | 11 => "java/lang/Integer"
  | 12 => "java/lang/Math"
  | _ => "jdk/internal/util/Preconditions"
def pm_TN : Nat → u_T := fun k => match k with
  | 0 => TX0
  | 1 => TX1
  | 2 => TX2
  | 3 => TX3
  | 4 => TX4
  | 5 => TX5
  | _ => TX6
def pm_NN : Nat → Nat := fun k => match k with
  | 0 => 11
  | 1 => 3
  | 2 => 6
  | 3 => 7
  | 4 => 10
  | 5 => 9
  | _ => 37
def pm_tN : Nat → Nat → FieldType := fun k => match k with
  | 0 => tyX0
  | 1 => tyX1
  | 2 => tyX2
  | 3 => tyX3
  | 4 => tyX4
  | 5 => tyX5
  | _ => tyX6
def pm_cl : List vw_C := [(RX0, TX0, 11), (RX1, TX1, 3), (RX2, TX2, 6), (RX3, TX3, 7), (RX4, TX4, 10), (RX5, TX5, 9), (RX6, TX6, 37)]
theorem pm_clat : ∀ k, k < 7 → pm_cl[k]? = some (pm_RN k, pm_TN k, pm_NN k) := by
  intro k hk
  rcases k with _ | _ | _ | _ | _ | _ | _ | k
  all_goals first | rfl | omega
set_option maxRecDepth 20000 in
theorem pm_cw0 : (u_ws RX0 TX0 11).all (fun w => decide (w ∈ tables_1) && goodWord w) = true := by decide +kernel
set_option maxRecDepth 20000 in
theorem pm_cw1 : (u_ws RX1 TX1 3).all (fun w => decide (w ∈ tables_1) && goodWord w) = true := by decide +kernel
set_option maxRecDepth 20000 in
theorem pm_cw2 : (u_ws RX2 TX2 6).all (fun w => decide (w ∈ tables_1) && goodWord w) = true := by decide +kernel
set_option maxRecDepth 20000 in
theorem pm_cw3 : (u_ws RX3 TX3 7).all (fun w => decide (w ∈ tables_1) && goodWord w) = true := by decide +kernel
set_option maxRecDepth 20000 in
theorem pm_cw4 : (u_ws RX4 TX4 10).all (fun w => decide (w ∈ tables_1) && goodWord w) = true := by decide +kernel
set_option maxRecDepth 20000 in
theorem pm_cw5 : (u_ws RX5 TX5 9).all (fun w => decide (w ∈ tables_1) && goodWord w) = true := by decide +kernel
set_option maxRecDepth 20000 in
theorem pm_cw6 : (u_ws RX6 TX6 37).all (fun w => decide (w ∈ tables_1) && goodWord w) = true := by decide +kernel
theorem pm_allin {ws : List Cond} (h : ws.all (fun w => decide (w ∈ tables_1) && goodWord w) = true) : ∀ w ∈ ws, w ∈ pm_gw := fun w hw => by
  have := List.all_eq_true.mp h w hw
  simp only [Bool.and_eq_true, decide_eq_true_eq] at this
  exact pm_in this.1 this.2
theorem pm_cw : ∀ k, k < 7 → ∀ w ∈ u_ws (pm_RN k) (pm_TN k) (pm_NN k), w ∈ pm_gw := by
  intro k hk
  rcases k with _ | _ | _ | _ | _ | _ | _ | k
  · exact pm_allin pm_cw0
  · exact pm_allin pm_cw1
  · exact pm_allin pm_cw2
  · exact pm_allin pm_cw3
  · exact pm_allin pm_cw4
  · exact pm_allin pm_cw5
  · exact pm_allin pm_cw6
  · omega
theorem pm_ty : ∀ c, c < 7 → ∀ k, k < pm_NN c → parseFieldDescriptor (pm_TN c k).2.2.1 = some (pm_tN c k) := by
  intro c hc
  rcases c with _ | _ | _ | _ | _ | _ | _ | c
  · exact tyX0_ok
  · exact tyX1_ok
  · exact tyX2_ok
  · exact tyX3_ok
  · exact tyX4_ok
  · exact tyX5_ok
  · exact tyX6_ok
  · omega
theorem pm_nm : ∀ c, c < 7 → ∀ a, a < pm_NN c → ∀ b, b < pm_NN c → a ≠ b → (pm_TN c a).2.1 ≠ (pm_TN c b).2.1 := by
  intro c hc
  rcases c with _ | _ | _ | _ | _ | _ | _ | c
  · exact nmX0
  · exact nmX1
  · exact nmX2
  · exact nmX3
  · exact nmX4
  · exact nmX5
  · exact nmX6
  · omega
end
