section
-- ===== PART A: goes FIRST, ahead of the names: the tables' words, and 'selects' of the private methods out of them =====
/-- a private method of a class that the tables say can be made, by its rows of tables_1 -/
def lw_okq (q : MethodName × Nat) : Prop := (q.1.cls ≠ "java/lang/invoke/MethodHandle" ∧ q.1.cls ≠ "java/lang/invoke/VarHandle") ∧ Cond.instantiable q.1.cls q.2 ∈ tables_1 ∧ Cond.privateMethod q.1 ∈ tables_1 ∧ Cond.instanceMethod q.1 ∈ tables_1
theorem lw_p0 : lw_okq (⟨"WheelTickets$Teller", "takeLine", "(LWheelTickets$Tape;LWheelTickets$Wheel;)Z"⟩, 7) := ⟨⟨by decide +kernel, by decide +kernel⟩, List.mem_of_getElem? (i := 152) (by decide +kernel), List.mem_of_getElem? (i := 262) (by decide +kernel), List.mem_of_getElem? (i := 263) (by decide +kernel)⟩
theorem lw_p1 : lw_okq (⟨"WheelTickets$Tape", "passBlanks", "()V"⟩, 6) := ⟨⟨by decide +kernel, by decide +kernel⟩, List.mem_of_getElem? (i := 121) (by decide +kernel), List.mem_of_getElem? (i := 270) (by decide +kernel), List.mem_of_getElem? (i := 271) (by decide +kernel)⟩
theorem lw_p2 : lw_okq (⟨"WheelTickets$Tape", "passLetters", "()V"⟩, 6) := ⟨⟨by decide +kernel, by decide +kernel⟩, List.mem_of_getElem? (i := 121) (by decide +kernel), List.mem_of_getElem? (i := 274) (by decide +kernel), List.mem_of_getElem? (i := 275) (by decide +kernel)⟩
theorem lw_p3 : lw_okq (⟨"WheelTickets$Tape", "numberToken", "()I"⟩, 6) := ⟨⟨by decide +kernel, by decide +kernel⟩, List.mem_of_getElem? (i := 121) (by decide +kernel), List.mem_of_getElem? (i := 278) (by decide +kernel), List.mem_of_getElem? (i := 279) (by decide +kernel)⟩
theorem lw_p4 : lw_okq (⟨"WheelTickets$Teller", "blame", "(II)Z"⟩, 7) := ⟨⟨by decide +kernel, by decide +kernel⟩, List.mem_of_getElem? (i := 152) (by decide +kernel), List.mem_of_getElem? (i := 282) (by decide +kernel), List.mem_of_getElem? (i := 283) (by decide +kernel)⟩
theorem lw_p5 : lw_okq (⟨"WheelTickets$Teller", "toldAlready", "(ILWheelTickets$Wheel;)I"⟩, 7) := ⟨⟨by decide +kernel, by decide +kernel⟩, List.mem_of_getElem? (i := 152) (by decide +kernel), List.mem_of_getElem? (i := 351) (by decide +kernel), List.mem_of_getElem? (i := 352) (by decide +kernel)⟩
theorem lw_p6 : lw_okq (⟨"WheelTickets$Teller", "takeNumbers", "(LWheelTickets$Tape;I)Z"⟩, 7) := ⟨⟨by decide +kernel, by decide +kernel⟩, List.mem_of_getElem? (i := 152) (by decide +kernel), List.mem_of_getElem? (i := 355) (by decide +kernel), List.mem_of_getElem? (i := 356) (by decide +kernel)⟩
theorem lw_p7 : lw_okq (⟨"WheelTickets$Teller", "take", "(LWheelTickets$Tape;I)Z"⟩, 7) := ⟨⟨by decide +kernel, by decide +kernel⟩, List.mem_of_getElem? (i := 152) (by decide +kernel), List.mem_of_getElem? (i := 362) (by decide +kernel), List.mem_of_getElem? (i := 363) (by decide +kernel)⟩
theorem lw_p8 : lw_okq (⟨"WheelTickets$Teller", "put", "(ILWheelTickets$Wheel;)V"⟩, 7) := ⟨⟨by decide +kernel, by decide +kernel⟩, List.mem_of_getElem? (i := 152) (by decide +kernel), List.mem_of_getElem? (i := 369) (by decide +kernel), List.mem_of_getElem? (i := 370) (by decide +kernel)⟩
theorem lw_p9 : lw_okq (⟨"WheelTickets$Teller", "tellBehindAll", "(ILWheelTickets$Wheel;)Z"⟩, 7) := ⟨⟨by decide +kernel, by decide +kernel⟩, List.mem_of_getElem? (i := 152) (by decide +kernel), List.mem_of_getElem? (i := 386) (by decide +kernel), List.mem_of_getElem? (i := 387) (by decide +kernel)⟩
theorem lw_p10 : lw_okq (⟨"WheelTickets$Wheel", "sharedOut", "(IIII)I"⟩, 10) := ⟨⟨by decide +kernel, by decide +kernel⟩, List.mem_of_getElem? (i := 25) (by decide +kernel), List.mem_of_getElem? (i := 430) (by decide +kernel), List.mem_of_getElem? (i := 431) (by decide +kernel)⟩
theorem lw_p11 : lw_okq (⟨"WheelTickets$Rest", "weigh", "(LWheelTickets$Wheel;I)V"⟩, 11) := ⟨⟨by decide +kernel, by decide +kernel⟩, List.mem_of_getElem? (i := 80) (by decide +kernel), List.mem_of_getElem? (i := 555) (by decide +kernel), List.mem_of_getElem? (i := 556) (by decide +kernel)⟩
theorem lw_p12 : lw_okq (⟨"WheelTickets$Rest", "look", "(LWheelTickets$Wheel;)V"⟩, 11) := ⟨⟨by decide +kernel, by decide +kernel⟩, List.mem_of_getElem? (i := 80) (by decide +kernel), List.mem_of_getElem? (i := 559) (by decide +kernel), List.mem_of_getElem? (i := 560) (by decide +kernel)⟩
theorem lw_p13 : lw_okq (⟨"WheelTickets$Rest", "gain", "(III)I"⟩, 11) := ⟨⟨by decide +kernel, by decide +kernel⟩, List.mem_of_getElem? (i := 80) (by decide +kernel), List.mem_of_getElem? (i := 589) (by decide +kernel), List.mem_of_getElem? (i := 590) (by decide +kernel)⟩
theorem lw_p14 : lw_okq (⟨"WheelTickets$Rest", "isSolid", "(LWheelTickets$Wheel;II)Z"⟩, 11) := ⟨⟨by decide +kernel, by decide +kernel⟩, List.mem_of_getElem? (i := 80) (by decide +kernel), List.mem_of_getElem? (i := 610) (by decide +kernel), List.mem_of_getElem? (i := 611) (by decide +kernel)⟩
theorem lw_p15 : lw_okq (⟨"WheelTickets$Rest", "leastOf", "([II)I"⟩, 11) := ⟨⟨by decide +kernel, by decide +kernel⟩, List.mem_of_getElem? (i := 80) (by decide +kernel), List.mem_of_getElem? (i := 622) (by decide +kernel), List.mem_of_getElem? (i := 623) (by decide +kernel)⟩
def lw_privs_1 : List (MethodName × Nat) := [(⟨"WheelTickets$Teller", "takeLine", "(LWheelTickets$Tape;LWheelTickets$Wheel;)Z"⟩, 7), (⟨"WheelTickets$Tape", "passBlanks", "()V"⟩, 6), (⟨"WheelTickets$Tape", "passLetters", "()V"⟩, 6), (⟨"WheelTickets$Tape", "numberToken", "()I"⟩, 6), (⟨"WheelTickets$Teller", "blame", "(II)Z"⟩, 7), (⟨"WheelTickets$Teller", "toldAlready", "(ILWheelTickets$Wheel;)I"⟩, 7), (⟨"WheelTickets$Teller", "takeNumbers", "(LWheelTickets$Tape;I)Z"⟩, 7), (⟨"WheelTickets$Teller", "take", "(LWheelTickets$Tape;I)Z"⟩, 7), (⟨"WheelTickets$Teller", "put", "(ILWheelTickets$Wheel;)V"⟩, 7), (⟨"WheelTickets$Teller", "tellBehindAll", "(ILWheelTickets$Wheel;)Z"⟩, 7), (⟨"WheelTickets$Wheel", "sharedOut", "(IIII)I"⟩, 10), (⟨"WheelTickets$Rest", "weigh", "(LWheelTickets$Wheel;I)V"⟩, 11), (⟨"WheelTickets$Rest", "look", "(LWheelTickets$Wheel;)V"⟩, 11), (⟨"WheelTickets$Rest", "gain", "(III)I"⟩, 11), (⟨"WheelTickets$Rest", "isSolid", "(LWheelTickets$Wheel;II)Z"⟩, 11), (⟨"WheelTickets$Rest", "leastOf", "([II)I"⟩, 11)]
theorem lw_r1 : ∀ q ∈ lw_privs_1, lw_okq q := List.forall_mem_cons.mpr ⟨lw_p0, List.forall_mem_cons.mpr ⟨lw_p1, List.forall_mem_cons.mpr ⟨lw_p2, List.forall_mem_cons.mpr ⟨lw_p3, List.forall_mem_cons.mpr ⟨lw_p4, List.forall_mem_cons.mpr ⟨lw_p5, List.forall_mem_cons.mpr ⟨lw_p6, List.forall_mem_cons.mpr ⟨lw_p7, List.forall_mem_cons.mpr ⟨lw_p8, List.forall_mem_cons.mpr ⟨lw_p9, List.forall_mem_cons.mpr ⟨lw_p10, List.forall_mem_cons.mpr ⟨lw_p11, List.forall_mem_cons.mpr ⟨lw_p12, List.forall_mem_cons.mpr ⟨lw_p13, List.forall_mem_cons.mpr ⟨lw_p14, List.forall_mem_cons.mpr ⟨lw_p15, fun _ h => absurd h List.not_mem_nil⟩⟩⟩⟩⟩⟩⟩⟩⟩⟩⟩⟩⟩⟩⟩⟩
theorem lw_p16 : lw_okq (⟨"WheelTickets$Rest", "mostOf", "([II)I"⟩, 11) := ⟨⟨by decide +kernel, by decide +kernel⟩, List.mem_of_getElem? (i := 80) (by decide +kernel), List.mem_of_getElem? (i := 633) (by decide +kernel), List.mem_of_getElem? (i := 634) (by decide +kernel)⟩
theorem lw_p17 : lw_okq (⟨"WheelTickets$Rest", "ordersThatFit", "(LWheelTickets$Wheel;I)I"⟩, 11) := ⟨⟨by decide +kernel, by decide +kernel⟩, List.mem_of_getElem? (i := 80) (by decide +kernel), List.mem_of_getElem? (i := 696) (by decide +kernel), List.mem_of_getElem? (i := 697) (by decide +kernel)⟩
theorem lw_p18 : lw_okq (⟨"WheelTickets$Rest", "isAsSeen", "(LWheelTickets$Wheel;II)Z"⟩, 11) := ⟨⟨by decide +kernel, by decide +kernel⟩, List.mem_of_getElem? (i := 80) (by decide +kernel), List.mem_of_getElem? (i := 700) (by decide +kernel), List.mem_of_getElem? (i := 701) (by decide +kernel)⟩
theorem lw_p19 : lw_okq (⟨"WheelTicketsModel", "firstDraft", "()V"⟩, 37) := ⟨⟨by decide +kernel, by decide +kernel⟩, List.mem_of_getElem? (i := 787) (by decide +kernel), List.mem_of_getElem? (i := 793) (by decide +kernel), List.mem_of_getElem? (i := 794) (by decide +kernel)⟩
theorem lw_p20 : lw_okq (⟨"WheelTicketsModel", "keepDraft", "()V"⟩, 37) := ⟨⟨by decide +kernel, by decide +kernel⟩, List.mem_of_getElem? (i := 787) (by decide +kernel), List.mem_of_getElem? (i := 797) (by decide +kernel), List.mem_of_getElem? (i := 798) (by decide +kernel)⟩
theorem lw_p21 : lw_okq (⟨"WheelTicketsModel", "next", "()V"⟩, 37) := ⟨⟨by decide +kernel, by decide +kernel⟩, List.mem_of_getElem? (i := 787) (by decide +kernel), List.mem_of_getElem? (i := 930) (by decide +kernel), List.mem_of_getElem? (i := 931) (by decide +kernel)⟩
theorem lw_p22 : lw_okq (⟨"WheelTicketsModel", "byteAt", "(I)I"⟩, 37) := ⟨⟨by decide +kernel, by decide +kernel⟩, List.mem_of_getElem? (i := 787) (by decide +kernel), List.mem_of_getElem? (i := 934) (by decide +kernel), List.mem_of_getElem? (i := 935) (by decide +kernel)⟩
theorem lw_p23 : lw_okq (⟨"WheelTicketsModel", "needs", "(ZI)V"⟩, 37) := ⟨⟨by decide +kernel, by decide +kernel⟩, List.mem_of_getElem? (i := 787) (by decide +kernel), List.mem_of_getElem? (i := 942) (by decide +kernel), List.mem_of_getElem? (i := 943) (by decide +kernel)⟩
theorem lw_p24 : lw_okq (⟨"WheelTicketsModel", "readLine", "()V"⟩, 37) := ⟨⟨by decide +kernel, by decide +kernel⟩, List.mem_of_getElem? (i := 787) (by decide +kernel), List.mem_of_getElem? (i := 946) (by decide +kernel), List.mem_of_getElem? (i := 947) (by decide +kernel)⟩
theorem lw_p25 : lw_okq (⟨"WheelTicketsModel", "lineNow", "()I"⟩, 37) := ⟨⟨by decide +kernel, by decide +kernel⟩, List.mem_of_getElem? (i := 787) (by decide +kernel), List.mem_of_getElem? (i := 950) (by decide +kernel), List.mem_of_getElem? (i := 951) (by decide +kernel)⟩
theorem lw_p26 : lw_okq (⟨"WheelTicketsModel", "is", "(IIII)Z"⟩, 37) := ⟨⟨by decide +kernel, by decide +kernel⟩, List.mem_of_getElem? (i := 787) (by decide +kernel), List.mem_of_getElem? (i := 954) (by decide +kernel), List.mem_of_getElem? (i := 955) (by decide +kernel)⟩
theorem lw_p27 : lw_okq (⟨"WheelTicketsModel", "hasEnd", "(IIII)Z"⟩, 37) := ⟨⟨by decide +kernel, by decide +kernel⟩, List.mem_of_getElem? (i := 787) (by decide +kernel), List.mem_of_getElem? (i := 958) (by decide +kernel), List.mem_of_getElem? (i := 959) (by decide +kernel)⟩
theorem lw_p28 : lw_okq (⟨"WheelTicketsModel", "hasRoom", "(I)Z"⟩, 37) := ⟨⟨by decide +kernel, by decide +kernel⟩, List.mem_of_getElem? (i := 787) (by decide +kernel), List.mem_of_getElem? (i := 962) (by decide +kernel), List.mem_of_getElem? (i := 963) (by decide +kernel)⟩
theorem lw_p29 : lw_okq (⟨"WheelTicketsModel", "readLineOf", "(I)V"⟩, 37) := ⟨⟨by decide +kernel, by decide +kernel⟩, List.mem_of_getElem? (i := 787) (by decide +kernel), List.mem_of_getElem? (i := 966) (by decide +kernel), List.mem_of_getElem? (i := 967) (by decide +kernel)⟩
theorem lw_p30 : lw_okq (⟨"WheelTicketsModel", "readNumber", "(II)I"⟩, 37) := ⟨⟨by decide +kernel, by decide +kernel⟩, List.mem_of_getElem? (i := 787) (by decide +kernel), List.mem_of_getElem? (i := 970) (by decide +kernel), List.mem_of_getElem? (i := 971) (by decide +kernel)⟩
theorem lw_p31 : lw_okq (⟨"WheelTicketsModel", "readTicket", "(I)V"⟩, 37) := ⟨⟨by decide +kernel, by decide +kernel⟩, List.mem_of_getElem? (i := 787) (by decide +kernel), List.mem_of_getElem? (i := 974) (by decide +kernel), List.mem_of_getElem? (i := 975) (by decide +kernel)⟩
def lw_privs_2 : List (MethodName × Nat) := [(⟨"WheelTickets$Rest", "mostOf", "([II)I"⟩, 11), (⟨"WheelTickets$Rest", "ordersThatFit", "(LWheelTickets$Wheel;I)I"⟩, 11), (⟨"WheelTickets$Rest", "isAsSeen", "(LWheelTickets$Wheel;II)Z"⟩, 11), (⟨"WheelTicketsModel", "firstDraft", "()V"⟩, 37), (⟨"WheelTicketsModel", "keepDraft", "()V"⟩, 37), (⟨"WheelTicketsModel", "next", "()V"⟩, 37), (⟨"WheelTicketsModel", "byteAt", "(I)I"⟩, 37), (⟨"WheelTicketsModel", "needs", "(ZI)V"⟩, 37), (⟨"WheelTicketsModel", "readLine", "()V"⟩, 37), (⟨"WheelTicketsModel", "lineNow", "()I"⟩, 37), (⟨"WheelTicketsModel", "is", "(IIII)Z"⟩, 37), (⟨"WheelTicketsModel", "hasEnd", "(IIII)Z"⟩, 37), (⟨"WheelTicketsModel", "hasRoom", "(I)Z"⟩, 37), (⟨"WheelTicketsModel", "readLineOf", "(I)V"⟩, 37), (⟨"WheelTicketsModel", "readNumber", "(II)I"⟩, 37), (⟨"WheelTicketsModel", "readTicket", "(I)V"⟩, 37)]
theorem lw_r2 : ∀ q ∈ lw_privs_2, lw_okq q := List.forall_mem_cons.mpr ⟨lw_p16, List.forall_mem_cons.mpr ⟨lw_p17, List.forall_mem_cons.mpr ⟨lw_p18, List.forall_mem_cons.mpr ⟨lw_p19, List.forall_mem_cons.mpr ⟨lw_p20, List.forall_mem_cons.mpr ⟨lw_p21, List.forall_mem_cons.mpr ⟨lw_p22, List.forall_mem_cons.mpr ⟨lw_p23, List.forall_mem_cons.mpr ⟨lw_p24, List.forall_mem_cons.mpr ⟨lw_p25, List.forall_mem_cons.mpr ⟨lw_p26, List.forall_mem_cons.mpr ⟨lw_p27, List.forall_mem_cons.mpr ⟨lw_p28, List.forall_mem_cons.mpr ⟨lw_p29, List.forall_mem_cons.mpr ⟨lw_p30, List.forall_mem_cons.mpr ⟨lw_p31, fun _ h => absurd h List.not_mem_nil⟩⟩⟩⟩⟩⟩⟩⟩⟩⟩⟩⟩⟩⟩⟩⟩
theorem lw_p32 : lw_okq (⟨"WheelTicketsModel", "readPerson", "()I"⟩, 37) := ⟨⟨by decide +kernel, by decide +kernel⟩, List.mem_of_getElem? (i := 787) (by decide +kernel), List.mem_of_getElem? (i := 978) (by decide +kernel), List.mem_of_getElem? (i := 979) (by decide +kernel)⟩
theorem lw_p33 : lw_okq (⟨"WheelTicketsModel", "drawsCome", "()V"⟩, 37) := ⟨⟨by decide +kernel, by decide +kernel⟩, List.mem_of_getElem? (i := 787) (by decide +kernel), List.mem_of_getElem? (i := 982) (by decide +kernel), List.mem_of_getElem? (i := 983) (by decide +kernel)⟩
theorem lw_p34 : lw_okq (⟨"WheelTicketsModel", "isInWheel", "(I)Z"⟩, 37) := ⟨⟨by decide +kernel, by decide +kernel⟩, List.mem_of_getElem? (i := 787) (by decide +kernel), List.mem_of_getElem? (i := 986) (by decide +kernel), List.mem_of_getElem? (i := 987) (by decide +kernel)⟩
theorem lw_p35 : lw_okq (⟨"WheelTicketsModel", "of", "(II)I"⟩, 37) := ⟨⟨by decide +kernel, by decide +kernel⟩, List.mem_of_getElem? (i := 787) (by decide +kernel), List.mem_of_getElem? (i := 990) (by decide +kernel), List.mem_of_getElem? (i := 991) (by decide +kernel)⟩
theorem lw_p36 : lw_okq (⟨"WheelTicketsModel", "draws", "(III)V"⟩, 37) := ⟨⟨by decide +kernel, by decide +kernel⟩, List.mem_of_getElem? (i := 787) (by decide +kernel), List.mem_of_getElem? (i := 994) (by decide +kernel), List.mem_of_getElem? (i := 995) (by decide +kernel)⟩
theorem lw_p37 : lw_okq (⟨"WheelTicketsModel", "pays", "(III)V"⟩, 37) := ⟨⟨by decide +kernel, by decide +kernel⟩, List.mem_of_getElem? (i := 787) (by decide +kernel), List.mem_of_getElem? (i := 998) (by decide +kernel), List.mem_of_getElem? (i := 999) (by decide +kernel)⟩
theorem lw_p38 : lw_okq (⟨"WheelTicketsModel", "findLeft", "()V"⟩, 37) := ⟨⟨by decide +kernel, by decide +kernel⟩, List.mem_of_getElem? (i := 787) (by decide +kernel), List.mem_of_getElem? (i := 1010) (by decide +kernel), List.mem_of_getElem? (i := 1011) (by decide +kernel)⟩
theorem lw_p39 : lw_okq (⟨"WheelTicketsModel", "wheel", "()I"⟩, 37) := ⟨⟨by decide +kernel, by decide +kernel⟩, List.mem_of_getElem? (i := 787) (by decide +kernel), List.mem_of_getElem? (i := 1014) (by decide +kernel), List.mem_of_getElem? (i := 1015) (by decide +kernel)⟩
theorem lw_p40 : lw_okq (⟨"WheelTicketsModel", "wheelPrizes", "()I"⟩, 37) := ⟨⟨by decide +kernel, by decide +kernel⟩, List.mem_of_getElem? (i := 787) (by decide +kernel), List.mem_of_getElem? (i := 1021) (by decide +kernel), List.mem_of_getElem? (i := 1022) (by decide +kernel)⟩
theorem lw_p41 : lw_okq (⟨"WheelTicketsModel", "sumInWheel", "()I"⟩, 37) := ⟨⟨by decide +kernel, by decide +kernel⟩, List.mem_of_getElem? (i := 787) (by decide +kernel), List.mem_of_getElem? (i := 1025) (by decide +kernel), List.mem_of_getElem? (i := 1026) (by decide +kernel)⟩
theorem lw_p42 : lw_okq (⟨"WheelTicketsModel", "isPerson", "(I)Z"⟩, 37) := ⟨⟨by decide +kernel, by decide +kernel⟩, List.mem_of_getElem? (i := 787) (by decide +kernel), List.mem_of_getElem? (i := 1033) (by decide +kernel), List.mem_of_getElem? (i := 1034) (by decide +kernel)⟩
theorem lw_p43 : lw_okq (⟨"WheelTicketsModel", "starts", "()V"⟩, 37) := ⟨⟨by decide +kernel, by decide +kernel⟩, List.mem_of_getElem? (i := 787) (by decide +kernel), List.mem_of_getElem? (i := 1038) (by decide +kernel), List.mem_of_getElem? (i := 1039) (by decide +kernel)⟩
theorem lw_p44 : lw_okq (⟨"WheelTicketsModel", "isTicket", "(I)Z"⟩, 37) := ⟨⟨by decide +kernel, by decide +kernel⟩, List.mem_of_getElem? (i := 787) (by decide +kernel), List.mem_of_getElem? (i := 1046) (by decide +kernel), List.mem_of_getElem? (i := 1047) (by decide +kernel)⟩
theorem lw_p45 : lw_okq (⟨"WheelTicketsModel", "isDrawn", "(I)Z"⟩, 37) := ⟨⟨by decide +kernel, by decide +kernel⟩, List.mem_of_getElem? (i := 787) (by decide +kernel), List.mem_of_getElem? (i := 1064) (by decide +kernel), List.mem_of_getElem? (i := 1065) (by decide +kernel)⟩
theorem lw_p46 : lw_okq (⟨"WheelTicketsModel", "becomes", "(II)I"⟩, 37) := ⟨⟨by decide +kernel, by decide +kernel⟩, List.mem_of_getElem? (i := 787) (by decide +kernel), List.mem_of_getElem? (i := 1068) (by decide +kernel), List.mem_of_getElem? (i := 1069) (by decide +kernel)⟩
theorem lw_p47 : lw_okq (⟨"WheelTicketsModel", "settles", "()V"⟩, 37) := ⟨⟨by decide +kernel, by decide +kernel⟩, List.mem_of_getElem? (i := 787) (by decide +kernel), List.mem_of_getElem? (i := 1085) (by decide +kernel), List.mem_of_getElem? (i := 1086) (by decide +kernel)⟩
def lw_privs_3 : List (MethodName × Nat) := [(⟨"WheelTicketsModel", "readPerson", "()I"⟩, 37), (⟨"WheelTicketsModel", "drawsCome", "()V"⟩, 37), (⟨"WheelTicketsModel", "isInWheel", "(I)Z"⟩, 37), (⟨"WheelTicketsModel", "of", "(II)I"⟩, 37), (⟨"WheelTicketsModel", "draws", "(III)V"⟩, 37), (⟨"WheelTicketsModel", "pays", "(III)V"⟩, 37), (⟨"WheelTicketsModel", "findLeft", "()V"⟩, 37), (⟨"WheelTicketsModel", "wheel", "()I"⟩, 37), (⟨"WheelTicketsModel", "wheelPrizes", "()I"⟩, 37), (⟨"WheelTicketsModel", "sumInWheel", "()I"⟩, 37), (⟨"WheelTicketsModel", "isPerson", "(I)Z"⟩, 37), (⟨"WheelTicketsModel", "starts", "()V"⟩, 37), (⟨"WheelTicketsModel", "isTicket", "(I)Z"⟩, 37), (⟨"WheelTicketsModel", "isDrawn", "(I)Z"⟩, 37), (⟨"WheelTicketsModel", "becomes", "(II)I"⟩, 37), (⟨"WheelTicketsModel", "settles", "()V"⟩, 37)]
theorem lw_r3 : ∀ q ∈ lw_privs_3, lw_okq q := List.forall_mem_cons.mpr ⟨lw_p32, List.forall_mem_cons.mpr ⟨lw_p33, List.forall_mem_cons.mpr ⟨lw_p34, List.forall_mem_cons.mpr ⟨lw_p35, List.forall_mem_cons.mpr ⟨lw_p36, List.forall_mem_cons.mpr ⟨lw_p37, List.forall_mem_cons.mpr ⟨lw_p38, List.forall_mem_cons.mpr ⟨lw_p39, List.forall_mem_cons.mpr ⟨lw_p40, List.forall_mem_cons.mpr ⟨lw_p41, List.forall_mem_cons.mpr ⟨lw_p42, List.forall_mem_cons.mpr ⟨lw_p43, List.forall_mem_cons.mpr ⟨lw_p44, List.forall_mem_cons.mpr ⟨lw_p45, List.forall_mem_cons.mpr ⟨lw_p46, List.forall_mem_cons.mpr ⟨lw_p47, fun _ h => absurd h List.not_mem_nil⟩⟩⟩⟩⟩⟩⟩⟩⟩⟩⟩⟩⟩⟩⟩⟩
theorem lw_p48 : lw_okq (⟨"WheelTicketsModel", "tries", "(II)V"⟩, 37) := ⟨⟨by decide +kernel, by decide +kernel⟩, List.mem_of_getElem? (i := 787) (by decide +kernel), List.mem_of_getElem? (i := 1110) (by decide +kernel), List.mem_of_getElem? (i := 1111) (by decide +kernel)⟩
theorem lw_p49 : lw_okq (⟨"WheelTicketsModel", "findEnds", "(I)V"⟩, 37) := ⟨⟨by decide +kernel, by decide +kernel⟩, List.mem_of_getElem? (i := 787) (by decide +kernel), List.mem_of_getElem? (i := 1114) (by decide +kernel), List.mem_of_getElem? (i := 1115) (by decide +kernel)⟩
theorem lw_p50 : lw_okq (⟨"WheelTicketsModel", "findOrders", "()V"⟩, 37) := ⟨⟨by decide +kernel, by decide +kernel⟩, List.mem_of_getElem? (i := 787) (by decide +kernel), List.mem_of_getElem? (i := 1118) (by decide +kernel), List.mem_of_getElem? (i := 1119) (by decide +kernel)⟩
theorem lw_p51 : lw_okq (⟨"WheelTicketsModel", "power", "(I)I"⟩, 37) := ⟨⟨by decide +kernel, by decide +kernel⟩, List.mem_of_getElem? (i := 787) (by decide +kernel), List.mem_of_getElem? (i := 1122) (by decide +kernel), List.mem_of_getElem? (i := 1123) (by decide +kernel)⟩
theorem lw_p52 : lw_okq (⟨"WheelTicketsModel", "addsOrder", "(I)V"⟩, 37) := ⟨⟨by decide +kernel, by decide +kernel⟩, List.mem_of_getElem? (i := 787) (by decide +kernel), List.mem_of_getElem? (i := 1126) (by decide +kernel), List.mem_of_getElem? (i := 1127) (by decide +kernel)⟩
theorem lw_p53 : lw_okq (⟨"WheelTicketsModel", "waysMany", "()I"⟩, 37) := ⟨⟨by decide +kernel, by decide +kernel⟩, List.mem_of_getElem? (i := 787) (by decide +kernel), List.mem_of_getElem? (i := 1132) (by decide +kernel), List.mem_of_getElem? (i := 1133) (by decide +kernel)⟩
theorem lw_p54 : lw_okq (⟨"WheelTicketsModel", "startsTried", "()V"⟩, 37) := ⟨⟨by decide +kernel, by decide +kernel⟩, List.mem_of_getElem? (i := 787) (by decide +kernel), List.mem_of_getElem? (i := 1136) (by decide +kernel), List.mem_of_getElem? (i := 1137) (by decide +kernel)⟩
theorem lw_p55 : lw_okq (⟨"WheelTicketsModel", "goesBy", "(I)V"⟩, 37) := ⟨⟨by decide +kernel, by decide +kernel⟩, List.mem_of_getElem? (i := 787) (by decide +kernel), List.mem_of_getElem? (i := 1140) (by decide +kernel), List.mem_of_getElem? (i := 1141) (by decide +kernel)⟩
theorem lw_p56 : lw_okq (⟨"WheelTicketsModel", "firstTicket", "(I)I"⟩, 37) := ⟨⟨by decide +kernel, by decide +kernel⟩, List.mem_of_getElem? (i := 787) (by decide +kernel), List.mem_of_getElem? (i := 1144) (by decide +kernel), List.mem_of_getElem? (i := 1145) (by decide +kernel)⟩
theorem lw_p57 : lw_okq (⟨"WheelTicketsModel", "ownerOf", "(I)I"⟩, 37) := ⟨⟨by decide +kernel, by decide +kernel⟩, List.mem_of_getElem? (i := 787) (by decide +kernel), List.mem_of_getElem? (i := 1166) (by decide +kernel), List.mem_of_getElem? (i := 1167) (by decide +kernel)⟩
theorem lw_p58 : lw_okq (⟨"WheelTicketsModel", "isFit", "(I)Z"⟩, 37) := ⟨⟨by decide +kernel, by decide +kernel⟩, List.mem_of_getElem? (i := 787) (by decide +kernel), List.mem_of_getElem? (i := 1194) (by decide +kernel), List.mem_of_getElem? (i := 1195) (by decide +kernel)⟩
theorem lw_p59 : lw_okq (⟨"WheelTicketsModel", "atOf", "(ZI)I"⟩, 37) := ⟨⟨by decide +kernel, by decide +kernel⟩, List.mem_of_getElem? (i := 787) (by decide +kernel), List.mem_of_getElem? (i := 1207) (by decide +kernel), List.mem_of_getElem? (i := 1208) (by decide +kernel)⟩
theorem lw_p60 : lw_okq (⟨"WheelTicketsModel", "copies", "(II)V"⟩, 37) := ⟨⟨by decide +kernel, by decide +kernel⟩, List.mem_of_getElem? (i := 787) (by decide +kernel), List.mem_of_getElem? (i := 1215) (by decide +kernel), List.mem_of_getElem? (i := 1216) (by decide +kernel)⟩
def lw_privs_4 : List (MethodName × Nat) := [(⟨"WheelTicketsModel", "tries", "(II)V"⟩, 37), (⟨"WheelTicketsModel", "findEnds", "(I)V"⟩, 37), (⟨"WheelTicketsModel", "findOrders", "()V"⟩, 37), (⟨"WheelTicketsModel", "power", "(I)I"⟩, 37), (⟨"WheelTicketsModel", "addsOrder", "(I)V"⟩, 37), (⟨"WheelTicketsModel", "waysMany", "()I"⟩, 37), (⟨"WheelTicketsModel", "startsTried", "()V"⟩, 37), (⟨"WheelTicketsModel", "goesBy", "(I)V"⟩, 37), (⟨"WheelTicketsModel", "firstTicket", "(I)I"⟩, 37), (⟨"WheelTicketsModel", "ownerOf", "(I)I"⟩, 37), (⟨"WheelTicketsModel", "isFit", "(I)Z"⟩, 37), (⟨"WheelTicketsModel", "atOf", "(ZI)I"⟩, 37), (⟨"WheelTicketsModel", "copies", "(II)V"⟩, 37)]
theorem lw_r4 : ∀ q ∈ lw_privs_4, lw_okq q := List.forall_mem_cons.mpr ⟨lw_p48, List.forall_mem_cons.mpr ⟨lw_p49, List.forall_mem_cons.mpr ⟨lw_p50, List.forall_mem_cons.mpr ⟨lw_p51, List.forall_mem_cons.mpr ⟨lw_p52, List.forall_mem_cons.mpr ⟨lw_p53, List.forall_mem_cons.mpr ⟨lw_p54, List.forall_mem_cons.mpr ⟨lw_p55, List.forall_mem_cons.mpr ⟨lw_p56, List.forall_mem_cons.mpr ⟨lw_p57, List.forall_mem_cons.mpr ⟨lw_p58, List.forall_mem_cons.mpr ⟨lw_p59, List.forall_mem_cons.mpr ⟨lw_p60, fun _ h => absurd h List.not_mem_nil⟩⟩⟩⟩⟩⟩⟩⟩⟩⟩⟩⟩⟩
def lw_privs : List (MethodName × Nat) := lw_privs_1 ++ (lw_privs_2 ++ (lw_privs_3 ++ (lw_privs_4)))
def lw_tbl : List Cond := k2_sels lw_privs ++ tables_1
theorem lw_privs_ok : ∀ q ∈ lw_privs, lw_okq q := by
  show ∀ q ∈ lw_privs_1 ++ (lw_privs_2 ++ (lw_privs_3 ++ (lw_privs_4))), lw_okq q
  exact List.forall_mem_append.mpr ⟨lw_r1, List.forall_mem_append.mpr ⟨lw_r2, List.forall_mem_append.mpr ⟨lw_r3, lw_r4⟩⟩⟩
-- ===== end of PART A =====
def RX0 : String := "WheelTickets$Rest"
def TX0 : u_T := fun k => match k with
  | 0 => ("WheelTickets$Rest", "left", "I", false)
  | 1 => ("WheelTickets$Rest", "orders", "I", false)
  | 2 => ("WheelTickets$Rest", "tickets", "[I", true)
  | 3 => ("WheelTickets$Rest", "prizes", "[I", true)
  | 4 => ("WheelTickets$Rest", "fees", "[I", true)
  | 5 => ("WheelTickets$Rest", "shares", "[I", true)
  | 6 => ("WheelTickets$Rest", "byFees", "[I", true)
  | 7 => ("WheelTickets$Rest", "byPrizes", "[I", true)
  | 8 => ("WheelTickets$Rest", "beside", "[I", true)
  | 9 => ("WheelTickets$Rest", "pairs", "[I", true)
  | _ => ("WheelTickets$Rest", "fitting", "I", false)
def tyX0 : Nat → FieldType := fun k => match k with
  | 0 => .int
  | 1 => .int
  | 2 => .array .int
  | 3 => .array .int
  | 4 => .array .int
  | 5 => .array .int
  | 6 => .array .int
  | 7 => .array .int
  | 8 => .array .int
  | 9 => .array .int
  | _ => .int
abbrev wsX00 : List Cond := u_ws RX0 TX0 11
theorem nmX0 : ∀ a, a < 11 → ∀ b, b < 11 → a ≠ b → (TX0 a).2.1 ≠ (TX0 b).2.1 := by decide +kernel
theorem tyX0_ok : ∀ k, k < 11 → parseFieldDescriptor (TX0 k).2.2.1 = some (tyX0 k) := by decide +kernel
def RX1 : String := "WheelTickets$Sheet"
def TX1 : u_T := fun k => match k with
  | 0 => ("WheelTickets$Sheet", "size", "I", false)
  | 1 => ("WheelTickets$Sheet", "lane", "I", false)
  | _ => ("WheelTickets$Sheet", "cells", "[I", true)
def tyX1 : Nat → FieldType := fun k => match k with
  | 0 => .int
  | 1 => .int
  | _ => .array .int
abbrev wsX10 : List Cond := u_ws RX1 TX1 3
theorem nmX1 : ∀ a, a < 3 → ∀ b, b < 3 → a ≠ b → (TX1 a).2.1 ≠ (TX1 b).2.1 := by decide +kernel
theorem tyX1_ok : ∀ k, k < 3 → parseFieldDescriptor (TX1 k).2.2.1 = some (tyX1 k) := by decide +kernel
def RX2 : String := "WheelTickets$Tape"
def TX2 : u_T := fun k => match k with
  | 0 => ("WheelTickets$Tape", "bytes", "[B", true)
  | 1 => ("WheelTickets$Tape", "length", "I", false)
  | 2 => ("WheelTickets$Tape", "place", "I", false)
  | 3 => ("WheelTickets$Tape", "token", "I", false)
  | 4 => ("WheelTickets$Tape", "start", "I", false)
  | _ => ("WheelTickets$Tape", "value", "I", false)
def tyX2 : Nat → FieldType := fun k => match k with
  | 0 => .array .byte
  | 1 => .int
  | 2 => .int
  | 3 => .int
  | 4 => .int
  | _ => .int
abbrev wsX20 : List Cond := u_ws RX2 TX2 6
theorem nmX2 : ∀ a, a < 6 → ∀ b, b < 6 → a ≠ b → (TX2 a).2.1 ≠ (TX2 b).2.1 := by decide +kernel
theorem tyX2_ok : ∀ k, k < 6 → parseFieldDescriptor (TX2 k).2.2.1 = some (tyX2 k) := by decide +kernel
def RX3 : String := "WheelTickets$Teller"
def TX3 : u_T := fun k => match k with
  | 0 => ("WheelTickets$Teller", "found", "I", false)
  | 1 => ("WheelTickets$Teller", "foundAt", "I", false)
  | 2 => ("WheelTickets$Teller", "numbers", "[I", true)
  | 3 => ("WheelTickets$Teller", "prizes", "I", false)
  | 4 => ("WheelTickets$Teller", "draws", "I", false)
  | 5 => ("WheelTickets$Teller", "drawnTickets", "[I", true)
  | _ => ("WheelTickets$Teller", "drawnPrizes", "[I", true)
def tyX3 : Nat → FieldType := fun k => match k with
  | 0 => .int
  | 1 => .int
  | 2 => .array .int
  | 3 => .int
  | 4 => .int
  | 5 => .array .int
  | _ => .array .int
abbrev wsX30 : List Cond := u_ws RX3 TX3 7
theorem nmX3 : ∀ a, a < 7 → ∀ b, b < 7 → a ≠ b → (TX3 a).2.1 ≠ (TX3 b).2.1 := by decide +kernel
theorem tyX3_ok : ∀ k, k < 7 → parseFieldDescriptor (TX3 k).2.2.1 = some (tyX3 k) := by decide +kernel
def RX4 : String := "WheelTickets$Wheel"
def TX4 : u_T := fun k => match k with
  | 0 => ("WheelTickets$Wheel", "people", "I", false)
  | 1 => ("WheelTickets$Wheel", "tickets", "I", false)
  | 2 => ("WheelTickets$Wheel", "seen", "I", false)
  | 3 => ("WheelTickets$Wheel", "purses", "[I", true)
  | 4 => ("WheelTickets$Wheel", "traits", "[I", true)
  | 5 => ("WheelTickets$Wheel", "drew", "[I", true)
  | 6 => ("WheelTickets$Wheel", "amounts", "[I", true)
  | 7 => ("WheelTickets$Wheel", "drawnBy", "[I", true)
  | 8 => ("WheelTickets$Wheel", "seenOf", "[I", true)
  | _ => ("WheelTickets$Wheel", "seenEnd", "[I", true)
def tyX4 : Nat → FieldType := fun k => match k with
  | 0 => .int
  | 1 => .int
  | 2 => .int
  | 3 => .array .int
  | 4 => .array .int
  | 5 => .array .int
  | 6 => .array .int
  | 7 => .array .int
  | 8 => .array .int
  | _ => .array .int
abbrev wsX40 : List Cond := u_ws RX4 TX4 10
theorem nmX4 : ∀ a, a < 10 → ∀ b, b < 10 → a ≠ b → (TX4 a).2.1 ≠ (TX4 b).2.1 := by decide +kernel
theorem tyX4_ok : ∀ k, k < 10 → parseFieldDescriptor (TX4 k).2.2.1 = some (tyX4 k) := by decide +kernel
def RX5 : String := "WheelTickets"
def TX5 : u_T := fun k => match k with
  | 0 => ("WheelTickets", "now", "LWheelTickets$Wheel;", true)
  | 1 => ("WheelTickets", "trial", "LWheelTickets$Wheel;", true)
  | 2 => ("WheelTickets", "images", "[LWheelTickets$Wheel;", true)
  | 3 => ("WheelTickets", "kept", "[I", true)
  | 4 => ("WheelTickets", "rest", "LWheelTickets$Rest;", true)
  | 5 => ("WheelTickets", "tape", "LWheelTickets$Tape;", true)
  | 6 => ("WheelTickets", "teller", "LWheelTickets$Teller;", true)
  | 7 => ("WheelTickets", "sheets", "[LWheelTickets$Sheet;", true)
  | _ => ("WheelTickets", "tornFault", "I", false)
def tyX5 : Nat → FieldType := fun k => match k with
  | 0 => .object "WheelTickets$Wheel"
  | 1 => .object "WheelTickets$Wheel"
  | 2 => .array (.object "WheelTickets$Wheel")
  | 3 => .array .int
  | 4 => .object "WheelTickets$Rest"
  | 5 => .object "WheelTickets$Tape"
  | 6 => .object "WheelTickets$Teller"
  | 7 => .array (.object "WheelTickets$Sheet")
  | _ => .int
abbrev wsX50 : List Cond := u_ws RX5 TX5 9
theorem nmX5 : ∀ a, a < 9 → ∀ b, b < 9 → a ≠ b → (TX5 a).2.1 ≠ (TX5 b).2.1 := by decide +kernel
theorem tyX5_ok : ∀ k, k < 9 → parseFieldDescriptor (TX5 k).2.2.1 = some (tyX5 k) := by decide +kernel
def RX6 : String := "WheelTicketsModel"
def TX6 : u_T := fun k => match k with
  | 0 => ("WheelTicketsModel", "st", "[I", true)
  | 1 => ("WheelTicketsModel", "now", "[I", true)
  | 2 => ("WheelTicketsModel", "isKept", "[Z", true)
  | 3 => ("WheelTicketsModel", "people", "I", false)
  | 4 => ("WheelTicketsModel", "tickets", "I", false)
  | 5 => ("WheelTicketsModel", "draft", "[I", true)
  | 6 => ("WheelTicketsModel", "dPeople", "I", false)
  | 7 => ("WheelTicketsModel", "dTickets", "I", false)
  | 8 => ("WheelTicketsModel", "dPrizes", "I", false)
  | 9 => ("WheelTicketsModel", "drawMany", "I", false)
  | 10 => ("WheelTicketsModel", "drawn", "[I", true)
  | 11 => ("WheelTicketsModel", "highest", "I", false)
  | 12 => ("WheelTicketsModel", "tape", "[I", true)
  | 13 => ("WheelTicketsModel", "taped", "I", false)
  | 14 => ("WheelTicketsModel", "pos", "I", false)
  | 15 => ("WheelTicketsModel", "from", "I", false)
  | 16 => ("WheelTicketsModel", "sort", "I", false)
  | 17 => ("WheelTicketsModel", "value", "I", false)
  | 18 => ("WheelTicketsModel", "fault", "I", false)
  | 19 => ("WheelTicketsModel", "wrongAt", "I", false)
  | 20 => ("WheelTicketsModel", "order", "[I", true)
  | 21 => ("WheelTicketsModel", "orderMany", "I", false)
  | 22 => ("WheelTicketsModel", "leftMany", "I", false)
  | 23 => ("WheelTicketsModel", "leftTicket", "[I", true)
  | 24 => ("WheelTicketsModel", "leftPrize", "[I", true)
  | 25 => ("WheelTicketsModel", "triedCell", "I", false)
  | 26 => ("WheelTicketsModel", "triedValue", "I", false)
  | 27 => ("WheelTicketsModel", "endSum", "J", false)
  | 28 => ("WheelTicketsModel", "endLeast", "I", false)
  | 29 => ("WheelTicketsModel", "endMost", "I", false)
  | 30 => ("WheelTicketsModel", "endFirst", "I", false)
  | 31 => ("WheelTicketsModel", "ways", "[I", true)
  | 32 => ("WheelTicketsModel", "lanes", "[I", true)
  | 33 => ("WheelTicketsModel", "sizes", "[I", true)
  | 34 => ("WheelTicketsModel", "cells", "[I", true)
  | 35 => ("WheelTicketsModel", "torn", "I", false)
  | _ => ("WheelTicketsModel", "had", "[I", true)
def tyX6 : Nat → FieldType := fun k => match k with
  | 0 => .array .int
  | 1 => .array .int
  | 2 => .array .boolean
  | 3 => .int
  | 4 => .int
  | 5 => .array .int
  | 6 => .int
  | 7 => .int
  | 8 => .int
  | 9 => .int
  | 10 => .array .int
  | 11 => .int
  | 12 => .array .int
  | 13 => .int
  | 14 => .int
  | 15 => .int
  | 16 => .int
  | 17 => .int
  | 18 => .int
  | 19 => .int
  | 20 => .array .int
  | 21 => .int
  | 22 => .int
  | 23 => .array .int
  | 24 => .array .int
  | 25 => .int
  | 26 => .int
  | 27 => .long
  | 28 => .int
  | 29 => .int
  | 30 => .int
  | 31 => .array .int
  | 32 => .array .int
  | 33 => .array .int
  | 34 => .array .int
  | 35 => .int
  | _ => .array .int
abbrev wsX60 : List Cond := u_ws RX6 TX6 37
theorem nmX6 : ∀ a, a < 37 → ∀ b, b < 37 → a ≠ b → (TX6 a).2.1 ≠ (TX6 b).2.1 := by decide +kernel
theorem tyX6_ok : ∀ k, k < 37 → parseFieldDescriptor (TX6 k).2.2.1 = some (tyX6 k) := by decide +kernel
/-- the words that a method may take along -/
def pm_gw : List Cond := lw_tbl.filter goodWord
theorem pm_in {w : Cond} (h : w ∈ tables_1) (g : goodWord w = true) : w ∈ pm_gw := List.mem_filter.mpr ⟨List.mem_append_right _ h, g⟩
theorem pm_ins {w : Cond} (h : w ∈ k2_sels lw_privs) (g : goodWord w = true) : w ∈ pm_gw := List.mem_filter.mpr ⟨List.mem_append_left _ h, g⟩
theorem pm_gg : GoodIn pm_gw pm_gw := fun w h => ⟨h, good_of_word (List.mem_filter.mp h).2⟩
def pm_RN : Nat → String := fun k => match k with
  | 0 => "WheelTickets$Rest"
  | 1 => "WheelTickets$Sheet"
  | 2 => "WheelTickets$Tape"
  | 3 => "WheelTickets$Teller"
  | 4 => "WheelTickets$Wheel"
  | 5 => "WheelTickets"
  | 6 => "WheelTicketsModel"
  | 7 => "WheelTicketsLaw"
  | 8 => "java/lang/String"
  | 9 => "java/lang/StringLatin1"
  | 10 => "java/util/Arrays"
  | 11 => "java/lang/Integer"
  | 12 => "java/lang/Math"
  | _ => "jdk/internal/util/Preconditions"
def pm_TN : Nat → u_T := fun k => match k with
  | 0 => TX0
  | 1 => TX1
  | 2 => TX2
  | 3 => TX3
  | 4 => TX4
  | 5 => TX5
  | _ => TX6
def pm_NN : Nat → Nat := fun k => match k with
  | 0 => 11
  | 1 => 3
  | 2 => 6
  | 3 => 7
  | 4 => 10
  | 5 => 9
  | _ => 37
def pm_tN : Nat → Nat → FieldType := fun k => match k with
  | 0 => tyX0
  | 1 => tyX1
  | 2 => tyX2
  | 3 => tyX3
  | 4 => tyX4
  | 5 => tyX5
  | _ => tyX6
def pm_cl : List vw_C := [(RX0, TX0, 11), (RX1, TX1, 3), (RX2, TX2, 6), (RX3, TX3, 7), (RX4, TX4, 10), (RX5, TX5, 9), (RX6, TX6, 37)]
theorem pm_clat : ∀ k, k < 7 → pm_cl[k]? = some (pm_RN k, pm_TN k, pm_NN k) := by
  intro k hk
  rcases k with _ | _ | _ | _ | _ | _ | _ | k
  all_goals first | rfl | omega
set_option maxRecDepth 20000 in
theorem pm_cw0 : (u_ws RX0 TX0 11).all (fun w => decide (w ∈ tables_1) && goodWord w) = true := by decide +kernel
set_option maxRecDepth 20000 in
theorem pm_cw1 : (u_ws RX1 TX1 3).all (fun w => decide (w ∈ tables_1) && goodWord w) = true := by decide +kernel
set_option maxRecDepth 20000 in
theorem pm_cw2 : (u_ws RX2 TX2 6).all (fun w => decide (w ∈ tables_1) && goodWord w) = true := by decide +kernel
set_option maxRecDepth 20000 in
theorem pm_cw3 : (u_ws RX3 TX3 7).all (fun w => decide (w ∈ tables_1) && goodWord w) = true := by decide +kernel
set_option maxRecDepth 20000 in
theorem pm_cw4 : (u_ws RX4 TX4 10).all (fun w => decide (w ∈ tables_1) && goodWord w) = true := by decide +kernel
set_option maxRecDepth 20000 in
theorem pm_cw5 : (u_ws RX5 TX5 9).all (fun w => decide (w ∈ tables_1) && goodWord w) = true := by decide +kernel
set_option maxRecDepth 20000 in
theorem pm_cw6 : (u_ws RX6 TX6 37).all (fun w => decide (w ∈ tables_1) && goodWord w) = true := by decide +kernel
theorem pm_allin {ws : List Cond} (h : ws.all (fun w => decide (w ∈ tables_1) && goodWord w) = true) : ∀ w ∈ ws, w ∈ pm_gw := fun w hw => by
  have := List.all_eq_true.mp h w hw
  simp only [Bool.and_eq_true, decide_eq_true_eq] at this
  exact pm_in this.1 this.2
theorem pm_cw : ∀ k, k < 7 → ∀ w ∈ u_ws (pm_RN k) (pm_TN k) (pm_NN k), w ∈ pm_gw := by
  intro k hk
  rcases k with _ | _ | _ | _ | _ | _ | _ | k
  · exact pm_allin pm_cw0
  · exact pm_allin pm_cw1
  · exact pm_allin pm_cw2
  · exact pm_allin pm_cw3
  · exact pm_allin pm_cw4
  · exact pm_allin pm_cw5
  · exact pm_allin pm_cw6
  · omega
theorem pm_ty : ∀ c, c < 7 → ∀ k, k < pm_NN c → parseFieldDescriptor (pm_TN c k).2.2.1 = some (pm_tN c k) := by
  intro c hc
  rcases c with _ | _ | _ | _ | _ | _ | _ | c
  · exact tyX0_ok
  · exact tyX1_ok
  · exact tyX2_ok
  · exact tyX3_ok
  · exact tyX4_ok
  · exact tyX5_ok
  · exact tyX6_ok
  · omega
theorem pm_nm : ∀ c, c < 7 → ∀ a, a < pm_NN c → ∀ b, b < pm_NN c → a ≠ b → (pm_TN c a).2.1 ≠ (pm_TN c b).2.1 := by
  intro c hc
  rcases c with _ | _ | _ | _ | _ | _ | _ | c
  · exact nmX0
  · exact nmX1
  · exact nmX2
  · exact nmX3
  · exact nmX4
  · exact nmX5
  · exact nmX6
  · omega
end
section
/-- which field a link of a class names: (class, index, the field's class, its place) -/
def pm_fls : List (Nat × Nat × Nat × Nat) := [(0, 9, 0, 0), (0, 15, 0, 1), (0, 18, 0, 2), (0, 22, 0, 3), (0, 25, 0, 4), (0, 28, 0, 5), (0, 31, 0, 6), (0, 34, 0, 7), (0, 37, 0, 8), (0, 40, 0, 9), (0, 43, 0, 10), (0, 63, 4, 6), (0, 74, 4, 3), (0, 81, 4, 0), (0, 132, 4, 2), (0, 135, 4, 8), (0, 138, 4, 9), (1, 9, 1, 0), (1, 15, 1, 1), (1, 18, 1, 2), (2, 9, 2, 0), (2, 15, 2, 1), (2, 19, 2, 2), (2, 22, 2, 3), (2, 25, 2, 4), (2, 28, 2, 5), (3, 9, 3, 0), (3, 15, 3, 1), (3, 18, 3, 2), (3, 22, 3, 3), (3, 25, 3, 4), (3, 28, 3, 5), (3, 31, 3, 6), (3, 48, 2, 1), (3, 58, 2, 3), (3, 61, 2, 4), (3, 91, 2, 5), (3, 98, 4, 0), (3, 101, 4, 1), (3, 108, 4, 6), (4, 9, 4, 0), (4, 15, 4, 1), (4, 18, 4, 2), (4, 21, 4, 3), (4, 25, 4, 4), (4, 28, 4, 5), (4, 31, 4, 6), (4, 34, 4, 7), (4, 37, 4, 8), (4, 40, 4, 9), (5, 10, 5, 0), (5, 16, 5, 1), (5, 19, 5, 2), (5, 23, 5, 3), (5, 30, 5, 4), (5, 37, 5, 5), (5, 44, 5, 6), (5, 50, 5, 7), (5, 54, 5, 8), (5, 67, 2, 1), (5, 74, 3, 0), (5, 87, 4, 0), (5, 90, 4, 1), (5, 109, 4, 3), (5, 122, 4, 5), (5, 128, 4, 6), (5, 131, 4, 7), (5, 224, 4, 2), (5, 233, 0, 10), (5, 266, 1, 2), (5, 272, 1, 0), (6, 7, 6, 0), (6, 13, 6, 1), (6, 16, 6, 2), (6, 20, 6, 5), (6, 23, 6, 10), (6, 26, 6, 12), (6, 29, 6, 20), (6, 32, 6, 23), (6, 35, 6, 24), (6, 38, 6, 31), (6, 41, 6, 32), (6, 44, 6, 33), (6, 47, 6, 34), (6, 50, 6, 36), (6, 59, 6, 6), (6, 63, 6, 7), (6, 66, 6, 8), (6, 69, 6, 9), (6, 72, 6, 11), (6, 75, 6, 3), (6, 78, 6, 4), (6, 87, 6, 13), (6, 90, 6, 18), (6, 93, 6, 15), (6, 96, 6, 19), (6, 99, 6, 14), (6, 113, 6, 16), (6, 124, 6, 17), (6, 175, 6, 22), (6, 178, 6, 21), (6, 197, 6, 25), (6, 200, 6, 26), (6, 206, 6, 27), (6, 211, 6, 28), (6, 215, 6, 29), (6, 218, 6, 30), (6, 318, 6, 35)]
def pm_ics : List (Nat × Nat × Int32) := [(11, 265, 1431655765), (11, 266, 858993459), (11, 267, 252645135), (5, 210, -2147483648), (0, 118, -2147483648), (5, 283, 1103515245), (6, 210, 1000000), (6, 214, -1000000), (6, 301, 1103515245)]
def pm_lcs : List (Nat × Nat × Int64) := [(5, 158, -1), (5, 166, -4), (5, 172, -2), (6, 81, 127), (6, 116, 97), (6, 118, 122), (6, 120, 48), (6, 122, 57), (6, 245, 2), (6, 250, 4), (6, 255, 3), (6, 257, 9), (6, 265, 99), (6, 274, -1), (6, 276, -4), (6, 282, -2), (6, 291, -999), (6, 293, 999), (6, 313, 20)]
def pm_strs : List String := ["whole", "hired", "split", "insured", "person", "prize", "draw"]
def pm_six : List Nat := [138, 140, 142, 144, 146, 148, 150]
def pm_slen : List Nat := [5, 5, 5, 7, 6, 5, 4]
def pm_sby : List (List Int32) := [[119, 104, 111, 108, 101], [104, 105, 114, 101, 100], [115, 112, 108, 105, 116], [105, 110, 115, 117, 114, 101, 100], [112, 101, 114, 115, 111, 110], [112, 114, 105, 122, 101], [100, 114, 97, 119]]
def pm_orl : List Int32 := [0, 1, 2, 3, 1, 0, 2, 3, 0, 2, 1, 3, 1, 2, 0, 3, 2, 0, 1, 3, 2, 1, 0, 3, 0, 1, 3, 2, 0, 2, 3, 1, 0, 3, 1, 2, 0, 3, 2, 1, 1, 0, 3, 2, 1, 2, 3, 0, 1, 3, 0, 2, 1, 3, 2, 0, 2, 0, 3, 1, 2, 1, 3, 0, 2, 3, 0, 1, 2, 3, 1, 0, 3, 0, 1, 2, 3, 0, 2, 1, 3, 1, 0, 2, 3, 1, 2, 0, 3, 2, 0, 1, 3, 2, 1, 0]
def pm_ORD (j : Nat) : Int32 := pm_orl.getD j 0
/-- links between nest mates -/
def pm_nw : List Cond := [.methodLinkNest "WheelTickets" 9 ⟨"WheelTickets$Wheel", "<init>", "()V"⟩ "WheelTickets", .methodLinkNest "WheelTickets" 29 ⟨"WheelTickets$Rest", "<init>", "()V"⟩ "WheelTickets", .methodLinkNest "WheelTickets" 36 ⟨"WheelTickets$Tape", "<init>", "()V"⟩ "WheelTickets", .methodLinkNest "WheelTickets" 43 ⟨"WheelTickets$Teller", "<init>", "()V"⟩ "WheelTickets", .methodLinkNest "WheelTickets" 58 ⟨"WheelTickets$Sheet", "<init>", "()V"⟩ "WheelTickets", .methodLinkNest "WheelTickets$Teller" 111 ⟨"WheelTickets", "within", "(III)Z"⟩ "WheelTickets", .methodLinkNest "WheelTickets$Wheel" 66 ⟨"WheelTickets", "within", "(III)Z"⟩ "WheelTickets", .fieldLinkNest "WheelTickets$Rest" 87 "WheelTickets" "ORDERS" "[I" "WheelTickets", .methodLinkNest "WheelTickets$Sheet" 22 ⟨"WheelTickets", "within", "(III)Z"⟩ "WheelTickets"]
set_option maxRecDepth 20000 in
theorem pm_nwin : pm_nw.all (fun w => decide (w ∈ tables_1)) = true := by decide +kernel
def pm_flc (e : Nat × Nat × Nat × Nat) : Cond := .fieldLink (pm_RN e.1) e.2.1 (pm_RN e.2.2.1) (pm_TN e.2.2.1 e.2.2.2).2.1 (pm_TN e.2.2.1 e.2.2.2).2.2.1
set_option maxRecDepth 20000 in
theorem pm_flok0 : pm_fls.all (fun e => (decide (pm_flc e ∈ tables_1) && goodWord (pm_flc e)) && (decide (e.2.2.1 < 7) && decide (e.2.2.2 < pm_NN e.2.2.1))) = true := by decide +kernel
theorem pm_flok {e : Nat × Nat × Nat × Nat} (h : e ∈ pm_fls) : pm_flc e ∈ pm_gw ∧ e.2.2.1 < 7 ∧ e.2.2.2 < pm_NN e.2.2.1 := by
  have := List.all_eq_true.mp pm_flok0 e h
  simp only [Bool.and_eq_true, decide_eq_true_eq] at this
  exact ⟨pm_in this.1.1 this.1.2, this.2.1, this.2.2⟩
def pm_fl (o i : Nat) : Option (Nat × Nat) := (pm_fls.find? (fun e => e.1 == o && e.2.1 == i)).map (fun e => e.2.2)
theorem pm_fl_ok {o i c k : Nat} (h : pm_fl o i = some (c, k)) : Cond.fieldLink (pm_RN o) i (pm_RN c) (pm_TN c k).2.1 (pm_TN c k).2.2.1 ∈ pm_gw ∧ c < 7 ∧ k < pm_NN c := by
  unfold pm_fl at h
  obtain ⟨e, h1, h2⟩ := Option.map_eq_some_iff.mp h
  have h3 := List.find?_some h1
  simp only [Bool.and_eq_true, beq_iff_eq] at h3
  obtain ⟨rfl, rfl⟩ := h3
  have h4 := pm_flok (List.mem_of_find?_eq_some h1)
  obtain ⟨a, b, c', k'⟩ := e
  simp only [Prod.mk.injEq] at h2
  obtain ⟨rfl, rfl⟩ := h2
  exact h4
set_option maxRecDepth 20000 in
theorem pm_icok0 : pm_ics.all (fun e => decide (Cond.constant (pm_RN e.1) e.2.1 e.2.2 ∈ tables_1) && goodWord (Cond.constant (pm_RN e.1) e.2.1 e.2.2)) = true := by decide +kernel
set_option maxRecDepth 20000 in
theorem pm_lcok0 : pm_lcs.all (fun e => decide (Cond.constantLong (pm_RN e.1) e.2.1 e.2.2 ∈ tables_1) && goodWord (Cond.constantLong (pm_RN e.1) e.2.1 e.2.2)) = true := by decide +kernel
def pm_ic (o i : Nat) : Option Int32 := (pm_ics.find? (fun e => e.1 == o && e.2.1 == i)).map (fun e => e.2.2)
def pm_lc (o i : Nat) : Option Int64 := (pm_lcs.find? (fun e => e.1 == o && e.2.1 == i)).map (fun e => e.2.2)
theorem pm_ic_ok {o i : Nat} {v : Int32} (h : pm_ic o i = some v) : Cond.constant (pm_RN o) i v ∈ pm_gw := by
  unfold pm_ic at h
  obtain ⟨e, h1, h2⟩ := Option.map_eq_some_iff.mp h
  have h3 := List.find?_some h1
  simp only [Bool.and_eq_true, beq_iff_eq] at h3
  obtain ⟨rfl, rfl⟩ := h3
  have h4 := List.all_eq_true.mp pm_icok0 e (List.mem_of_find?_eq_some h1)
  simp only [Bool.and_eq_true, decide_eq_true_eq] at h4
  subst h2
  exact pm_in h4.1 h4.2
theorem pm_lc_ok {o i : Nat} {v : Int64} (h : pm_lc o i = some v) : Cond.constantLong (pm_RN o) i v ∈ pm_gw := by
  unfold pm_lc at h
  obtain ⟨e, h1, h2⟩ := Option.map_eq_some_iff.mp h
  have h3 := List.find?_some h1
  simp only [Bool.and_eq_true, beq_iff_eq] at h3
  obtain ⟨rfl, rfl⟩ := h3
  have h4 := List.all_eq_true.mp pm_lcok0 e (List.mem_of_find?_eq_some h1)
  simp only [Bool.and_eq_true, decide_eq_true_eq] at h4
  subst h2
  exact pm_in h4.1 h4.2
end
section
/-! THE PURE MACHINE: values, cells by (kind, number), a step that a program can run. A reference is (kind, number); the memory gives each cell's ints. -/
abbrev pm_V : Type := Int32 ⊕ (Int64 ⊕ (Nat × Nat))
abbrev pm_M : Type := (Nat → Nat → Nat → Int32) × Int64
abbrev pm_L : Type := List (Option pm_V)
abbrev pm_i (x : Int32) : pm_V := .inl x
abbrev pm_l (x : Int64) : pm_V := .inr (.inl x)
abbrev pm_r (t k : Nat) : pm_V := .inr (.inr (t, k))
/-- addresses, the formatter, the array classes -/
abbrev pm_E : Type := (Nat → Nat → Nat) × Value × (Nat → ClassId)
abbrev pm_S : Type := Nat × pm_L × List pm_V × pm_M
abbrev pm_R : Type := Option (List Prop × pm_S)
/-- own class, name, code, locals, return type, the instructions by their places, frames, locals' words -/
abbrev pm_MI : Type := Nat × MethodName × ByteArray × Nat × Option FieldType × List (Nat × Instr) × Nat × Nat
def pm_cv (E : pm_E) (v : pm_V) : Value := match v with
  | .inl x => .int x
  | .inr (.inl x) => .long x
  | .inr (.inr (t, k)) => if t = 54 then E.2.1 else .ref (E.1 t k)
def pm_set (M : pm_M) (t k : Nat) (f : Nat → Int32) : pm_M := (fun a b => if a = t ∧ b = k then f else M.1 a b, M.2)
/-- a kind: an object (class, fields: 0 int, 1 long, 2 a reference (kind, first number)), an array of ints (type, length), an array of references (type, length, kind, first number) -/
def pm_sh : Nat → Option ((Nat × List (Nat × Nat × Nat)) ⊕ ((Nat × Nat) ⊕ (Nat × Nat × Nat × Nat))) := fun t => match t with
  | 0 => some (.inl (5, [(2, 4, 0), (2, 4, 1), (2, 1, 0), (2, 2, 0), (2, 12, 0), (2, 21, 0), (2, 23, 0), (2, 3, 0), (0, 0, 0)]))
  | 1 => some (.inr (.inr (3, 2, 4, 2)))
  | 2 => some (.inr (.inl (0, 2)))
  | 3 => some (.inr (.inr (4, 4, 27, 0)))
  | 4 => some (.inl (4, [(0, 0, 0), (0, 0, 0), (0, 0, 0), (2, 5, 0), (2, 6, 0), (2, 7, 0), (2, 8, 0), (2, 9, 0), (2, 10, 0), (2, 11, 0)]))
  | 5 => some (.inr (.inl (0, 4)))
  | 6 => some (.inr (.inl (0, 16)))
  | 7 => some (.inr (.inl (0, 4)))
  | 8 => some (.inr (.inl (0, 4)))
  | 9 => some (.inr (.inl (0, 4)))
  | 10 => some (.inr (.inl (0, 6)))
  | 11 => some (.inr (.inl (0, 6)))
  | 12 => some (.inl (0, [(0, 0, 0), (0, 0, 0), (2, 13, 0), (2, 14, 0), (2, 15, 0), (2, 16, 0), (2, 17, 0), (2, 18, 0), (2, 19, 0), (2, 20, 0), (0, 0, 0)]))
  | 13 => some (.inr (.inl (0, 4)))
  | 14 => some (.inr (.inl (0, 4)))
  | 15 => some (.inr (.inl (0, 4)))
  | 16 => some (.inr (.inl (0, 16)))
  | 17 => some (.inr (.inl (0, 96)))
  | 18 => some (.inr (.inl (0, 96)))
  | 19 => some (.inr (.inl (0, 4)))
  | 20 => some (.inr (.inl (0, 16)))
  | 21 => some (.inl (2, [(2, 22, 0), (0, 0, 0), (0, 0, 0), (0, 0, 0), (0, 0, 0), (0, 0, 0)]))
  | 22 => some (.inr (.inl (1, 160)))
  | 23 => some (.inl (3, [(0, 0, 0), (0, 0, 0), (2, 24, 0), (0, 0, 0), (0, 0, 0), (2, 25, 0), (2, 26, 0)]))
  | 24 => some (.inr (.inl (0, 3)))
  | 25 => some (.inr (.inl (0, 4)))
  | 26 => some (.inr (.inl (0, 4)))
  | 27 => some (.inl (1, [(0, 0, 0), (0, 0, 0), (2, 28, 0)]))
  | 28 => some (.inr (.inl (0, 40)))
  | 29 => some (.inl (6, [(2, 30, 0), (2, 31, 0), (2, 32, 0), (0, 0, 0), (0, 0, 0), (2, 33, 0), (0, 0, 0), (0, 0, 0), (0, 0, 0), (0, 0, 0), (2, 34, 0), (0, 0, 0), (2, 35, 0), (0, 0, 0), (0, 0, 0), (0, 0, 0), (0, 0, 0), (0, 0, 0), (0, 0, 0), (0, 0, 0), (2, 36, 0), (0, 0, 0), (0, 0, 0), (2, 37, 0), (2, 38, 0), (0, 0, 0), (0, 0, 0), (1, 0, 0), (0, 0, 0), (0, 0, 0), (0, 0, 0), (2, 39, 0), (2, 40, 0), (2, 41, 0), (2, 42, 0), (0, 0, 0), (2, 43, 0)]))
  | 30 => some (.inr (.inl (0, 135)))
  | 31 => some (.inr (.inl (0, 45)))
  | 32 => some (.inr (.inl (2, 2)))
  | 33 => some (.inr (.inl (0, 45)))
  | 34 => some (.inr (.inl (0, 8)))
  | 35 => some (.inr (.inl (0, 160)))
  | 36 => some (.inr (.inl (0, 100)))
  | 37 => some (.inr (.inl (0, 4)))
  | 38 => some (.inr (.inl (0, 4)))
  | 39 => some (.inr (.inl (0, 16)))
  | 40 => some (.inr (.inl (0, 4)))
  | 41 => some (.inr (.inl (0, 4)))
  | 42 => some (.inr (.inl (0, 160)))
  | 43 => some (.inr (.inl (0, 45)))
  | _ => none
/-- how many cells there are of a kind -/
def pm_cnt : Nat → Nat := fun t => match t with
  | 4 => 4
  | 5 => 4
  | 6 => 4
  | 7 => 4
  | 8 => 4
  | 9 => 4
  | 10 => 4
  | 11 => 4
  | 27 => 4
  | 28 => 4
  | 50 => 1
  | 51 => 1
  | 52 => 7
  | 53 => 7
  | 54 => 1
  | t => if t < 44 then 1 else 0
def pm_okv (v : pm_V) : Prop := match v with
  | .inr (.inr (t, k)) => k < pm_cnt t
  | _ => True
def pm_all : List Prop → Prop
  | [] => True
  | p :: ps => p ∧ pm_all ps
theorem pm_all_app {a b : List Prop} (h : pm_all (a ++ b)) : pm_all a ∧ pm_all b := by
  induction a with
  | nil => exact ⟨trivial, h⟩
  | cons p ps ih => exact ⟨⟨h.1, (ih h.2).1⟩, (ih h.2).2⟩
/-- how long an instruction is -/
def pm_len (pc : Nat) (i : Instr) : Nat := match i with
  | .bipush _ => 2
  | .iload _ => 2
  | .lload _ => 2
  | .aload _ => 2
  | .istore _ => 2
  | .lstore _ => 2
  | .astore _ => 2
  | .ldc _ => 2
  | .newarray _ => 2
  | .sipush _ => 3
  | .iinc _ _ => 3
  | .goto _ => 3
  | .ifCond _ _ => 3
  | .if_icmp _ _ => 3
  | .getfield _ => 3
  | .putfield _ => 3
  | .getstatic _ => 3
  | .invokevirtual _ => 3
  | .invokespecial _ => 3
  | .invokestatic _ => 3
  | .ldc_w _ => 3
  | .ldc2_w _ => 3
  | .new _ => 3
  | .anewarray _ => 3
  | .tableswitch _ _ _ offs => 1 + (3 - pc % 4) + 12 + 4 * offs.size
  | .lookupswitch _ ps => 1 + (3 - pc % 4) + 8 + 8 * ps.size
  | _ => 1
-- locals
def pm_clr (ls : pm_L) (k : Nat) : pm_L := match k with
  | 0 => ls
  | j + 1 => match ls[j]? with
    | some (some (.inr (.inl _))) => ls.set j none
    | _ => ls
def pm_st1 (ls : pm_L) (k : Nat) (v : pm_V) : pm_L := (pm_clr ls k).set k (some v)
def pm_st2 (ls : pm_L) (k : Nat) (v : pm_V) : pm_L := ((pm_clr ls k).set k (some v)).set (k + 1) none
def pm_ldi (ls : pm_L) (k : Nat) : Option pm_V := match ls[k]? with
  | some (some (.inl x)) => some (pm_i x)
  | _ => none
def pm_ldl (ls : pm_L) (k : Nat) : Option pm_V := match ls[k]? with
  | some (some (.inr (.inl x))) => some (pm_l x)
  | _ => none
def pm_lda (ls : pm_L) (k : Nat) : Option pm_V := match ls[k]? with
  | some (some (.inr (.inr (t, j)))) => if t = 54 then none else some (pm_r t j)
  | _ => none
-- families of steps
def pm_push (d pc : Nat) (ls : pm_L) (st : List pm_V) (M : pm_M) (v : Option pm_V) : pm_R := match v with
  | some v => some ([], pc + d, ls, v :: st, M)
  | none => none
def pm_sti (d pc : Nat) (ls : pm_L) (st : List pm_V) (M : pm_M) (k : Nat) : pm_R := match st with
  | .inl x :: r => if k < ls.length then some ([], pc + d, pm_st1 ls k (pm_i x), r, M) else none
  | _ => none
def pm_stl (d pc : Nat) (ls : pm_L) (st : List pm_V) (M : pm_M) (k : Nat) : pm_R := match st with
  | .inr (.inl x) :: r => if k + 1 < ls.length then some ([], pc + d, pm_st2 ls k (pm_l x), r, M) else none
  | _ => none
def pm_sta (d pc : Nat) (ls : pm_L) (st : List pm_V) (M : pm_M) (k : Nat) : pm_R := match st with
  | .inr (.inr (t, j)) :: r => if t = 54 then none else if k < ls.length then some ([], pc + d, pm_st1 ls k (pm_r t j), r, M) else none
  | _ => none
def pm_bi (pc : Nat) (ls : pm_L) (st : List pm_V) (M : pm_M) (f : Int32 → Int32 → Int32) : pm_R := match st with
  | .inl y :: .inl x :: r => some ([], pc + 1, ls, pm_i (f x y) :: r, M)
  | _ => none
def pm_bd (pc : Nat) (ls : pm_L) (st : List pm_V) (M : pm_M) (f : Int32 → Int32 → Int32) : pm_R := match st with
  | .inl y :: .inl x :: r => some ([¬ y = 0], pc + 1, ls, pm_i (f x y) :: r, M)
  | _ => none
def pm_bl (pc : Nat) (ls : pm_L) (st : List pm_V) (M : pm_M) (f : Int64 → Int64 → Int64) : pm_R := match st with
  | .inr (.inl y) :: .inr (.inl x) :: r => some ([], pc + 1, ls, pm_l (f x y) :: r, M)
  | _ => none
def pm_bld (pc : Nat) (ls : pm_L) (st : List pm_V) (M : pm_M) (f : Int64 → Int64 → Int64) : pm_R := match st with
  | .inr (.inl y) :: .inr (.inl x) :: r => some ([¬ y = 0], pc + 1, ls, pm_l (f x y) :: r, M)
  | _ => none
def pm_lcmp (pc : Nat) (ls : pm_L) (st : List pm_V) (M : pm_M) : pm_R := match st with
  | .inr (.inl y) :: .inr (.inl x) :: r => some ([], pc + 1, ls, pm_i (lg_cmp x y) :: r, M)
  | _ => none
def pm_ui (pc : Nat) (ls : pm_L) (st : List pm_V) (M : pm_M) (f : Int32 → pm_V) : pm_R := match st with
  | .inl x :: r => some ([], pc + 1, ls, f x :: r, M)
  | _ => none
def pm_ul (pc : Nat) (ls : pm_L) (st : List pm_V) (M : pm_M) (f : Int64 → pm_V) : pm_R := match st with
  | .inr (.inl x) :: r => some ([], pc + 1, ls, f x :: r, M)
  | _ => none
def pm_is1 (v : pm_V) : Bool := match v with
  | .inr (.inl _) => false
  | _ => true
def pm_dup (pc : Nat) (ls : pm_L) (st : List pm_V) (M : pm_M) : pm_R := match st with
  | v :: r => if pm_is1 v = true then some ([], pc + 1, ls, v :: v :: r, M) else none
  | _ => none
def pm_dup2 (pc : Nat) (ls : pm_L) (st : List pm_V) (M : pm_M) : pm_R := match st with
  | v :: w :: r => if (pm_is1 v && pm_is1 w) = true then some ([], pc + 1, ls, v :: w :: v :: w :: r, M) else none
  | _ => none
def pm_pop (pc : Nat) (ls : pm_L) (st : List pm_V) (M : pm_M) : pm_R := match st with
  | v :: r => if pm_is1 v = true then some ([], pc + 1, ls, r, M) else none
  | _ => none
def pm_tg (pc : Nat) (off : Int) : Nat := ((pc : Int) + off).toNat
def pm_if (pc : Nat) (ls : pm_L) (st : List pm_V) (M : pm_M) (off : Int) (f : Int32 → Nat → Nat → Nat) : pm_R := match st with
  | .inl x :: r => if 0 ≤ (pc : Int) + off then some ([], f x (pm_tg pc off) (pc + 3), ls, r, M) else none
  | _ => none
def pm_ic2 (pc : Nat) (ls : pm_L) (st : List pm_V) (M : pm_M) (off : Int) (f : Int32 → Int32 → Nat → Nat → Nat) : pm_R := match st with
  | .inl y :: .inl x :: r => if 0 ≤ (pc : Int) + off then some ([], f x y (pm_tg pc off) (pc + 3), ls, r, M) else none
  | _ => none
/-- a field that a program reads -/
def pm_gf (o idx t k : Nat) (M : pm_M) : Option pm_V := match pm_fl o idx with
  | some (ci, kf) => match pm_sh t with
    | some (.inl (cj, fs)) => if ci = cj then match fs[kf]? with
        | some (0, _, _) => some (pm_i (M.1 t k kf))
        | some (1, _, _) => some (pm_l M.2)
        | some (2, t', b) => some (pm_r t' (b + k))
        | _ => none
      else none
    | _ => none
  | none => if o = 8 ∧ t = 52 then (if idx = 9 then some (pm_r 53 k) else if idx = 15 then some (pm_i 0) else none) else none
def pm_pf (o idx t k : Nat) (v : pm_V) (M : pm_M) : Option pm_M := match pm_fl o idx with
  | some (ci, kf) => match pm_sh t with
    | some (.inl (cj, fs)) => if ci = cj then match fs[kf]?, v with
        | some (0, _, _), .inl x => some (pm_set M t k (upd (M.1 t k) kf x))
        | some (1, _, _), .inr (.inl x) => some (M.1, x)
        | _, _ => none
      else none
    | _ => none
  | none => none
def pm_ia (o t k : Nat) (i : Int32) (M : pm_M) : Option (Prop × Int32) := match pm_sh t with
  | some (.inr (.inl (0, n))) => some (vp_in i n, M.1 t k i.toNatClampNeg)
  | some _ => none
  | none => if t = 51 then some (vp_in i 96, pm_ORD i.toNatClampNeg) else if t = 50 ∧ o = 7 then some (vp_in i (M.1 49 0 0).toNatClampNeg, M.1 50 0 i.toNatClampNeg) else none
def pm_ba (t k : Nat) (i : Int32) (M : pm_M) : Option (Prop × Int32) := match pm_sh t with
  | some (.inr (.inl (1, n))) => some (vp_in i n, M.1 t k i.toNatClampNeg)
  | some (.inr (.inl (2, n))) => some (vp_in i n, M.1 t k i.toNatClampNeg)
  | some _ => none
  | none => if t = 53 then some (vp_in i (pm_slen.getD k 0), (pm_sby.getD k []).getD i.toNatClampNeg 0) else none
def pm_al (o t k : Nat) (M : pm_M) : Option Int32 := match pm_sh t with
  | some (.inr (.inl (_, n))) => some (Int32.ofNat n)
  | some (.inr (.inr (_, n, _, _))) => some (Int32.ofNat n)
  | some _ => none
  | none => if t = 51 then some 96 else if t = 53 then some (Int32.ofNat (pm_slen.getD k 0)) else if t = 50 ∧ o = 7 then some (M.1 49 0 0) else none
def pm_gs (o idx : Nat) : Option pm_V := if o = 0 ∧ idx = 87 then some (pm_r 51 0) else if o = 8 ∧ idx = 38 then some (pm_i 1) else if o = 8 ∧ idx = 1053 then some (pm_r 54 0) else none
def pm_ldc (o idx : Nat) : Option pm_V := match pm_ic o idx with
  | some v => some (pm_i v)
  | none => if o = 3 then (pm_six.findIdx? (fun j => j == idx)).map (fun j => pm_r 52 j) else none
/-- a step of an instruction that calls nothing: what must hold for it, and the next state -/
def pm_step (o : Nat) (i : Instr) (pc : Nat) (ls : pm_L) (st : List pm_V) (M : pm_M) : pm_R := match i with
  | .iconst z => some ([], pc + 1, ls, pm_i (Int32.ofInt z) :: st, M)
  | .bipush z => some ([], pc + 2, ls, pm_i (Int8.ofInt z).toInt32 :: st, M)
  | .sipush z => some ([], pc + 3, ls, pm_i (Int16.ofInt z).toInt32 :: st, M)
  | .lconst z => some ([], pc + 1, ls, pm_l (Int64.ofNat (z : Nat)) :: st, M)
  | .iload_n k => pm_push 1 pc ls st M (pm_ldi ls k)
  | .iload k => pm_push 2 pc ls st M (pm_ldi ls k)
  | .lload_n k => pm_push 1 pc ls st M (pm_ldl ls k)
  | .lload k => pm_push 2 pc ls st M (pm_ldl ls k)
  | .aload_n k => pm_push 1 pc ls st M (pm_lda ls k)
  | .aload k => pm_push 2 pc ls st M (pm_lda ls k)
  | .istore_n k => pm_sti 1 pc ls st M k
  | .istore k => pm_sti 2 pc ls st M k
  | .lstore_n k => pm_stl 1 pc ls st M k
  | .lstore k => pm_stl 2 pc ls st M k
  | .astore_n k => pm_sta 1 pc ls st M k
  | .astore k => pm_sta 2 pc ls st M k
  | .iinc k z => match ls[k]? with
    | some (some (.inl x)) => some ([], pc + 3, pm_st1 ls k (pm_i (x + Int32.ofInt z)), st, M)
    | _ => none
  | .iadd => pm_bi pc ls st M (fun x y => x + y)
  | .isub => pm_bi pc ls st M (fun x y => x - y)
  | .imul => pm_bi pc ls st M (fun x y => x * y)
  | .iand => pm_bi pc ls st M (fun x y => x &&& y)
  | .ior => pm_bi pc ls st M (fun x y => x ||| y)
  | .ishl => pm_bi pc ls st M (fun x y => x <<< (y &&& 31))
  | .ishr => pm_bi pc ls st M (fun x y => x >>> (y &&& 31))
  | .iushr => pm_bi pc ls st M (fun x y => (x.toUInt32 >>> (y.toUInt32 &&& Int32.toUInt32 31)).toInt32)
  | .idiv => pm_bd pc ls st M (fun x y => x / y)
  | .irem => pm_bd pc ls st M (fun x y => x - x / y * y)
  | .ladd => pm_bl pc ls st M (fun x y => x + y)
  | .lmul => pm_bl pc ls st M (fun x y => x * y)
  | .ldiv => pm_bld pc ls st M (fun x y => x / y)
  | .lrem => pm_bld pc ls st M (fun x y => x - x / y * y)
  | .lcmp => pm_lcmp pc ls st M
  | .ineg => pm_ui pc ls st M (fun x => pm_i (-x))
  | .i2l => pm_ui pc ls st M (fun x => pm_l x.toInt64)
  | .i2b => pm_ui pc ls st M (fun x => pm_i x.toInt8.toInt32)
  | .i2s => pm_ui pc ls st M (fun x => pm_i x.toInt16.toInt32)
  | .i2c => pm_ui pc ls st M (fun x => pm_i (x.toUInt32 % 65536).toInt32)
  | .lneg => pm_ul pc ls st M (fun x => pm_l (-x))
  | .dup => pm_dup pc ls st M
  | .dup2 => pm_dup2 pc ls st M
  | .pop => pm_pop pc ls st M
  | .goto off => if 0 ≤ (pc : Int) + off then some ([], pm_tg pc off, ls, st, M) else none
  | .ifCond .eq off => pm_if pc ls st M off (fun x a b => if x = 0 then a else b)
  | .ifCond .ne off => pm_if pc ls st M off (fun x a b => if x = 0 then b else a)
  | .ifCond .lt off => pm_if pc ls st M off (fun x a b => if x < 0 then a else b)
  | .ifCond .ge off => pm_if pc ls st M off (fun x a b => if 0 ≤ x then a else b)
  | .ifCond .gt off => pm_if pc ls st M off (fun x a b => if 0 < x then a else b)
  | .ifCond .le off => pm_if pc ls st M off (fun x a b => if x ≤ 0 then a else b)
  | .if_icmp .eq off => pm_ic2 pc ls st M off (fun x y a b => if x = y then a else b)
  | .if_icmp .ne off => pm_ic2 pc ls st M off (fun x y a b => if x = y then b else a)
  | .if_icmp .lt off => pm_ic2 pc ls st M off (fun x y a b => if x < y then a else b)
  | .if_icmp .ge off => pm_ic2 pc ls st M off (fun x y a b => if y ≤ x then a else b)
  | .if_icmp .gt off => pm_ic2 pc ls st M off (fun x y a b => if y < x then a else b)
  | .if_icmp .le off => pm_ic2 pc ls st M off (fun x y a b => if x ≤ y then a else b)
  | .getfield idx => match st with
    | .inr (.inr (t, k)) :: r => match pm_gf o idx t k M with
      | some v => some ([], pc + 3, ls, v :: r, M)
      | none => none
    | _ => none
  | .putfield idx => match st with
    | v :: .inr (.inr (t, k)) :: r => match pm_pf o idx t k v M with
      | some M' => some ([], pc + 3, ls, r, M')
      | none => none
    | _ => none
  | .getstatic idx => pm_push 3 pc ls st M (pm_gs o idx)
  | .ldc idx => pm_push 2 pc ls st M (pm_ldc o idx)
  | .ldc_w idx => pm_push 3 pc ls st M ((pm_ic o idx).map (fun x => pm_i x))
  | .ldc2_w idx => pm_push 3 pc ls st M ((pm_lc o idx).map (fun x => pm_l x))
  | .iaload => match st with
    | .inl i :: .inr (.inr (t, k)) :: r => match pm_ia o t k i M with
      | some (c, x) => some ([c], pc + 1, ls, pm_i x :: r, M)
      | none => none
    | _ => none
  | .baload => match st with
    | .inl i :: .inr (.inr (t, k)) :: r => match pm_ba t k i M with
      | some (c, x) => some ([c], pc + 1, ls, pm_i x :: r, M)
      | none => none
    | _ => none
  | .aaload => match st with
    | .inl i :: .inr (.inr (t, _)) :: r => match pm_sh t with
      | some (.inr (.inr (_, n, t', b))) => some ([vp_in i n], pc + 1, ls, pm_r t' (b + i.toNatClampNeg) :: r, M)
      | _ => none
    | _ => none
  | .iastore => match st with
    | .inl x :: .inl i :: .inr (.inr (t, k)) :: r => match pm_sh t with
      | some (.inr (.inl (0, n))) => some ([vp_in i n], pc + 1, ls, r, pm_set M t k (upd (M.1 t k) i.toNatClampNeg x))
      | _ => none
    | _ => none
  | .bastore => match st with
    | .inl x :: .inl i :: .inr (.inr (t, k)) :: r => match pm_sh t with
      | some (.inr (.inl (1, n))) => some ([vp_in i n], pc + 1, ls, r, pm_set M t k (upd (M.1 t k) i.toNatClampNeg (vp_nar .byte x)))
      | some (.inr (.inl (2, n))) => some ([vp_in i n], pc + 1, ls, r, pm_set M t k (upd (M.1 t k) i.toNatClampNeg (vp_nar .boolean x)))
      | _ => none
    | _ => none
  | .arraylength => match st with
    | .inr (.inr (t, k)) :: r => match pm_al o t k M with
      | some x => some ([], pc + 1, ls, pm_i x :: r, M)
      | none => none
    | _ => none
  | _ => none
def pm_tab (mi : pm_MI) (pc : Nat) : Option Instr := (mi.2.2.2.2.2.1.find? (fun e => e.1 == pc)).map (fun e => e.2)
/-- n steps, and what must hold for them -/
def pm_run (mi : pm_MI) : Nat → Nat → pm_L → List pm_V → pm_M → pm_R
  | 0, pc, ls, st, M => some ([], pc, ls, st, M)
  | n + 1, pc, ls, st, M => match pm_tab mi pc with
    | some i => match pm_step mi.1 i pc ls st M with
      | some (c, pc1, ls1, st1, M1) => match pm_run mi n pc1 ls1 st1 M1 with
        | some (c2, s2) => some (c ++ c2, s2)
        | none => none
      | none => none
    | none => none
end
section
/-! the world of the pure machine in the heap -/
def pm_fv (E : pm_E) (M : pm_M) (t k i : Nat) (f : Nat × Nat × Nat) : Value := match f with
  | (0, _, _) => .int (M.1 t k i)
  | (1, _, _) => .long M.2
  | (_, t', b) => .ref (E.1 t' (b + k))
def pm_ent (E : pm_E) (M : pm_M) (t k : Nat) : va_E := match pm_sh t with
  | some (.inl (ci, fs)) => .inr (ci, fs.mapIdx (fun i f => pm_fv E M t k i f))
  | some (.inr (.inl (ty, n))) => .inl (E.2.2 ty, n, .inl (M.1 t k))
  | some (.inr (.inr (ty, n, t', b))) => .inl (E.2.2 ty, n, .inr (.inr (.inr (.inr (fun i => some (E.1 t' (b + i)))))))
  | none => .inl (E.2.2 0, 0, .inl (fun _ => 0))
def pm_cells : List (Nat × Nat) := (List.range 44).flatMap (fun t => (List.range (pm_cnt t)).map (fun k => (t, k)))
def pm_wl (E : pm_E) (M : pm_M) : va_W := pm_cells.map (fun q => (E.1 q.1 q.2, pm_ent E M q.1 q.2))
theorem pm_cells_in {t k : Nat} (ht : t < 44) (hk : k < pm_cnt t) : (t, k) ∈ pm_cells := by
  unfold pm_cells
  rw [List.mem_flatMap]
  exact ⟨t, List.mem_range.mpr ht, List.mem_map.mpr ⟨k, List.mem_range.mpr hk, rfl⟩⟩
theorem pm_cells_nd : pm_cells.Nodup := by decide +kernel
theorem pm_sh_lt {t : Nat} {x : (Nat × List (Nat × Nat × Nat)) ⊕ ((Nat × Nat) ⊕ (Nat × Nat × Nat × Nat))} (h : pm_sh t = some x) : t < 44 := by
  apply Nat.lt_of_not_le
  intro h9
  obtain ⟨j, rfl⟩ := Nat.exists_eq_add_of_le h9
  rw [Nat.add_comm] at h
  simp [pm_sh] at h
/-- a cell of the world, and what a write to it alone makes of the world -/
theorem pm_at (E : pm_E) (M : pm_M) {t k : Nat} (ht : t < 44) (hk : k < pm_cnt t) : ∃ j, (pm_wl E M)[j]? = some (E.1 t k, pm_ent E M t k) ∧ ∀ M' : pm_M, (∀ q ∈ pm_cells, q ≠ (t, k) → pm_ent E M' q.1 q.2 = pm_ent E M q.1 q.2) → (pm_wl E M).set j (E.1 t k, pm_ent E M' t k) = pm_wl E M' := by
  obtain ⟨j, hj⟩ := List.getElem?_of_mem (pm_cells_in ht hk)
  refine ⟨j, by simp [pm_wl, hj], fun M' h => ?_⟩
  apply List.ext_getElem?
  intro i
  rw [List.getElem?_set]
  by_cases hij : j = i
  · subst hij
    rw [if_pos rfl]
    have hlt : j < pm_cells.length := (List.getElem?_eq_some_iff.mp hj).1
    rw [if_pos (by simp [pm_wl]; exact hlt)]
    simp [pm_wl, hj]
  · rw [if_neg hij]
    simp only [pm_wl, List.getElem?_map]
    cases hc : pm_cells[i]? with
    | none => rfl
    | some q =>
      have hne : q ≠ (t, k) := fun e => by
        subst e
        exact hij ((List.getElem?_inj (List.getElem?_eq_some_iff.mp hj).1 pm_cells_nd).mp (hj.trans hc.symm))
      simp only [Option.map_some]
      rw [h q (List.mem_of_getElem? hc) hne]
theorem pm_ent_eq {E : pm_E} {M M' : pm_M} {t k : Nat} (h1 : M'.1 t k = M.1 t k) (h2 : M'.2 = M.2) : pm_ent E M' t k = pm_ent E M t k := by
  unfold pm_ent
  split
  · congr 3
    funext i f
    unfold pm_fv
    split <;> simp [h1, h2]
  · rw [h1]
  · rfl
  · rfl
theorem pm_ent_set {E : pm_E} {M : pm_M} {t k : Nat} {f : Nat → Int32} : ∀ q ∈ pm_cells, q ≠ (t, k) → pm_ent E (pm_set M t k f) q.1 q.2 = pm_ent E M q.1 q.2 := by
  intro q _ hne
  refine pm_ent_eq ?_ rfl
  have : ¬ (q.1 = t ∧ q.2 = k) := fun h => hne (by obtain ⟨a, b⟩ := q; simp_all)
  simp [pm_set, this]
theorem pm_set_at (M : pm_M) (t k : Nat) (f : Nat → Int32) : (pm_set M t k f).1 t k = f := by simp [pm_set]
theorem pm_addr (E : pm_E) (M M' : pm_M) (j : Nat) : ((pm_wl E M)[j]?).map (fun q => q.1) = ((pm_wl E M')[j]?).map (fun q => q.1) := by
  simp only [pm_wl, List.getElem?_map]
  cases pm_cells[j]? <;> rfl
theorem pm_D_any {E : pm_E} {M M' : pm_M} {A : Nat → Prop} (h : va_D A (pm_wl E M)) : va_D A (pm_wl E M') := by
  have tr : ∀ (j : Nat) (q : Nat × va_E), (pm_wl E M')[j]? = some q → ∃ q', (pm_wl E M)[j]? = some q' ∧ q'.1 = q.1 := by
    intro j q hq
    have := pm_addr E M M' j
    rw [hq] at this
    simp only [Option.map_some] at this
    exact Option.map_eq_some_iff.mp this
  refine ⟨fun i j p q hp hq e => ?_, fun k q hq => ?_⟩
  · obtain ⟨p', hp', ep⟩ := tr i p hp
    obtain ⟨q', hq', eq⟩ := tr j q hq
    exact h.1 i j p' q' hp' hq' (by rw [ep, eq, e])
  · obtain ⟨q', hq', eq⟩ := tr k q hq
    rw [← eq]
    exact h.2 k q' hq'
/-- the places that a method may write: the world's cells, and what is new -/
def pm_A (E : pm_E) (sz : Nat) : Nat → Prop := fun q => (∃ c ∈ pm_cells, q = E.1 c.1 c.2) ∨ sz ≤ q
theorem pm_D_A {E : pm_E} {M : pm_M} {A : Nat → Prop} {sz : Nat} (h : va_D A (pm_wl E M)) : va_D (pm_A E sz) (pm_wl E M) := by
  refine ⟨h.1, fun k q hq => Or.inl ?_⟩
  simp only [pm_wl, List.getElem?_map] at hq
  obtain ⟨c, h1, h2⟩ := Option.map_eq_some_iff.mp hq
  exact ⟨c, List.mem_of_getElem? h1, by rw [← h2]⟩
theorem pm_A_in {E : pm_E} {M : pm_M} {A : Nat → Prop} {c : Nat × Nat} (h : va_D A (pm_wl E M)) (hc : c ∈ pm_cells) : A (E.1 c.1 c.2) := by
  obtain ⟨j, hj⟩ := List.getElem?_of_mem hc
  exact h.2 j _ (by simp [pm_wl, hj]; rfl)
def pm_tys (E : pm_E) : List (ClassId × FieldType) := [(E.2.2 0, .int), (E.2.2 1, .byte), (E.2.2 2, .boolean), (E.2.2 3, .object "WheelTickets$Wheel"), (E.2.2 4, .object "WheelTickets$Sheet")]
/-- what stands in the machine's statics and constants, outside of what is written -/
def pm_St (E : pm_E) (A : Nat → Prop) (U : State) (H : Heap) : Prop :=
  (∀ w ∈ pm_nw, va_Nw w U) ∧ va_Z "WheelTickets" "ORDERS" "[I" (.ref (E.1 51 0)) A U H ∧ va_T .int (E.1 51 0) 96 (fun j => .int (pm_ORD j)) A U H ∧ va_Z "java/lang/String" "COMPACT_STRINGS" "Z" (.int 1) A U H ∧ va_Z "jdk/internal/util/Preconditions" "SIOOBE_FORMATTER" "Ljava/util/function/BiFunction;" E.2.1 A U H ∧ (E.2.1 = .null ∨ ∃ t, E.2.1 = .ref t) ∧ vk_S 7 pm_slen pm_sby (E.1 52) (E.1 53) A U H ∧ ∀ i, i < 7 → vk_R "WheelTickets$Teller" (pm_six.getD i 0) (pm_strs.getD i "") (E.1 52 i) U
theorem pm_nw_warm {s U : State} (hW : s.WarmedH U.vm) (h : ∀ w ∈ pm_nw, va_Nw w s) : ∀ w ∈ pm_nw, va_Nw w U := by
  intro w hw
  have h1 := h w hw
  simp only [pm_nw, List.mem_cons, List.not_mem_nil, or_false] at hw
  rcases hw with rfl | rfl | rfl | rfl | rfl | rfl | rfl | rfl | rfl
  all_goals first | exact va_Nw.warmM hW h1 | exact va_Nw.warmF hW h1
theorem pm_St.warm {E : pm_E} {A : Nat → Prop} {s U : State} {H : Heap} (hW : s.WarmedH U.vm) (h : pm_St E A s H) : pm_St E A U H := by
  obtain ⟨h1, h2, h3, h4, h5, h6, h7, h8⟩ := h
  exact ⟨pm_nw_warm hW h1, h2.moved hW.alike, h3.moved hW.alike, h4.moved hW.alike, h5.moved hW.alike, h6, h7.moved hW.alike, fun i hi => (h8 i hi).warm hW⟩
theorem pm_St.kept {E : pm_E} {A : Nat → Prop} {U : State} {H H1 : Heap} (h : pm_St E A U H) (hq : ∀ a : Nat, a < H.size → ¬ A a → H1[a]? = H[a]?) : pm_St E A U H1 := by
  obtain ⟨h1, h2, h3, h4, h5, h6, h7, h8⟩ := h
  exact ⟨h1, h2.kept hq, h3.kept hq, h4.kept hq, h5.kept hq, h6, h7.kept hq, h8⟩
theorem pm_St.narrow {E : pm_E} {A B : Nat → Prop} {U : State} {H : Heap} (h : pm_St E A U H) (hAB : ∀ q, B q → A q) : pm_St E B U H := by
  obtain ⟨h1, h2, h3, h4, h5, h6, h7, h8⟩ := h
  exact ⟨h1, h2.narrow hAB, h3.narrow hAB, h4.narrow hAB, h5.narrow hAB, h6, h7.narrow hAB, h8⟩
theorem pm_St.blind {E : pm_E} {A : Nat → Prop} {s : State} {H : Heap} (g : JFrame) (mk : MethodId) (a : Array Value) (h : pm_St E A s H) : pm_St E A (s.calling g mk a) H := by
  obtain ⟨h1, h2, h3, h4, h5, h6, h7, h8⟩ := h
  have al : s.vm.Alike (s.calling g mk a).vm := Vm.Alike.refl s.vm
  refine ⟨fun w hw => ?_, h2.moved al, h3.moved al, h4.moved al, h5.moved al, h6, h7.moved al, fun i hi => (h8 i hi).same rfl⟩
  have h9 := h1 w hw
  refine va_Nw.same (u := s) (U := s.calling g mk a) ?_ rfl h9
  simp only [pm_nw, List.mem_cons, List.not_mem_nil, or_false] at hw
  rcases hw with rfl | rfl | rfl | rfl | rfl | rfl | rfl | rfl | rfl <;> rfl
-- the method's table
def pm_ok (mi : pm_MI) : Prop := (∀ e ∈ mi.2.2.2.2.2.1, decode mi.2.2.1 e.1 = .ok (e.2, pm_len e.1 e.2)) ∧ Cond.code mi.2.1 mi.2.2.1 mi.2.2.2.1 mi.2.2.2.2.1 ∈ pm_gw
theorem pm_tab_ok {mi : pm_MI} (h : pm_ok mi) {pc : Nat} {i : Instr} (ht : pm_tab mi pc = some i) : decode mi.2.2.1 pc = .ok (i, pm_len pc i) := by
  unfold pm_tab at ht
  obtain ⟨e, h1, h2⟩ := Option.map_eq_some_iff.mp ht
  have h3 := List.find?_some h1
  simp only [beq_iff_eq] at h3
  subst h3; subst h2
  exact h.1 e (List.mem_of_find?_eq_some h1)
/-- what is fixed while a method runs -/
def pm_Cx (mi : pm_MI) (p : Program) (R : Room) (s : State) (m : MethodId) (args : Array Value) (c : Code) (cells slots : Nat) (D : va_G) (E : pm_E) (A : Nat → Prop) (xs : Nat → Int32) (L : Int32) : Prop :=
  p.tables.exec = Jvm.exec ∧ c.code = mi.2.2.1 ∧ c.maxLocals = mi.2.2.2.1 ∧ s.vm.findClass (pm_RN mi.1) = some m.cls ∧ (∀ w ∈ pm_gw, w.before args s = true) ∧ va_K D pm_cl (pm_tys E) s ∧ pm_St E A s s.heap ∧ (mi.2.2.2.2.2.2.1 ≤ R.frames ∧ mi.2.2.2.2.2.2.2 ≤ R.locals ∧ cells ≤ R.cells ∧ slots ≤ R.slots) ∧ (∀ q, s.heap.size ≤ q → A q) ∧ (mi.1 = 7 → va_X (E.1 50 0) L.toNatClampNeg xs s s.heap ∧ E.1 50 0 < s.heap.size ∧ ¬ A (E.1 50 0) ∧ Int32.ofNat L.toNatClampNeg = L)
/-- the heap holds a memory -/
def pm_Wd (D : va_G) (E : pm_E) (A : Nat → Prop) (s : State) (xs : Nat → Int32) (L : Int32) (M : pm_M) (H : Heap) (locs : List Loc) : Prop :=
  va_P D pm_cl (pm_wl E M) H ∧ va_D A (pm_wl E M) ∧ va_S A s.heap H locs ∧ M.1 50 0 = xs ∧ M.1 49 0 0 = L
/-- the frame's locals and stack -/
def pm_Fr (nL : Nat) (E : pm_E) (LS : Array Slot) (ls : pm_L) (st : List pm_V) : Prop :=
  LS.size = nL ∧ lv_wf LS ∧ ls.length = nL ∧ (∀ (i : Nat) (v : pm_V), ls[i]? = some (some v) → LS[i]? = some (.val (pm_cv E v)) ∧ pm_okv v) ∧ ∀ v ∈ st, pm_okv v
end
section
/-! each step of the pure machine is a step of the machine -/
def pm_J (p : Program) (l : Launch) (e : Env) (R : Room) (s : State) (m : MethodId) (args : Array Value) (below : List Frame) (meth : Method) (c : Code) (cells slots : Nat) (Z : State → Prop) (D : va_G) (E : pm_E) (A : Nat → Prop) (xs : Nat → Int32) (L : Int32) (nL : Nat) (pc : Nat) (ls : pm_L) (st : List pm_V) (M : pm_M) : Prop :=
  ∀ (H : Heap) (locs : List Loc) (LS : Array Slot), pm_Wd D E A s xs L M H locs → pm_Fr nL E LS ls st → W p l e R s m args below meth c H locs cells slots Z (F0 m pc LS (st.map (pm_cv E)))
theorem pm_Fr.stk {nL : Nat} {E : pm_E} {LS : Array Slot} {ls : pm_L} {st st' : List pm_V} (h : pm_Fr nL E LS ls st) (hs : ∀ v ∈ st', pm_okv v) : pm_Fr nL E LS ls st' := ⟨h.1, h.2.1, h.2.2.1, h.2.2.2.1, hs⟩
theorem pm_Fr.ok {nL : Nat} {E : pm_E} {LS : Array Slot} {ls : pm_L} {st : List pm_V} (h : pm_Fr nL E LS ls st) : ∀ v ∈ st, pm_okv v := h.2.2.2.2
theorem pm_ok_c {v : pm_V} {r : List pm_V} (h : pm_okv v) (hr : ∀ w ∈ r, pm_okv w) : ∀ w ∈ v :: r, pm_okv w := fun w hw => (List.mem_cons.mp hw).elim (fun q => q ▸ h) (hr w)
theorem pm_ok_t {v : pm_V} {r : List pm_V} (h : ∀ w ∈ v :: r, pm_okv w) : ∀ w ∈ r, pm_okv w := fun w hw => h w (List.mem_cons_of_mem _ hw)
theorem pm_ok_h {v : pm_V} {r : List pm_V} (h : ∀ w ∈ v :: r, pm_okv w) : pm_okv v := h v List.mem_cons_self
theorem pm_cv_r {E : pm_E} {t k : Nat} (h : t ≠ 54) : pm_cv E (pm_r t k) = .ref (E.1 t k) := by simp [pm_cv, h]
theorem pm_cat {E : pm_E} (hE : E.2.1.category = 1) {v : pm_V} (h : pm_is1 v = true) : (pm_cv E v).category = 1 := by
  rcases v with x | x | ⟨t, k⟩
  · rfl
  · cases h
  · unfold pm_cv
    by_cases h9 : t = 54
    · simp [h9, hE]
    · simp [h9, Value.category]
def pm_as (E : pm_E) (ls : pm_L) : List (Nat × Value) := (List.range ls.length).filterMap (fun i => match ls[i]? with
  | some (some v) => some (i, pm_cv E v)
  | _ => none)
theorem pm_as_in {E : pm_E} {ls : pm_L} {i : Nat} {v : pm_V} (h : ls[i]? = some (some v)) : (i, pm_cv E v) ∈ pm_as E ls := by
  unfold pm_as
  rw [List.mem_filterMap]
  exact ⟨i, List.mem_range.mpr (List.getElem?_eq_some_iff.mp h).1, by simp [h]⟩
theorem pm_as_out {E : pm_E} {ls : pm_L} {q : Nat × Value} (h : q ∈ pm_as E ls) : ∃ v, ls[q.1]? = some (some v) ∧ q.2 = pm_cv E v := by
  unfold pm_as at h
  rw [List.mem_filterMap] at h
  obtain ⟨i, hi, h⟩ := h
  split at h
  · rename_i v hv
    cases h
    exact ⟨v, hv, rfl⟩
  · cases h
theorem pm_Fr.has {nL : Nat} {E : pm_E} {LS : Array Slot} {ls : pm_L} {st : List pm_V} (h : pm_Fr nL E LS ls st) : lv_has LS nL (pm_as E ls) := by
  refine ⟨h.1, h.2.1, fun q hq => ?_⟩
  obtain ⟨v, h1, h2⟩ := pm_as_out hq
  rw [h2]
  exact (h.2.2.2.1 _ _ h1).1
theorem pm_clr_len (ls : pm_L) (k : Nat) : (pm_clr ls k).length = ls.length := by
  unfold pm_clr
  split
  · rfl
  · split <;> simp
theorem pm_clr_get {ls : pm_L} {k i : Nat} {w : pm_V} (h : (pm_clr ls k)[i]? = some (some w)) : ls[i]? = some (some w) ∧ (i + 1 = k → pm_is1 w = true) := by
  unfold pm_clr at h
  split at h
  · exact ⟨h, fun q => by omega⟩
  · rename_i j
    split at h
    · rename_i x hx
      rw [List.getElem?_set] at h
      by_cases hij : j = i
      · subst hij
        simp at h
      · rw [if_neg hij] at h
        exact ⟨h, fun q => by omega⟩
    · rename_i hn
      refine ⟨h, fun q => ?_⟩
      have e : j = i := by omega
      subst e
      rcases w with x | x | y
      · rfl
      · exact absurd h (hn x)
      · rfl
theorem pm_Fr.st1 {nL : Nat} {E : pm_E} {LS LS' : Array Slot} {ls : pm_L} {st st' : List pm_V} {k : Nat} {v : pm_V} (hE : E.2.1.category = 1) (hF : pm_Fr nL E LS ls st) (hv : pm_okv v) (hl : lv_has LS' nL ((k, pm_cv E v) :: (pm_as E ls).filter (fun q => !(q.1 == k) && !(q.1 + 1 == k && q.2.category == 2)))) (hst : ∀ w ∈ st', pm_okv w) : pm_Fr nL E LS' (pm_st1 ls k v) st' := by
  refine ⟨hl.1, hl.2.1, by simp [pm_st1, pm_clr_len, hF.2.2.1], fun i w hw => ?_, hst⟩
  unfold pm_st1 at hw
  rw [List.getElem?_set] at hw
  by_cases hik : k = i
  · subst hik
    rw [if_pos rfl] at hw
    split at hw
    · cases hw
      exact ⟨hl.2.2 (k, pm_cv E v) List.mem_cons_self, hv⟩
    · cases hw
  · rw [if_neg hik] at hw
    obtain ⟨h1, h2⟩ := pm_clr_get hw
    refine ⟨hl.2.2 (i, pm_cv E w) (List.mem_cons_of_mem _ (List.mem_filter.mpr ⟨pm_as_in h1, ?_⟩)), (hF.2.2.2.1 i w h1).2⟩
    by_cases h3 : i + 1 = k
    · simp [Ne.symm hik, pm_cat hE (h2 h3)]
    · simp [Ne.symm hik, h3]
theorem pm_Fr.st2 {nL : Nat} {E : pm_E} {LS LS' : Array Slot} {ls : pm_L} {st st' : List pm_V} {k : Nat} {v : pm_V} (hE : E.2.1.category = 1) (hF : pm_Fr nL E LS ls st) (hv : pm_okv v) (hl : lv_has LS' nL ((k, pm_cv E v) :: (pm_as E ls).filter (fun q => !(q.1 == k) && (!(q.1 == k + 1) && !(q.1 + 1 == k && q.2.category == 2))))) (hst : ∀ w ∈ st', pm_okv w) : pm_Fr nL E LS' (pm_st2 ls k v) st' := by
  refine ⟨hl.1, hl.2.1, by simp [pm_st2, pm_clr_len, hF.2.2.1], fun i w hw => ?_, hst⟩
  unfold pm_st2 at hw
  rw [List.getElem?_set] at hw
  by_cases hik1 : k + 1 = i
  · subst hik1
    rw [if_pos rfl] at hw
    split at hw <;> cases hw
  rw [if_neg hik1, List.getElem?_set] at hw
  by_cases hik : k = i
  · subst hik
    rw [if_pos rfl] at hw
    split at hw
    · cases hw
      exact ⟨hl.2.2 (k, pm_cv E v) List.mem_cons_self, hv⟩
    · cases hw
  · rw [if_neg hik] at hw
    obtain ⟨h1, h2⟩ := pm_clr_get hw
    refine ⟨hl.2.2 (i, pm_cv E w) (List.mem_cons_of_mem _ (List.mem_filter.mpr ⟨pm_as_in h1, ?_⟩)), (hF.2.2.2.1 i w h1).2⟩
    by_cases h3 : i + 1 = k
    · simp [Ne.symm hik, Ne.symm hik1, pm_cat hE (h2 h3)]
    · simp [Ne.symm hik, Ne.symm hik1, h3]
-- what the kinds' table says
def pm_chk (t : Nat) : Bool := match pm_sh t with
  | some (.inl (ci, fs)) => decide (ci < 7) && decide (fs.length = pm_NN ci) && fs.zipIdx.all (fun q => match q.1 with
    | (0, _, _) => decide (pm_tN ci q.2 = .int) && !(pm_TN ci q.2).2.2.2
    | (1, _, _) => decide (pm_tN ci q.2 = .long) && !(pm_TN ci q.2).2.2.2 && decide (t = 29)
    | (_, t', b) => decide (b + pm_cnt t ≤ pm_cnt t') && decide (t' < 44))
  | some (.inr (.inl (ty, n))) => decide (ty < 3) && decide (n < 1000)
  | some (.inr (.inr (ty, n, t', b))) => decide (b + n ≤ pm_cnt t') && decide (t' < 44) && decide (ty = 3 ∨ ty = 4)
  | none => false
theorem pm_chks : ∀ t, t < 44 → pm_chk t = true := by decide +kernel
theorem pm_obj {t ci : Nat} {fs : List (Nat × Nat × Nat)} (h : pm_sh t = some (.inl (ci, fs))) : ci < 7 ∧ fs.length = pm_NN ci ∧ (∀ (i y z : Nat), fs[i]? = some (0, y, z) → pm_tN ci i = .int ∧ (pm_TN ci i).2.2.2 = false) ∧ (∀ (i y z : Nat), fs[i]? = some (1, y, z) → pm_tN ci i = .long ∧ (pm_TN ci i).2.2.2 = false ∧ t = 29) ∧ ∀ (i y z : Nat), fs[i]? = some (2, y, z) → z + pm_cnt t ≤ pm_cnt y ∧ y < 44 := by
  have h0 := pm_chks t (pm_sh_lt h)
  unfold pm_chk at h0
  rw [h] at h0
  simp only [Bool.and_eq_true, decide_eq_true_eq, List.all_eq_true] at h0
  obtain ⟨⟨h1, h2⟩, h3⟩ := h0
  have hz : ∀ (i : Nat) (f : Nat × Nat × Nat), fs[i]? = some f → (f, i) ∈ fs.zipIdx := fun i f hf => by
    have := List.mem_zipIdx_iff_getElem? (x := (f, i)) (l := fs)
    exact this.mpr hf
  refine ⟨h1, h2, fun i y z hf => ?_, fun i y z hf => ?_, fun i y z hf => ?_⟩
  · have := h3 _ (hz i _ hf)
    simpa using this
  · have := h3 _ (hz i _ hf)
    simpa [and_assoc] using this
  · have := h3 _ (hz i _ hf)
    simpa using this
theorem pm_arr {t ty n t' b : Nat} (h : pm_sh t = some (.inr (.inr (ty, n, t', b)))) : b + n ≤ pm_cnt t' ∧ t' < 44 ∧ (ty = 3 ∨ ty = 4) := by
  have h0 := pm_chks t (pm_sh_lt h)
  unfold pm_chk at h0
  rw [h] at h0
  simp only [Bool.and_eq_true, decide_eq_true_eq] at h0
  exact ⟨h0.1.1, h0.1.2, h0.2⟩
theorem pm_in_lt {i : Int32} {n : Nat} (h : vp_in i n) : i.toNatClampNeg < n := Nat.not_le.mp fun q => h (Or.inr q)
end
section
section PmS
variable {p : Program} {l : Launch} {e : Env} {R : Room} {s : State} {m : MethodId} {args : Array Value} {below : List Frame} {meth : Method} {c : Code} {cells slots : Nat} {Z : State → Prop} {D : va_G} {E : pm_E} {A : Nat → Prop} {xs : Nat → Int32} {L : Int32} {nL : Nat} {pc : Nat} {ls : pm_L} {st : List pm_V} {M : pm_M} {cs : List Prop} {s' : pm_S}
theorem pm_s_push {d : Nat} {v : Option pm_V} (hv : ∀ (w : pm_V), v = some w → ∀ (H : Heap) (locs : List Loc) (LS : Array Slot) (r : List Value), pm_Wd D E A s xs L M H locs → pm_Fr nL E LS ls st → pm_okv w ∧ (W p l e R s m args below meth c H locs cells slots Z (F0 m (pc + d) LS (pm_cv E w :: r)) → W p l e R s m args below meth c H locs cells slots Z (F0 m pc LS r)))
    (hs : pm_push d pc ls st M v = some (cs, s')) (kk : pm_J p l e R s m args below meth c cells slots Z D E A xs L nL s'.1 s'.2.1 s'.2.2.1 s'.2.2.2) : pm_J p l e R s m args below meth c cells slots Z D E A xs L nL pc ls st M := by
  unfold pm_push at hs
  split at hs
  · rename_i w
    cases hs
    intro H locs LS hW hF
    obtain ⟨h1, h2⟩ := hv w rfl H locs LS (st.map (pm_cv E)) hW hF
    exact h2 (kk H locs LS hW (hF.stk (pm_ok_c h1 hF.ok)))
  · cases hs
theorem pm_s_bi {f : Int32 → Int32 → Int32} (row : ∀ (H : Heap) (locs : List Loc) (LS : Array Slot) (x y : Int32) (r : List Value), W p l e R s m args below meth c H locs cells slots Z (F0 m (pc + 1) LS (.int (f x y) :: r)) → W p l e R s m args below meth c H locs cells slots Z (F0 m pc LS (.int y :: .int x :: r)))
    (hs : pm_bi pc ls st M f = some (cs, s')) (kk : pm_J p l e R s m args below meth c cells slots Z D E A xs L nL s'.1 s'.2.1 s'.2.2.1 s'.2.2.2) : pm_J p l e R s m args below meth c cells slots Z D E A xs L nL pc ls st M := by
  unfold pm_bi at hs
  split at hs
  · cases hs
    intro H locs LS hW hF
    exact row H locs LS _ _ _ (kk H locs LS hW (hF.stk (pm_ok_c trivial (pm_ok_t (pm_ok_t hF.ok)))))
  · cases hs
theorem pm_s_bd {f : Int32 → Int32 → Int32} (row : ∀ (H : Heap) (locs : List Loc) (LS : Array Slot) (x y : Int32) (r : List Value), ¬ y = 0 → W p l e R s m args below meth c H locs cells slots Z (F0 m (pc + 1) LS (.int (f x y) :: r)) → W p l e R s m args below meth c H locs cells slots Z (F0 m pc LS (.int y :: .int x :: r)))
    (hs : pm_bd pc ls st M f = some (cs, s')) (hc : pm_all cs) (kk : pm_J p l e R s m args below meth c cells slots Z D E A xs L nL s'.1 s'.2.1 s'.2.2.1 s'.2.2.2) : pm_J p l e R s m args below meth c cells slots Z D E A xs L nL pc ls st M := by
  unfold pm_bd at hs
  split at hs
  · cases hs
    intro H locs LS hW hF
    exact row H locs LS _ _ _ hc.1 (kk H locs LS hW (hF.stk (pm_ok_c trivial (pm_ok_t (pm_ok_t hF.ok)))))
  · cases hs
theorem pm_s_bl {f : Int64 → Int64 → Int64} (row : ∀ (H : Heap) (locs : List Loc) (LS : Array Slot) (x y : Int64) (r : List Value), W p l e R s m args below meth c H locs cells slots Z (F0 m (pc + 1) LS (.long (f x y) :: r)) → W p l e R s m args below meth c H locs cells slots Z (F0 m pc LS (.long y :: .long x :: r)))
    (hs : pm_bl pc ls st M f = some (cs, s')) (kk : pm_J p l e R s m args below meth c cells slots Z D E A xs L nL s'.1 s'.2.1 s'.2.2.1 s'.2.2.2) : pm_J p l e R s m args below meth c cells slots Z D E A xs L nL pc ls st M := by
  unfold pm_bl at hs
  split at hs
  · cases hs
    intro H locs LS hW hF
    exact row H locs LS _ _ _ (kk H locs LS hW (hF.stk (pm_ok_c trivial (pm_ok_t (pm_ok_t hF.ok)))))
  · cases hs
theorem pm_s_bld {f : Int64 → Int64 → Int64} (row : ∀ (H : Heap) (locs : List Loc) (LS : Array Slot) (x y : Int64) (r : List Value), ¬ y = 0 → W p l e R s m args below meth c H locs cells slots Z (F0 m (pc + 1) LS (.long (f x y) :: r)) → W p l e R s m args below meth c H locs cells slots Z (F0 m pc LS (.long y :: .long x :: r)))
    (hs : pm_bld pc ls st M f = some (cs, s')) (hc : pm_all cs) (kk : pm_J p l e R s m args below meth c cells slots Z D E A xs L nL s'.1 s'.2.1 s'.2.2.1 s'.2.2.2) : pm_J p l e R s m args below meth c cells slots Z D E A xs L nL pc ls st M := by
  unfold pm_bld at hs
  split at hs
  · cases hs
    intro H locs LS hW hF
    exact row H locs LS _ _ _ hc.1 (kk H locs LS hW (hF.stk (pm_ok_c trivial (pm_ok_t (pm_ok_t hF.ok)))))
  · cases hs
theorem pm_s_lcmp (row : ∀ (H : Heap) (locs : List Loc) (LS : Array Slot) (x y : Int64) (r : List Value), W p l e R s m args below meth c H locs cells slots Z (F0 m (pc + 1) LS (.int (lg_cmp x y) :: r)) → W p l e R s m args below meth c H locs cells slots Z (F0 m pc LS (.long y :: .long x :: r)))
    (hs : pm_lcmp pc ls st M = some (cs, s')) (kk : pm_J p l e R s m args below meth c cells slots Z D E A xs L nL s'.1 s'.2.1 s'.2.2.1 s'.2.2.2) : pm_J p l e R s m args below meth c cells slots Z D E A xs L nL pc ls st M := by
  unfold pm_lcmp at hs
  split at hs
  · cases hs
    intro H locs LS hW hF
    exact row H locs LS _ _ _ (kk H locs LS hW (hF.stk (pm_ok_c trivial (pm_ok_t (pm_ok_t hF.ok)))))
  · cases hs
theorem pm_s_ui {f : Int32 → pm_V} (hf : ∀ x, pm_okv (f x)) (row : ∀ (H : Heap) (locs : List Loc) (LS : Array Slot) (x : Int32) (r : List Value), W p l e R s m args below meth c H locs cells slots Z (F0 m (pc + 1) LS (pm_cv E (f x) :: r)) → W p l e R s m args below meth c H locs cells slots Z (F0 m pc LS (.int x :: r)))
    (hs : pm_ui pc ls st M f = some (cs, s')) (kk : pm_J p l e R s m args below meth c cells slots Z D E A xs L nL s'.1 s'.2.1 s'.2.2.1 s'.2.2.2) : pm_J p l e R s m args below meth c cells slots Z D E A xs L nL pc ls st M := by
  unfold pm_ui at hs
  split at hs
  · cases hs
    intro H locs LS hW hF
    exact row H locs LS _ _ (kk H locs LS hW (hF.stk (pm_ok_c (hf _) (pm_ok_t hF.ok))))
  · cases hs
theorem pm_s_ul {f : Int64 → pm_V} (hf : ∀ x, pm_okv (f x)) (row : ∀ (H : Heap) (locs : List Loc) (LS : Array Slot) (x : Int64) (r : List Value), W p l e R s m args below meth c H locs cells slots Z (F0 m (pc + 1) LS (pm_cv E (f x) :: r)) → W p l e R s m args below meth c H locs cells slots Z (F0 m pc LS (.long x :: r)))
    (hs : pm_ul pc ls st M f = some (cs, s')) (kk : pm_J p l e R s m args below meth c cells slots Z D E A xs L nL s'.1 s'.2.1 s'.2.2.1 s'.2.2.2) : pm_J p l e R s m args below meth c cells slots Z D E A xs L nL pc ls st M := by
  unfold pm_ul at hs
  split at hs
  · cases hs
    intro H locs LS hW hF
    exact row H locs LS _ _ (kk H locs LS hW (hF.stk (pm_ok_c (hf _) (pm_ok_t hF.ok))))
  · cases hs
theorem pm_tgt {pc : Nat} {off : Int} (h : 0 ≤ (pc : Int) + off) : (pc : Int) + off = (pm_tg pc off : Int) := by unfold pm_tg; omega
theorem pm_s_if {off : Int} {f : Int32 → Nat → Nat → Nat} (row : ∀ (H : Heap) (locs : List Loc) (LS : Array Slot) (x : Int32) (r : List Value) (tgt : Nat), (pc : Int) + off = (tgt : Int) → W p l e R s m args below meth c H locs cells slots Z (F0 m (f x tgt (pc + 3)) LS r) → W p l e R s m args below meth c H locs cells slots Z (F0 m pc LS (.int x :: r)))
    (hs : pm_if pc ls st M off f = some (cs, s')) (kk : pm_J p l e R s m args below meth c cells slots Z D E A xs L nL s'.1 s'.2.1 s'.2.2.1 s'.2.2.2) : pm_J p l e R s m args below meth c cells slots Z D E A xs L nL pc ls st M := by
  unfold pm_if at hs
  split at hs
  · split at hs
    · rename_i h0
      cases hs
      intro H locs LS hW hF
      exact row H locs LS _ _ _ (pm_tgt h0) (kk H locs LS hW (hF.stk (pm_ok_t hF.ok)))
    · cases hs
  · cases hs
theorem pm_s_ic2 {off : Int} {f : Int32 → Int32 → Nat → Nat → Nat} (row : ∀ (H : Heap) (locs : List Loc) (LS : Array Slot) (x y : Int32) (r : List Value) (tgt : Nat), (pc : Int) + off = (tgt : Int) → W p l e R s m args below meth c H locs cells slots Z (F0 m (f x y tgt (pc + 3)) LS r) → W p l e R s m args below meth c H locs cells slots Z (F0 m pc LS (.int y :: .int x :: r)))
    (hs : pm_ic2 pc ls st M off f = some (cs, s')) (kk : pm_J p l e R s m args below meth c cells slots Z D E A xs L nL s'.1 s'.2.1 s'.2.2.1 s'.2.2.2) : pm_J p l e R s m args below meth c cells slots Z D E A xs L nL pc ls st M := by
  unfold pm_ic2 at hs
  split at hs
  · split at hs
    · rename_i h0
      cases hs
      intro H locs LS hW hF
      exact row H locs LS _ _ _ _ (pm_tgt h0) (kk H locs LS hW (hF.stk (pm_ok_t (pm_ok_t hF.ok))))
    · cases hs
  · cases hs
theorem pm_s_sti {d k : Nat} (hE : E.2.1.category = 1) (row : ∀ (H : Heap) (locs : List Loc) (LS : Array Slot) (x : Int32) (r : List Value) (lv : List (Nat × Value)), lv_has LS nL lv → k < nL → (∀ LS' : Array Slot, lv_has LS' nL ((k, Value.int x) :: lv.filter (fun q => !(q.1 == k) && !(q.1 + 1 == k && q.2.category == 2))) → W p l e R s m args below meth c H locs cells slots Z (F0 m (pc + d) LS' r)) → W p l e R s m args below meth c H locs cells slots Z (F0 m pc LS (.int x :: r)))
    (hs : pm_sti d pc ls st M k = some (cs, s')) (kk : pm_J p l e R s m args below meth c cells slots Z D E A xs L nL s'.1 s'.2.1 s'.2.2.1 s'.2.2.2) : pm_J p l e R s m args below meth c cells slots Z D E A xs L nL pc ls st M := by
  unfold pm_sti at hs
  split at hs
  · split at hs
    · rename_i x r h0
      cases hs
      intro H locs LS hW hF
      exact row H locs LS _ _ _ hF.has (by rw [← hF.2.2.1]; exact h0) (fun LS' hl => kk H locs LS' hW (hF.st1 (v := pm_i x) hE trivial hl (pm_ok_t hF.ok)))
    · cases hs
  · cases hs
theorem pm_s_stl {d k : Nat} (hE : E.2.1.category = 1) (row : ∀ (H : Heap) (locs : List Loc) (LS : Array Slot) (x : Int64) (r : List Value) (lv : List (Nat × Value)), lv_has LS nL lv → k + 1 < nL → (∀ LS' : Array Slot, lv_has LS' nL ((k, Value.long x) :: lv.filter (fun q => !(q.1 == k) && (!(q.1 == k + 1) && !(q.1 + 1 == k && q.2.category == 2)))) → W p l e R s m args below meth c H locs cells slots Z (F0 m (pc + d) LS' r)) → W p l e R s m args below meth c H locs cells slots Z (F0 m pc LS (.long x :: r)))
    (hs : pm_stl d pc ls st M k = some (cs, s')) (kk : pm_J p l e R s m args below meth c cells slots Z D E A xs L nL s'.1 s'.2.1 s'.2.2.1 s'.2.2.2) : pm_J p l e R s m args below meth c cells slots Z D E A xs L nL pc ls st M := by
  unfold pm_stl at hs
  split at hs
  · split at hs
    · rename_i x r h0
      cases hs
      intro H locs LS hW hF
      exact row H locs LS _ _ _ hF.has (by rw [← hF.2.2.1]; exact h0) (fun LS' hl => kk H locs LS' hW (hF.st2 (v := pm_l x) hE trivial hl (pm_ok_t hF.ok)))
    · cases hs
  · cases hs
theorem pm_s_sta {d k : Nat} (hE : E.2.1.category = 1) (row : ∀ (H : Heap) (locs : List Loc) (LS : Array Slot) (x : Nat) (r : List Value) (lv : List (Nat × Value)), lv_has LS nL lv → k < nL → (∀ LS' : Array Slot, lv_has LS' nL ((k, Value.ref x) :: lv.filter (fun q => !(q.1 == k) && !(q.1 + 1 == k && q.2.category == 2))) → W p l e R s m args below meth c H locs cells slots Z (F0 m (pc + d) LS' r)) → W p l e R s m args below meth c H locs cells slots Z (F0 m pc LS (.ref x :: r)))
    (hs : pm_sta d pc ls st M k = some (cs, s')) (kk : pm_J p l e R s m args below meth c cells slots Z D E A xs L nL s'.1 s'.2.1 s'.2.2.1 s'.2.2.2) : pm_J p l e R s m args below meth c cells slots Z D E A xs L nL pc ls st M := by
  unfold pm_sta at hs
  split at hs
  · split at hs
    · cases hs
    · rename_i t j r h54
      split at hs
      · rename_i h0
        cases hs
        intro H locs LS hW hF
        have h := row H locs LS (E.1 t j) (r.map (pm_cv E)) _ hF.has (by rw [← hF.2.2.1]; exact h0) (fun LS' hl => kk H locs LS' hW (hF.st1 (v := pm_r t j) hE (pm_ok_h hF.ok) (by rw [pm_cv_r h54]; exact hl) (pm_ok_t hF.ok)))
        rw [List.map_cons, pm_cv_r h54]
        exact h
      · cases hs
  · cases hs
end PmS
end
section
theorem pm_w_cs : Cond.fieldLink "java/lang/String" 38 "java/lang/String" "COMPACT_STRINGS" "Z" ∈ pm_gw := pm_in (List.mem_of_getElem? (i := 310) (by decide +kernel)) (by decide +kernel)
theorem pm_w_sf : Cond.fieldLink "java/lang/String" 1053 "jdk/internal/util/Preconditions" "SIOOBE_FORMATTER" "Ljava/util/function/BiFunction;" ∈ pm_gw := pm_in (List.mem_of_getElem? (i := 326) (by decide +kernel)) (by decide +kernel)
theorem pm_w_sv : Cond.fieldLink "java/lang/String" 9 "java/lang/String" "value" "[B" ∈ pm_gw := pm_in (List.mem_of_getElem? (i := 1247) (by decide +kernel)) (by decide +kernel)
theorem pm_w_sc : Cond.fieldLink "java/lang/String" 15 "java/lang/String" "coder" "B" ∈ pm_gw := pm_in (List.mem_of_getElem? (i := 1248) (by decide +kernel)) (by decide +kernel)
theorem pm_TN1 : ∀ c, c < 7 → ∀ k, k < pm_NN c → (pm_TN c k).1 = pm_RN c := by decide +kernel
theorem pm_only29 : ∀ q ∈ pm_cells, q.1 = 29 → q.2 = 0 := by decide +kernel
theorem pm_St.cat {E : pm_E} {A : Nat → Prop} {U : State} {H : Heap} (h : pm_St E A U H) : E.2.1.category = 1 := by
  obtain ⟨-, -, -, -, -, h6, -⟩ := h
  rcases h6 with h | ⟨t, h⟩ <;> rw [h] <;> rfl
theorem pm_Wd.set {D : va_G} {E : pm_E} {A : Nat → Prop} {s : State} {xs : Nat → Int32} {L : Int32} {M M' : pm_M} {H H1 : Heap} {locs locs1 : List Loc} (h : pm_Wd D E A s xs L M H locs) (hP : va_P D pm_cl (pm_wl E M') H1) (hS : va_S A s.heap H1 locs1) (h50 : M'.1 50 0 = M.1 50 0) (h49 : M'.1 49 0 0 = M.1 49 0 0) : pm_Wd D E A s xs L M' H1 locs1 :=
  ⟨hP, pm_D_any h.2.1, hS, by rw [h50]; exact h.2.2.2.1, by rw [h49]; exact h.2.2.2.2⟩
theorem pm_set_ne (M : pm_M) {t k a b : Nat} (f : Nat → Int32) (h : t ≠ a) : (pm_set M t k f).1 a b = M.1 a b := by
  have : ¬ (a = t ∧ b = k) := fun q => h q.1.symm
  simp [pm_set, this]
section PmT
variable {p : Program} {l : Launch} {e : Env} {R : Room} {s : State} {m : MethodId} {args : Array Value} {below : List Frame} {meth : Method} {c : Code} {cells slots : Nat} {Z : State → Prop} {D : va_G} {E : pm_E} {A : Nat → Prop} {xs : Nat → Int32} {L : Int32} {mi : pm_MI} {pc : Nat} {ls : pm_L} {st : List pm_V} {M : pm_M} {cs : List Prop} {s' : pm_S}
theorem pm_s_gf (C : pm_Cx mi p R s m args c cells slots D E A xs L) {idx : Nat} (hd : decode mi.2.2.1 pc = .ok (.getfield idx, 3)) {nL : Nat} (hs : pm_step mi.1 (.getfield idx) pc ls st M = some (cs, s')) (kk : pm_J p l e R s m args below meth c cells slots Z D E A xs L nL s'.1 s'.2.1 s'.2.2.1 s'.2.2.2) : pm_J p l e R s m args below meth c cells slots Z D E A xs L nL pc ls st M := by
  obtain ⟨hx, hb, hml, hown, hts, hK, hSt, -, hA, -⟩ := C
  simp only [pm_step] at hs
  split at hs
  · rename_i t k r
    split at hs
    · rename_i v hv
      cases hs
      intro H locs LS hW hF
      have hk : k < pm_cnt t := pm_ok_h hF.ok
      unfold pm_gf at hv
      split at hv
      · rename_i ci kf hfl
        obtain ⟨hl1, h7, hkf⟩ := pm_fl_ok hfl
        split at hv
        · rename_i cj fs hsh
          split at hv
          · rename_i hcc
            subst hcc
            have ht := pm_sh_lt hsh
            obtain ⟨j, hj, -⟩ := pm_at E M ht hk
            have hent : pm_ent E M t k = .inr (ci, fs.mapIdx (fun i f => pm_fv E M t k i f)) := by unfold pm_ent; rw [hsh]
            rw [hent] at hj
            have key : ∀ (f : Nat × Nat × Nat), fs[kf]? = some f → pm_fv E M t k kf f = pm_cv E v → pm_okv v → W p l e R s m args below meth c H locs cells slots Z (F0 m pc LS ((pm_r t k :: r).map (pm_cv E))) := by
              intro f hf he hv9
              rw [List.map_cons, pm_cv_r (by omega)]
              exact va_get (D := D) (ci := ci) (v := pm_cv E v) (C := pm_RN ci) (T := pm_TN ci) (N := pm_NN ci) hx hb hts (pm_cw ci h7) hown hK hW.1 j hj (pm_clat ci h7) kf hkf (hts _ hl1) (fun _ h => by rw [pm_TN1 ci h7 kf hkf] at h; exact h) (by rw [List.getElem?_mapIdx, hf]; simp [he]) hd (kk H locs LS hW (hF.stk (pm_ok_c hv9 (pm_ok_t hF.ok))))
            split at hv
            · rename_i y z hf
              cases hv
              exact key _ hf rfl trivial
            · rename_i y z hf
              cases hv
              exact key _ hf rfl trivial
            · rename_i t' b hf
              cases hv
              have h9 := (pm_obj hsh).2.2.2.2 _ _ _ hf
              refine key _ hf ?_ ?_
              · rw [pm_cv_r (by omega)]; rfl
              · show b + k < pm_cnt t'
                omega
            · cases hv
          · cases hv
        · cases hv
      · split at hv
        · rename_i h8
          obtain ⟨ho, rfl⟩ := h8
          rw [List.map_cons, pm_cv_r (by omega)]
          rw [ho] at hown
          have hk7 : k < 7 := hk
          obtain ⟨hO, hco, hva, hT⟩ := hSt.2.2.2.2.2.2.1.1 k hk7
          split at hv
          · rename_i h9
            subst h9
            cases hv
            have := kk H locs LS hW (hF.stk (pm_ok_c (show k < pm_cnt 53 from hk7) (pm_ok_t hF.ok)))
            rw [List.map_cons, pm_cv_r (by omega)] at this
            exact vk_getf hx hb hva hW.2.2.1 hown (hts _ pm_w_sv) (fun _ h => h) hd this
          · split at hv
            · rename_i h9
              subst h9
              cases hv
              exact vk_getf hx hb hco hW.2.2.1 hown (hts _ pm_w_sc) (fun _ h => h) hd (kk H locs LS hW (hF.stk (pm_ok_c trivial (pm_ok_t hF.ok))))
            · cases hv
        · cases hv
    · cases hs
  · cases hs
theorem pm_s_pf (C : pm_Cx mi p R s m args c cells slots D E A xs L) {idx : Nat} (hd : decode mi.2.2.1 pc = .ok (.putfield idx, 3)) {nL : Nat} (hs : pm_step mi.1 (.putfield idx) pc ls st M = some (cs, s')) (kk : pm_J p l e R s m args below meth c cells slots Z D E A xs L nL s'.1 s'.2.1 s'.2.2.1 s'.2.2.2) : pm_J p l e R s m args below meth c cells slots Z D E A xs L nL pc ls st M := by
  obtain ⟨hx, hb, hml, hown, hts, hK, hSt, -, hA, -⟩ := C
  simp only [pm_step] at hs
  split at hs
  · rename_i v t k r
    split at hs
    · rename_i M' hv
      cases hs
      intro H locs LS hW hF
      have hk : k < pm_cnt t := pm_ok_h (pm_ok_t hF.ok)
      unfold pm_pf at hv
      split at hv
      · rename_i ci kf hfl
        obtain ⟨hl1, h7, hkf⟩ := pm_fl_ok hfl
        split at hv
        · rename_i cj fs hsh
          split at hv
          · rename_i hcc
            subst hcc
            have ht := pm_sh_lt hsh
            obtain ⟨j, hj, hset⟩ := pm_at E M ht hk
            have hent : pm_ent E M t k = .inr (ci, fs.mapIdx (fun i f => pm_fv E M t k i f)) := by unfold pm_ent; rw [hsh]
            have hent' : pm_ent E M' t k = .inr (ci, fs.mapIdx (fun i f => pm_fv E M' t k i f)) := by unfold pm_ent; rw [hsh]
            rw [hent] at hj
            obtain ⟨-, hlen, h0, h1, -⟩ := pm_obj hsh
            have key : (pm_TN ci kf).2.2.2 = false → narrow (pm_tN ci kf) (pm_cv E v) = pm_cv E v → fits (pm_tN ci kf) (pm_cv E v) = true → (fs.mapIdx (fun i f => pm_fv E M t k i f)).set kf (pm_cv E v) = fs.mapIdx (fun i f => pm_fv E M' t k i f) → (∀ q ∈ pm_cells, q ≠ (t, k) → pm_ent E M' q.1 q.2 = pm_ent E M q.1 q.2) → M'.1 50 0 = M.1 50 0 → M'.1 49 0 0 = M.1 49 0 0 → W p l e R s m args below meth c H locs cells slots Z (F0 m pc LS ((v :: pm_r t k :: r).map (pm_cv E))) := by
              intro q1 q2 q3 q4 q5 q6 q7
              rw [List.map_cons, List.map_cons, pm_cv_r (by omega)]
              refine va_put (D := D) (ci := ci) (v := pm_cv E v) (ty := pm_tN ci kf) (C := pm_RN ci) (T := pm_TN ci) (N := pm_NN ci) hx hb hts (pm_cw ci h7) (pm_tN ci) (pm_ty ci h7) (pm_nm ci h7) hown hK hW.1 hW.2.1 hW.2.2.1 j hj (pm_clat ci h7) kf hkf (hts _ hl1) (fun _ h => by rw [pm_TN1 ci h7 kf hkf] at h; exact h) q1 (pm_ty ci h7 kf hkf) q2 q3 (by simp [hlen]; exact hkf) hd (fun H1 locs1 hP1 hD1 hS1 => ?_)
              rw [q4, ← hent', hset M' q5] at hP1
              exact kk H1 locs1 LS (hW.set hP1 hS1 q6 q7) (hF.stk (pm_ok_t (pm_ok_t hF.ok)))
            split at hv
            · rename_i y z x hf
              cases hv
              obtain ⟨e1, e2⟩ := h0 _ _ _ hf
              refine key e2 (by rw [e1]; rfl) (by rw [e1]; rfl) ?_ pm_ent_set ?_ ?_
              · apply List.ext_getElem?
                intro i
                rw [List.getElem?_set]
                by_cases hi : kf = i
                · subst hi
                  rw [if_pos rfl, if_pos (by simp [hlen]; exact hkf)]
                  simp only [List.getElem?_mapIdx, hf, Option.map_some, pm_fv, pm_set_at, upd]
                  simp [pm_cv]
                · rw [if_neg hi]
                  simp only [List.getElem?_mapIdx]
                  cases fs[i]? with
                  | none => rfl
                  | some f =>
                    simp only [Option.map_some]
                    congr 1
                    unfold pm_fv
                    split
                    · simp only [pm_set_at, upd]
                      rw [if_neg (Ne.symm hi)]
                    · rfl
                    · rfl
              · exact pm_set_ne _ _ (by omega)
              · rw [pm_set_ne _ _ (by omega)]
            · rename_i y z x hf
              cases hv
              obtain ⟨e1, e2, e3⟩ := h1 _ _ _ hf
              refine key e2 (by rw [e1]; rfl) (by rw [e1]; rfl) ?_ ?_ rfl rfl
              · apply List.ext_getElem?
                intro i
                rw [List.getElem?_set]
                by_cases hi : kf = i
                · subst hi
                  rw [if_pos rfl, if_pos (by simp [hlen]; exact hkf)]
                  simp only [List.getElem?_mapIdx, hf, Option.map_some, pm_fv]
                  rfl
                · rw [if_neg hi]
                  simp only [List.getElem?_mapIdx]
                  cases hfi : fs[i]? with
                  | none => rfl
                  | some f =>
                    simp only [Option.map_some]
                    congr 1
                    unfold pm_fv
                    split
                    · rfl
                    · rename_i y' z'
                      exfalso
                      subst e3
                      have hsh' := hsh
                      simp only [pm_sh, Option.some.injEq, Sum.inl.injEq, Prod.mk.injEq] at hsh'
                      obtain ⟨-, rfl⟩ := hsh'
                      have a1 := (List.getElem?_eq_some_iff.mp hf).1
                      have a2 := (List.getElem?_eq_some_iff.mp hfi).1
                      simp only [List.length_cons, List.length_nil] at a1 a2
                      have only : ∀ n, n < 37 → ∀ y z, ([(2, 30, 0), (2, 31, 0), (2, 32, 0), (0, 0, 0), (0, 0, 0), (2, 33, 0), (0, 0, 0), (0, 0, 0), (0, 0, 0), (0, 0, 0), (2, 34, 0), (0, 0, 0), (2, 35, 0), (0, 0, 0), (0, 0, 0), (0, 0, 0), (0, 0, 0), (0, 0, 0), (0, 0, 0), (0, 0, 0), (2, 36, 0), (0, 0, 0), (0, 0, 0), (2, 37, 0), (2, 38, 0), (0, 0, 0), (0, 0, 0), (1, 0, 0), (0, 0, 0), (0, 0, 0), (0, 0, 0), (2, 39, 0), (2, 40, 0), (2, 41, 0), (2, 42, 0), (0, 0, 0), (2, 43, 0)] : List (Nat × Nat × Nat))[n]? = some (1, y, z) → n = 27 := by
                        intro n hn y z h
                        have h' := congrArg (fun o => o.map (fun q : Nat × Nat × Nat => q.1)) h
                        simp only [Option.map_some] at h'
                        revert h'
                        clear h
                        revert n
                        decide +kernel
                      have b1 := only _ a1 _ _ hf
                      have b2 := only _ a2 _ _ hfi
                      omega
                    · rfl
              · intro q hq hne
                have hq29 : q.1 ≠ 29 := by
                  intro h29
                  apply hne
                  subst e3
                  have : pm_cnt 29 = 1 := rfl
                  have hk0 : k = 0 := by omega
                  have hq0 := pm_only29 q hq h29
                  obtain ⟨a, b⟩ := q
                  simp_all
                unfold pm_ent
                split
                · rename_i cj gs hgs
                  congr 2
                  apply List.ext_getElem?
                  intro i
                  simp only [List.getElem?_mapIdx]
                  cases hgi : gs[i]? with
                  | none => rfl
                  | some f =>
                    simp only [Option.map_some]
                    congr 1
                    unfold pm_fv
                    split
                    · rfl
                    · exact absurd ((pm_obj hgs).2.2.2.1 _ _ _ hgi).2.2 hq29
                    · rfl
                · rfl
                · rfl
                · rfl
            · cases hv
          · cases hv
        · cases hv
      · cases hv
    · cases hs
  · cases hs
end PmT
end
section
theorem pm_sixlt : ∀ i j : Nat, pm_six.findIdx? (fun q => q == i) = some j → j < 7 ∧ pm_six.getD j 0 = i := by
  intro i j h
  rw [List.findIdx?_eq_some_iff_getElem] at h
  obtain ⟨h1, h2, -⟩ := h
  refine ⟨h1, ?_⟩
  rw [List.getD_eq_getElem?_getD, List.getElem?_eq_getElem h1]
  simpa using h2
section PmU
variable {p : Program} {l : Launch} {e : Env} {R : Room} {s : State} {m : MethodId} {args : Array Value} {below : List Frame} {meth : Method} {c : Code} {cells slots : Nat} {Z : State → Prop} {D : va_G} {E : pm_E} {A : Nat → Prop} {xs : Nat → Int32} {L : Int32} {mi : pm_MI} {pc : Nat} {ls : pm_L} {st : List pm_V} {M : pm_M} {cs : List Prop} {s' : pm_S} {nL : Nat}
theorem pm_s_iald (C : pm_Cx mi p R s m args c cells slots D E A xs L) (hd : decode mi.2.2.1 pc = .ok (.iaload, 1)) (hs : pm_step mi.1 .iaload pc ls st M = some (cs, s')) (hc : pm_all cs) (kk : pm_J p l e R s m args below meth c cells slots Z D E A xs L nL s'.1 s'.2.1 s'.2.2.1 s'.2.2.2) : pm_J p l e R s m args below meth c cells slots Z D E A xs L nL pc ls st M := by
  obtain ⟨hx, hb, hml, hown, hts, hK, hSt, -, hA, hX⟩ := C
  simp only [pm_step] at hs
  split at hs
  · rename_i i t k r
    split at hs
    · rename_i q x hv
      cases hs
      intro H locs LS hW hF
      have hk : k < pm_cnt t := pm_ok_h (pm_ok_t hF.ok)
      have kk := kk H locs LS hW (hF.stk (pm_ok_c trivial (pm_ok_t (pm_ok_t hF.ok))))
      unfold pm_ia at hv
      split at hv
      · rename_i n hsh
        cases hv
        have ht := pm_sh_lt hsh
        obtain ⟨j, hj, -⟩ := pm_at E M ht hk
        have hent : pm_ent E M t k = .inl (E.2.2 0, n, .inl (M.1 t k)) := by unfold pm_ent; rw [hsh]
        rw [hent] at hj
        rw [List.map_cons, List.map_cons, pm_cv_r (by omega)]
        exact va_iald hx hb hK hW.1 j 0 hj rfl hc.1 hd kk
      · cases hv
      · split at hv
        · rename_i h51
          subst h51
          cases hv
          have hk0 : k = 0 := by have h1 : k < 1 := hk; omega
          subst hk0
          rw [List.map_cons, List.map_cons, pm_cv_r (by omega)]
          exact va_ti hx hb hSt.2.2.1 hW.2.2.1 hc.1 rfl hd kk
        · split at hv
          · rename_i h50
            obtain ⟨rfl, h7⟩ := h50
            cases hv
            have hk0 : k = 0 := by have h1 : k < 1 := hk; omega
            subst hk0
            obtain ⟨x1, x2, x3, x4⟩ := hX h7
            rw [List.map_cons, List.map_cons, pm_cv_r (by omega)]
            have hin : vp_in i L.toNatClampNeg := by have := hc.1; rw [hW.2.2.2.2] at this; exact this
            refine va_sld hx hb x1 x2 x3 hW.2.2.1 hin hd ?_
            rw [← hW.2.2.2.1]
            exact kk
          · cases hv
    · cases hs
  · cases hs
theorem pm_s_bald (C : pm_Cx mi p R s m args c cells slots D E A xs L) (hd : decode mi.2.2.1 pc = .ok (.baload, 1)) (hs : pm_step mi.1 .baload pc ls st M = some (cs, s')) (hc : pm_all cs) (kk : pm_J p l e R s m args below meth c cells slots Z D E A xs L nL s'.1 s'.2.1 s'.2.2.1 s'.2.2.2) : pm_J p l e R s m args below meth c cells slots Z D E A xs L nL pc ls st M := by
  obtain ⟨hx, hb, hml, hown, hts, hK, hSt, -, hA, hX⟩ := C
  simp only [pm_step] at hs
  split at hs
  · rename_i i t k r
    split at hs
    · rename_i q x hv
      cases hs
      intro H locs LS hW hF
      have hk : k < pm_cnt t := pm_ok_h (pm_ok_t hF.ok)
      have kk := kk H locs LS hW (hF.stk (pm_ok_c trivial (pm_ok_t (pm_ok_t hF.ok))))
      unfold pm_ba at hv
      split at hv
      · rename_i n hsh
        cases hv
        have ht := pm_sh_lt hsh
        obtain ⟨j, hj, -⟩ := pm_at E M ht hk
        have hent : pm_ent E M t k = .inl (E.2.2 1, n, .inl (M.1 t k)) := by unfold pm_ent; rw [hsh]
        rw [hent] at hj
        rw [List.map_cons, List.map_cons, pm_cv_r (by omega)]
        exact va_bald hx hb hK hW.1 j 1 hj rfl hc.1 hd kk
      · rename_i n hsh
        cases hv
        have ht := pm_sh_lt hsh
        obtain ⟨j, hj, -⟩ := pm_at E M ht hk
        have hent : pm_ent E M t k = .inl (E.2.2 2, n, .inl (M.1 t k)) := by unfold pm_ent; rw [hsh]
        rw [hent] at hj
        rw [List.map_cons, List.map_cons, pm_cv_r (by omega)]
        exact va_zald hx hb hK hW.1 j 2 hj rfl hc.1 hd kk
      · cases hv
      · split at hv
        · rename_i h53
          subst h53
          cases hv
          rw [List.map_cons, List.map_cons, pm_cv_r (by omega)]
          exact va_tb hx hb (hSt.2.2.2.2.2.2.1.1 k hk).2.2.2 hW.2.2.1 hc.1 rfl hd kk
        · cases hv
    · cases hs
  · cases hs
theorem pm_s_aald (C : pm_Cx mi p R s m args c cells slots D E A xs L) (hd : decode mi.2.2.1 pc = .ok (.aaload, 1)) (hs : pm_step mi.1 .aaload pc ls st M = some (cs, s')) (hc : pm_all cs) (kk : pm_J p l e R s m args below meth c cells slots Z D E A xs L nL s'.1 s'.2.1 s'.2.2.1 s'.2.2.2) : pm_J p l e R s m args below meth c cells slots Z D E A xs L nL pc ls st M := by
  obtain ⟨hx, hb, hml, hown, hts, hK, hSt, -, hA, hX⟩ := C
  simp only [pm_step] at hs
  split at hs
  · rename_i i t k r
    split at hs
    · rename_i ty n t' b hsh
      cases hs
      intro H locs LS hW hF
      have hk : k < pm_cnt t := pm_ok_h (pm_ok_t hF.ok)
      obtain ⟨h1, h2, h3⟩ := pm_arr hsh
      have hi := pm_in_lt hc.1
      have kk := kk H locs LS hW (hF.stk (pm_ok_c (show b + i.toNatClampNeg < pm_cnt t' by omega) (pm_ok_t (pm_ok_t hF.ok))))
      rw [List.map_cons, pm_cv_r (by omega)] at kk
      have ht := pm_sh_lt hsh
      obtain ⟨j, hj, -⟩ := pm_at E M ht hk
      have hent : pm_ent E M t k = .inl (E.2.2 ty, n, .inr (.inr (.inr (.inr (fun i => some (E.1 t' (b + i))))))) := by unfold pm_ent; rw [hsh]
      rw [hent] at hj
      rw [List.map_cons, List.map_cons, pm_cv_r (by omega)]
      rcases h3 with rfl | rfl
      · exact va_aldq hx hb hK hW.1 j 3 hj rfl hc.1 hd kk
      · exact va_aldq hx hb hK hW.1 j 4 hj rfl hc.1 hd kk
    · cases hs
  · cases hs
theorem pm_s_iast (C : pm_Cx mi p R s m args c cells slots D E A xs L) (hd : decode mi.2.2.1 pc = .ok (.iastore, 1)) (hs : pm_step mi.1 .iastore pc ls st M = some (cs, s')) (hc : pm_all cs) (kk : pm_J p l e R s m args below meth c cells slots Z D E A xs L nL s'.1 s'.2.1 s'.2.2.1 s'.2.2.2) : pm_J p l e R s m args below meth c cells slots Z D E A xs L nL pc ls st M := by
  obtain ⟨hx, hb, hml, hown, hts, hK, hSt, -, hA, hX⟩ := C
  simp only [pm_step] at hs
  split at hs
  · rename_i x i t k r
    split at hs
    · rename_i n hsh
      cases hs
      intro H locs LS hW hF
      have hk : k < pm_cnt t := pm_ok_h (pm_ok_t (pm_ok_t hF.ok))
      have ht := pm_sh_lt hsh
      obtain ⟨j, hj, hset⟩ := pm_at E M ht hk
      have hent : ∀ M : pm_M, pm_ent E M t k = .inl (E.2.2 0, n, .inl (M.1 t k)) := fun M => by unfold pm_ent; rw [hsh]
      rw [hent] at hj
      rw [List.map_cons, List.map_cons, List.map_cons, pm_cv_r (by omega)]
      refine va_iast hx hb hK hW.1 hW.2.1 hW.2.2.1 j 0 hj rfl hc.1 hd (fun H1 locs1 hP1 hD1 hS1 => ?_)
      have e1 := hset (pm_set M t k (upd (M.1 t k) i.toNatClampNeg x)) pm_ent_set
      rw [hent, pm_set_at] at e1
      rw [e1] at hP1
      exact kk H1 locs1 LS (hW.set hP1 hS1 (pm_set_ne _ _ (by omega)) (by rw [pm_set_ne _ _ (by omega)])) (hF.stk (pm_ok_t (pm_ok_t (pm_ok_t hF.ok))))
    · cases hs
  · cases hs
theorem pm_s_bast (C : pm_Cx mi p R s m args c cells slots D E A xs L) (hd : decode mi.2.2.1 pc = .ok (.bastore, 1)) (hs : pm_step mi.1 .bastore pc ls st M = some (cs, s')) (hc : pm_all cs) (kk : pm_J p l e R s m args below meth c cells slots Z D E A xs L nL s'.1 s'.2.1 s'.2.2.1 s'.2.2.2) : pm_J p l e R s m args below meth c cells slots Z D E A xs L nL pc ls st M := by
  obtain ⟨hx, hb, hml, hown, hts, hK, hSt, -, hA, hX⟩ := C
  simp only [pm_step] at hs
  split at hs
  · rename_i x i t k r
    split at hs
    · rename_i n hsh
      cases hs
      intro H locs LS hW hF
      have hk : k < pm_cnt t := pm_ok_h (pm_ok_t (pm_ok_t hF.ok))
      have ht := pm_sh_lt hsh
      obtain ⟨j, hj, hset⟩ := pm_at E M ht hk
      have hent : ∀ M : pm_M, pm_ent E M t k = .inl (E.2.2 1, n, .inl (M.1 t k)) := fun M => by unfold pm_ent; rw [hsh]
      rw [hent] at hj
      rw [List.map_cons, List.map_cons, List.map_cons, pm_cv_r (by omega)]
      refine va_bast hx hb hK hW.1 hW.2.1 hW.2.2.1 j 1 hj rfl hc.1 hd (fun H1 locs1 hP1 hD1 hS1 => ?_)
      have e1 := hset (pm_set M t k (upd (M.1 t k) i.toNatClampNeg (vp_nar .byte x))) pm_ent_set
      rw [hent, pm_set_at] at e1
      rw [e1] at hP1
      exact kk H1 locs1 LS (hW.set hP1 hS1 (pm_set_ne _ _ (by omega)) (by rw [pm_set_ne _ _ (by omega)])) (hF.stk (pm_ok_t (pm_ok_t (pm_ok_t hF.ok))))
    · rename_i n hsh
      cases hs
      intro H locs LS hW hF
      have hk : k < pm_cnt t := pm_ok_h (pm_ok_t (pm_ok_t hF.ok))
      have ht := pm_sh_lt hsh
      obtain ⟨j, hj, hset⟩ := pm_at E M ht hk
      have hent : ∀ M : pm_M, pm_ent E M t k = .inl (E.2.2 2, n, .inl (M.1 t k)) := fun M => by unfold pm_ent; rw [hsh]
      rw [hent] at hj
      rw [List.map_cons, List.map_cons, List.map_cons, pm_cv_r (by omega)]
      refine va_zast hx hb hK hW.1 hW.2.1 hW.2.2.1 j 2 hj rfl hc.1 hd (fun H1 locs1 hP1 hD1 hS1 => ?_)
      have e1 := hset (pm_set M t k (upd (M.1 t k) i.toNatClampNeg (vp_nar .boolean x))) pm_ent_set
      rw [hent, pm_set_at] at e1
      rw [e1] at hP1
      exact kk H1 locs1 LS (hW.set hP1 hS1 (pm_set_ne _ _ (by omega)) (by rw [pm_set_ne _ _ (by omega)])) (hF.stk (pm_ok_t (pm_ok_t (pm_ok_t hF.ok))))
    · cases hs
  · cases hs
theorem pm_s_alen (C : pm_Cx mi p R s m args c cells slots D E A xs L) (hd : decode mi.2.2.1 pc = .ok (.arraylength, 1)) (hs : pm_step mi.1 .arraylength pc ls st M = some (cs, s')) (kk : pm_J p l e R s m args below meth c cells slots Z D E A xs L nL s'.1 s'.2.1 s'.2.2.1 s'.2.2.2) : pm_J p l e R s m args below meth c cells slots Z D E A xs L nL pc ls st M := by
  obtain ⟨hx, hb, hml, hown, hts, hK, hSt, -, hA, hX⟩ := C
  simp only [pm_step] at hs
  split at hs
  · rename_i t k r
    split at hs
    · rename_i x hv
      cases hs
      intro H locs LS hW hF
      have hk : k < pm_cnt t := pm_ok_h hF.ok
      have kk := kk H locs LS hW (hF.stk (pm_ok_c trivial (pm_ok_t hF.ok)))
      unfold pm_al at hv
      split at hv
      · rename_i ty n hsh
        cases hv
        have ht := pm_sh_lt hsh
        obtain ⟨j, hj, -⟩ := pm_at E M ht hk
        have hent : pm_ent E M t k = .inl (E.2.2 ty, n, .inl (M.1 t k)) := by unfold pm_ent; rw [hsh]
        rw [hent] at hj
        rw [List.map_cons, pm_cv_r (by omega)]
        have h0 := pm_chks t ht
        unfold pm_chk at h0
        rw [hsh] at h0
        simp only [Bool.and_eq_true, decide_eq_true_eq] at h0
        have h3 : ty = 0 ∨ ty = 1 ∨ ty = 2 := by omega
        rcases h3 with rfl | rfl | rfl
        · exact va_alen hx hb hK hW.1 j 0 hj (ty := .int) rfl rfl hd kk
        · exact va_alen hx hb hK hW.1 j 1 hj (ty := .byte) rfl rfl hd kk
        · exact va_alen hx hb hK hW.1 j 2 hj (ty := .boolean) rfl rfl hd kk
      · rename_i ty n t' b hsh
        cases hv
        have ht := pm_sh_lt hsh
        obtain ⟨j, hj, -⟩ := pm_at E M ht hk
        have hent : pm_ent E M t k = .inl (E.2.2 ty, n, .inr (.inr (.inr (.inr (fun i => some (E.1 t' (b + i))))))) := by unfold pm_ent; rw [hsh]
        rw [hent] at hj
        rw [List.map_cons, pm_cv_r (by omega)]
        rcases (pm_arr hsh).2.2 with rfl | rfl
        · exact va_alen hx hb hK hW.1 j 3 hj (ty := .object "WheelTickets$Wheel") rfl rfl hd kk
        · exact va_alen hx hb hK hW.1 j 4 hj (ty := .object "WheelTickets$Sheet") rfl rfl hd kk
      · cases hv
      · split at hv
        · rename_i h51
          subst h51
          cases hv
          have hk0 : k = 0 := by have h1 : k < 1 := hk; omega
          subst hk0
          rw [List.map_cons, pm_cv_r (by omega)]
          exact va_tlen hx hb hSt.2.2.1 hW.2.2.1 rfl hd kk
        · split at hv
          · rename_i h53
            subst h53
            cases hv
            rw [List.map_cons, pm_cv_r (by omega)]
            exact va_tlen hx hb (hSt.2.2.2.2.2.2.1.1 k hk).2.2.2 hW.2.2.1 rfl hd kk
          · split at hv
            · rename_i h50
              obtain ⟨rfl, h7⟩ := h50
              cases hv
              have hk0 : k = 0 := by have h1 : k < 1 := hk; omega
              subst hk0
              obtain ⟨x1, x2, x3, x4⟩ := hX h7
              rw [List.map_cons, pm_cv_r (by omega)]
              refine va_slen hx hb x1 x2 x3 hW.2.2.1 hd ?_
              rw [x4, ← hW.2.2.2.2]
              exact kk
            · cases hv
    · cases hs
  · cases hs
theorem pm_s_gs (C : pm_Cx mi p R s m args c cells slots D E A xs L) {idx : Nat} (hd : decode mi.2.2.1 pc = .ok (.getstatic idx, 3)) (hs : pm_step mi.1 (.getstatic idx) pc ls st M = some (cs, s')) (kk : pm_J p l e R s m args below meth c cells slots Z D E A xs L nL s'.1 s'.2.1 s'.2.2.1 s'.2.2.2) : pm_J p l e R s m args below meth c cells slots Z D E A xs L nL pc ls st M := by
  obtain ⟨hx, hb, hml, hown, hts, hK, hSt, -, hA, hX⟩ := C
  refine pm_s_push (v := pm_gs mi.1 idx) (fun w hv H locs LS r hW hF => ?_) hs kk
  unfold pm_gs at hv
  split at hv
  · rename_i h0
    obtain ⟨h1, rfl⟩ := h0
    cases hv
    rw [h1] at hown
    refine ⟨show 0 < pm_cnt 51 from by decide, fun k => ?_⟩
    have hn := hSt.1 (.fieldLinkNest "WheelTickets$Rest" 87 "WheelTickets" "ORDERS" "[I" "WheelTickets") (by decide +kernel)
    exact va_getsN hx hb hSt.2.1 hW.2.2.1 hown (va_Nw.use rfl hn) (fun _ h => h) hd k
  · split at hv
    · rename_i h0
      obtain ⟨h1, rfl⟩ := h0
      cases hv
      rw [h1] at hown
      exact ⟨trivial, fun k => va_gets hx hb hSt.2.2.2.1 hW.2.2.1 hown (hts _ pm_w_cs) (fun _ h => h) hd k⟩
    · split at hv
      · rename_i h0
        obtain ⟨h1, rfl⟩ := h0
        cases hv
        rw [h1] at hown
        exact ⟨show 0 < pm_cnt 54 from by decide, fun k => va_gets hx hb hSt.2.2.2.2.1 hW.2.2.1 hown (hts _ pm_w_sf) (fun _ h => h) hd k⟩
      · cases hv
theorem pm_s_ldc (C : pm_Cx mi p R s m args c cells slots D E A xs L) {idx : Nat} (hd : decode mi.2.2.1 pc = .ok (.ldc idx, 2)) (hs : pm_step mi.1 (.ldc idx) pc ls st M = some (cs, s')) (kk : pm_J p l e R s m args below meth c cells slots Z D E A xs L nL s'.1 s'.2.1 s'.2.2.1 s'.2.2.2) : pm_J p l e R s m args below meth c cells slots Z D E A xs L nL pc ls st M := by
  obtain ⟨hx, hb, hml, hown, hts, hK, hSt, -, hA, hX⟩ := C
  refine pm_s_push (v := pm_ldc mi.1 idx) (fun w hv H locs LS r hW hF => ?_) hs kk
  unfold pm_ldc at hv
  split at hv
  · rename_i z hz
    cases hv
    exact ⟨trivial, fun k => lv_ldc hx hb hown (hts _ (pm_ic_ok hz)) hd k⟩
  · split at hv
    · rename_i h3
      obtain ⟨j, hj, rfl⟩ := Option.map_eq_some_iff.mp hv
      obtain ⟨h7, h8⟩ := pm_sixlt _ _ hj
      rw [h3] at hown
      refine ⟨h7, fun k => ?_⟩
      have hR := hSt.2.2.2.2.2.2.2 j h7
      rw [h8] at hR
      exact va_ldcS hx hb hown hR hd k
    · cases hv
/-- a step of the pure machine is a step of the machine -/
theorem pm_sound (hok : pm_ok mi) (C : pm_Cx mi p R s m args c cells slots D E A xs L) {i : Instr} (ht : pm_tab mi pc = some i) (hs : pm_step mi.1 i pc ls st M = some (cs, s')) (hc : pm_all cs) (kk : pm_J p l e R s m args below meth c cells slots Z D E A xs L nL s'.1 s'.2.1 s'.2.2.1 s'.2.2.2) : pm_J p l e R s m args below meth c cells slots Z D E A xs L nL pc ls st M := by
  have hd := pm_tab_ok hok ht
  have C0 := C
  obtain ⟨hx, hb, hml, hown, hts, hK, hSt, -, hA, hX⟩ := C
  have hE := hSt.cat
  cases i with
  | iconst z =>
    cases hs
    exact fun H locs LS hW hF => lv_iconst hx hb hd rfl (kk H locs LS hW (hF.stk (pm_ok_c trivial hF.ok)))
  | bipush z =>
    cases hs
    exact fun H locs LS hW hF => lv_bipush hx hb hd rfl (kk H locs LS hW (hF.stk (pm_ok_c trivial hF.ok)))
  | sipush z =>
    cases hs
    exact fun H locs LS hW hF => lv_sipush hx hb hd rfl (kk H locs LS hW (hF.stk (pm_ok_c trivial hF.ok)))
  | lconst z =>
    cases hs
    exact fun H locs LS hW hF => lv_lconst hx hb hd rfl (kk H locs LS hW (hF.stk (pm_ok_c trivial hF.ok)))
  | iload_n k =>
    refine pm_s_push (fun w hv H locs LS r hW hF => ?_) hs kk
    unfold pm_ldi at hv
    split at hv
    · rename_i x hx9
      cases hv
      exact ⟨trivial, fun k9 => lv_iload_n hx hb hd rfl (hF.2.2.2.1 _ _ hx9).1 k9⟩
    · cases hv
  | iload k =>
    refine pm_s_push (fun w hv H locs LS r hW hF => ?_) hs kk
    unfold pm_ldi at hv
    split at hv
    · rename_i x hx9
      cases hv
      exact ⟨trivial, fun k9 => lv_iload hx hb hd (hF.2.2.2.1 _ _ hx9).1 k9⟩
    · cases hv
  | lload_n k =>
    refine pm_s_push (fun w hv H locs LS r hW hF => ?_) hs kk
    unfold pm_ldl at hv
    split at hv
    · rename_i x hx9
      cases hv
      exact ⟨trivial, fun k9 => lv_lload_n hx hb hd rfl (hF.2.2.2.1 _ _ hx9).1 k9⟩
    · cases hv
  | lload k =>
    refine pm_s_push (fun w hv H locs LS r hW hF => ?_) hs kk
    unfold pm_ldl at hv
    split at hv
    · rename_i x hx9
      cases hv
      exact ⟨trivial, fun k9 => lv_lload hx hb hd (hF.2.2.2.1 _ _ hx9).1 k9⟩
    · cases hv
  | aload_n k =>
    refine pm_s_push (fun w hv H locs LS r hW hF => ?_) hs kk
    unfold pm_lda at hv
    split at hv
    · rename_i t j hx9
      split at hv
      · cases hv
      · rename_i h54
        cases hv
        have h9 := hF.2.2.2.1 _ _ hx9
        rw [pm_cv_r h54] at h9 ⊢
        exact ⟨h9.2, fun k9 => lv_aload_n hx hb hd rfl h9.1 k9⟩
    · cases hv
  | aload k =>
    refine pm_s_push (fun w hv H locs LS r hW hF => ?_) hs kk
    unfold pm_lda at hv
    split at hv
    · rename_i t j hx9
      split at hv
      · cases hv
      · rename_i h54
        cases hv
        have h9 := hF.2.2.2.1 _ _ hx9
        rw [pm_cv_r h54] at h9 ⊢
        exact ⟨h9.2, fun k9 => lv_aload hx hb hd h9.1 k9⟩
    · cases hv
  | istore_n k => exact pm_s_sti hE (fun H locs LS x r lv h1 h2 k9 => lv_istore_n hx hb hd rfl h1 h2 rfl k9) hs kk
  | istore k => exact pm_s_sti hE (fun H locs LS x r lv h1 h2 k9 => lv_istore hx hb hd h1 h2 rfl k9) hs kk
  | lstore_n k => exact pm_s_stl hE (fun H locs LS x r lv h1 h2 k9 => lv_lstore_n hx hb hd rfl h1 h2 rfl k9) hs kk
  | lstore k => exact pm_s_stl hE (fun H locs LS x r lv h1 h2 k9 => lv_lstore hx hb hd h1 h2 rfl k9) hs kk
  | astore_n k => exact pm_s_sta hE (fun H locs LS x r lv h1 h2 k9 => lv_astore_n hx hb hd rfl h1 h2 rfl k9) hs kk
  | astore k => exact pm_s_sta hE (fun H locs LS x r lv h1 h2 k9 => lv_astore hx hb hd h1 h2 rfl k9) hs kk
  | iinc k z =>
    simp only [pm_step] at hs
    split at hs
    · rename_i x hx9
      cases hs
      intro H locs LS hW hF
      have h9 : (k, Value.int x) ∈ pm_as E ls := pm_as_in (E := E) hx9
      obtain ⟨j, hj⟩ := List.getElem?_of_mem h9
      exact lv_iinc hx hb hd hF.has hj rfl (by rw [← hF.2.2.1]; exact (List.getElem?_eq_some_iff.mp hx9).1) rfl (fun LS' hl => kk H locs LS' hW (hF.st1 (v := pm_i (x + Int32.ofInt z)) hE trivial hl hF.ok))
    · cases hs
  | iadd => exact pm_s_bi (fun H locs LS x y r k9 => lv_iadd hx hb hd k9) hs kk
  | isub => exact pm_s_bi (fun H locs LS x y r k9 => lv_isub hx hb hd k9) hs kk
  | imul => exact pm_s_bi (fun H locs LS x y r k9 => lv_imul hx hb hd k9) hs kk
  | iand => exact pm_s_bi (fun H locs LS x y r k9 => lv_iand hx hb hd k9) hs kk
  | ior => exact pm_s_bi (fun H locs LS x y r k9 => lv_ior hx hb hd k9) hs kk
  | ishl => exact pm_s_bi (fun H locs LS x y r k9 => lv_ishl hx hb hd k9) hs kk
  | ishr => exact pm_s_bi (fun H locs LS x y r k9 => lv_ishr hx hb hd k9) hs kk
  | iushr => exact pm_s_bi (fun H locs LS x y r k9 => lv_iushr hx hb hd rfl k9) hs kk
  | idiv => exact pm_s_bd (fun H locs LS x y r hy k9 => lv_idiv hx hb hd hy k9) hs hc kk
  | irem => exact pm_s_bd (fun H locs LS x y r hy k9 => lv_irem hx hb hd hy k9) hs hc kk
  | ladd => exact pm_s_bl (fun H locs LS x y r k9 => lv_ladd hx hb hd k9) hs kk
  | lmul => exact pm_s_bl (fun H locs LS x y r k9 => lv_lmul hx hb hd k9) hs kk
  | ldiv => exact pm_s_bld (fun H locs LS x y r hy k9 => lv_ldiv hx hb hd hy k9) hs hc kk
  | lrem => exact pm_s_bld (fun H locs LS x y r hy k9 => lv_lrem hx hb hd hy k9) hs hc kk
  | lcmp => exact pm_s_lcmp (fun H locs LS x y r k9 => W.lcmp hx hb hd k9) hs kk
  | ineg => exact pm_s_ui (f := fun x => pm_i (-x)) (fun _ => trivial) (fun H locs LS x r k9 => lv_ineg hx hb hd k9) hs kk
  | i2l => exact pm_s_ui (f := fun x => pm_l x.toInt64) (fun _ => trivial) (fun H locs LS x r k9 => lv_i2l hx hb hd rfl k9) hs kk
  | i2b => exact pm_s_ui (f := fun x => pm_i x.toInt8.toInt32) (fun _ => trivial) (fun H locs LS x r k9 => lv_i2b hx hb hd rfl k9) hs kk
  | i2s => exact pm_s_ui (f := fun x => pm_i x.toInt16.toInt32) (fun _ => trivial) (fun H locs LS x r k9 => lv_i2s hx hb hd rfl k9) hs kk
  | i2c => exact pm_s_ui (f := fun x => pm_i (x.toUInt32 % 65536).toInt32) (fun _ => trivial) (fun H locs LS x r k9 => lv_i2c hx hb hd rfl k9) hs kk
  | lneg => exact pm_s_ul (f := fun x => pm_l (-x)) (fun _ => trivial) (fun H locs LS x r k9 => lv_lneg hx hb hd k9) hs kk
  | dup =>
    simp only [pm_step, pm_dup] at hs
    split at hs
    · split at hs
      · rename_i v r h1
        cases hs
        exact fun H locs LS hW hF => lv_dup hx hb hd (pm_cat hE h1) (kk H locs LS hW (hF.stk (pm_ok_c (pm_ok_h hF.ok) hF.ok)))
      · cases hs
    · cases hs
  | dup2 =>
    simp only [pm_step, pm_dup2] at hs
    split at hs
    · split at hs
      · rename_i v w r h1
        cases hs
        rw [Bool.and_eq_true] at h1
        exact fun H locs LS hW hF => lv_dup2_11 hx hb hd (pm_cat hE h1.1) (pm_cat hE h1.2) (kk H locs LS hW (hF.stk (pm_ok_c (pm_ok_h hF.ok) (pm_ok_c (pm_ok_h (pm_ok_t hF.ok)) hF.ok))))
      · cases hs
    · cases hs
  | pop =>
    simp only [pm_step, pm_pop] at hs
    split at hs
    · split at hs
      · rename_i v r h1
        cases hs
        exact fun H locs LS hW hF => lv_pop hx hb hd (pm_cat hE h1) (kk H locs LS hW (hF.stk (pm_ok_t hF.ok)))
      · cases hs
    · cases hs
  | goto off =>
    simp only [pm_step] at hs
    split at hs
    · rename_i h0
      cases hs
      exact fun H locs LS hW hF => lv_goto hx hb hd (pm_tgt h0) (kk H locs LS hW hF)
    · cases hs
  | ifCond q off =>
    cases q with
    | eq => exact pm_s_if (fun H locs LS x r tgt h9 k9 => lv_if_eq hx hb hd h9 (fun h => by rw [if_pos h] at k9; exact k9) (fun h => by rw [if_neg h] at k9; exact k9)) hs kk
    | ne => exact pm_s_if (f := fun x a b => if x = 0 then b else a) (fun H locs LS x r tgt h9 k9 => lv_if_ne hx hb hd h9 (fun h => by rw [if_neg h] at k9; exact k9) (fun h => by rw [if_pos h] at k9; exact k9)) hs kk
    | lt => exact pm_s_if (fun H locs LS x r tgt h9 k9 => lv_if_lt hx hb hd h9 (fun h => by rw [if_pos h] at k9; exact k9) (fun h => by rw [if_neg h] at k9; exact k9)) hs kk
    | ge => exact pm_s_if (fun H locs LS x r tgt h9 k9 => lv_if_ge hx hb hd h9 (fun h => by rw [if_pos h] at k9; exact k9) (fun h => by rw [if_neg h] at k9; exact k9)) hs kk
    | gt => exact pm_s_if (fun H locs LS x r tgt h9 k9 => lv_if_gt hx hb hd h9 (fun h => by rw [if_pos h] at k9; exact k9) (fun h => by rw [if_neg h] at k9; exact k9)) hs kk
    | le => exact pm_s_if (fun H locs LS x r tgt h9 k9 => lv_if_le hx hb hd h9 (fun h => by rw [if_pos h] at k9; exact k9) (fun h => by rw [if_neg h] at k9; exact k9)) hs kk
  | if_icmp q off =>
    cases q with
    | eq => exact pm_s_ic2 (fun H locs LS x y r tgt h9 k9 => lv_icmp_eq hx hb hd h9 (fun h => by rw [if_pos h] at k9; exact k9) (fun h => by rw [if_neg h] at k9; exact k9)) hs kk
    | ne => exact pm_s_ic2 (f := fun x y a b => if x = y then b else a) (fun H locs LS x y r tgt h9 k9 => lv_icmp_ne hx hb hd h9 (fun h => by rw [if_neg h] at k9; exact k9) (fun h => by rw [if_pos h] at k9; exact k9)) hs kk
    | lt => exact pm_s_ic2 (fun H locs LS x y r tgt h9 k9 => lv_icmp_lt hx hb hd h9 (fun h => by rw [if_pos h] at k9; exact k9) (fun h => by rw [if_neg h] at k9; exact k9)) hs kk
    | ge => exact pm_s_ic2 (fun H locs LS x y r tgt h9 k9 => lv_icmp_ge hx hb hd h9 (fun h => by rw [if_pos h] at k9; exact k9) (fun h => by rw [if_neg h] at k9; exact k9)) hs kk
    | gt => exact pm_s_ic2 (fun H locs LS x y r tgt h9 k9 => lv_icmp_gt hx hb hd h9 (fun h => by rw [if_pos h] at k9; exact k9) (fun h => by rw [if_neg h] at k9; exact k9)) hs kk
    | le => exact pm_s_ic2 (fun H locs LS x y r tgt h9 k9 => lv_icmp_le hx hb hd h9 (fun h => by rw [if_pos h] at k9; exact k9) (fun h => by rw [if_neg h] at k9; exact k9)) hs kk
  | getfield idx => exact pm_s_gf C0 hd hs kk
  | putfield idx => exact pm_s_pf C0 hd hs kk
  | getstatic idx => exact pm_s_gs C0 hd hs kk
  | ldc idx => exact pm_s_ldc C0 hd hs kk
  | ldc_w idx =>
    refine pm_s_push (fun w hv H locs LS r hW hF => ?_) hs kk
    obtain ⟨z, hz, rfl⟩ := Option.map_eq_some_iff.mp hv
    exact ⟨trivial, fun k9 => lv_ldcw hx hb hown (hts _ (pm_ic_ok hz)) hd k9⟩
  | ldc2_w idx =>
    refine pm_s_push (fun w hv H locs LS r hW hF => ?_) hs kk
    obtain ⟨z, hz, rfl⟩ := Option.map_eq_some_iff.mp hv
    exact ⟨trivial, fun k9 => lv_ldc2 hx hb hown (hts _ (pm_lc_ok hz)) hd k9⟩
  | iaload => exact pm_s_iald C0 hd hs hc kk
  | baload => exact pm_s_bald C0 hd hs hc kk
  | aaload => exact pm_s_aald C0 hd hs hc kk
  | iastore => exact pm_s_iast C0 hd hs hc kk
  | bastore => exact pm_s_bast C0 hd hs hc kk
  | arraylength => exact pm_s_alen C0 hd hs kk
  | _ => cases hs
theorem pm_runs (hok : pm_ok mi) (C : pm_Cx mi p R s m args c cells slots D E A xs L) : ∀ (n : Nat) {pc : Nat} {ls : pm_L} {st : List pm_V} {M : pm_M} {cs : List Prop} {s' : pm_S}, pm_run mi n pc ls st M = some (cs, s') → pm_all cs → pm_J p l e R s m args below meth c cells slots Z D E A xs L nL s'.1 s'.2.1 s'.2.2.1 s'.2.2.2 → pm_J p l e R s m args below meth c cells slots Z D E A xs L nL pc ls st M := by
  intro n
  induction n with
  | zero =>
    intro pc ls st M cs s' h _ kk
    cases h
    exact kk
  | succ n ih =>
    intro pc ls st M cs s' h hc kk
    rw [pm_run] at h
    split at h
    · rename_i i hi
      split at h
      · rename_i c1 pc1 ls1 st1 M1 h1
        split at h
        · rename_i c2 s2 h2
          cases h
          obtain ⟨a, b⟩ := pm_all_app hc
          exact pm_sound hok C hi h1 a (ih h2 b kk)
        · cases h
      · cases h
    · cases h
end PmU
end
section
/-! the judgements: pm_G within a method, pm_Sem of a whole call -/
def pm_rt (ret : Option FieldType) (i : Instr) (st : List pm_V) (v : Option pm_V) : Prop := match i with
  | .return_ => ret = none ∧ st = [] ∧ v = none
  | .ireturn => ∃ (ty : FieldType) (x : Int32), ret = some ty ∧ st = [pm_i x] ∧ v = some (pm_i x) ∧ narrow ty (.int x) = .int x
  | .lreturn => ∃ x : Int64, ret = some .long ∧ st = [pm_l x] ∧ v = some (pm_l x)
  | .areturn => ∃ (t k : Nat) (n : String), ret = some (.object n) ∧ st = [pm_r t k] ∧ v = some (pm_r t k) ∧ t ≠ 54
  | _ => False
def pm_G (mi : pm_MI) (pc : Nat) (ls : pm_L) (st : List pm_V) (M : pm_M) (Q : Option pm_V → pm_M → Prop) : Prop :=
  ∀ (p : Program) (l : Launch) (e : Env) (R : Room) (s : State) (m : MethodId) (args : Array Value) (below : List Frame) (meth : Method) (c : Code) (cells slots : Nat) (Z : State → Prop) (D : va_G) (E : pm_E) (A : Nat → Prop) (xs : Nat → Int32) (L : Int32),
    pm_ok mi → pm_Cx mi p R s m args c cells slots D E A xs L →
    (∀ (pc' : Nat) (i : Instr) (st' : List pm_V) (v : Option pm_V) (M' : pm_M) (H' : Heap) (locs' : List Loc) (LS' : Array Slot), Q v M' → pm_tab mi pc' = some i → pm_rt mi.2.2.2.2.1 i st' v → pm_Wd D E A s xs L M' H' locs' → (∀ w ∈ st', pm_okv w) → W p l e R s m args below meth c H' locs' cells slots Z (F0 m pc' LS' (st'.map (pm_cv E)))) →
    pm_J p l e R s m args below meth c cells slots Z D E A xs L mi.2.2.2.1 pc ls st M
def pm_ws (mi : pm_MI) : List Cond := Cond.code mi.2.1 mi.2.2.1 mi.2.2.2.1 mi.2.2.2.2.1 :: pm_gw
def pm_rm (mi : pm_MI) : Room := { frames := mi.2.2.2.2.2.2.1, cells := 0, slots := 0, locals := mi.2.2.2.2.2.2.2 }
def pm_B (D : va_G) (E : pm_E) (sz : Nat) (M : pm_M) (U : State) : Prop := U.heap.size = sz ∧ va_P D pm_cl (pm_wl E M) U.heap ∧ va_D (pm_A E sz) (pm_wl E M) ∧ va_K D pm_cl (pm_tys E) U ∧ pm_St E (pm_A E sz) U U.heap
def pm_Q (D : va_G) (E : pm_E) (sz : Nat) (xs : Nat → Int32) (L : Int32) (Q : Option pm_V → pm_M → Prop) : Array Value → State → Outcome → State → Prop := fun _ st oc t =>
  (∃ (v : Option pm_V) (M' : pm_M), oc = .returned (v.map (pm_cv E)) ∧ Q v M' ∧ (∀ w, v = some w → pm_okv w) ∧ va_P D pm_cl (pm_wl E M') t.heap ∧ M'.1 50 0 = xs ∧ M'.1 49 0 0 = L) ∧ va_F (pm_A E sz) st t
def pm_Sem (mi : pm_MI) (as : List pm_V) (M : pm_M) (Q : Option pm_V → pm_M → Prop) : Prop :=
  ∀ (l : Launch) (D : va_G) (E : pm_E) (sz : Nat) (xs : Nat → Int32) (L : Int32), (∀ v ∈ as, pm_okv v) → M.1 50 0 = xs → M.1 49 0 0 = L → Met l mi.2.1 (pm_ws mi) (pm_rm mi) (va_Pc (as.map (pm_cv E)) (pm_B D E sz M)) (pm_Q D E sz xs L Q) 0 0 (pm_A E sz)
theorem pm_G_run {mi : pm_MI} {pc : Nat} {ls : pm_L} {st : List pm_V} {M : pm_M} {Q : Option pm_V → pm_M → Prop} (n : Nat) {cs : List Prop} {pc' : Nat} {ls' : pm_L} {st' : List pm_V} {M' : pm_M} (h : pm_run mi n pc ls st M = some (cs, pc', ls', st', M')) (hc : pm_all cs) (k : pm_G mi pc' ls' st' M' Q) : pm_G mi pc ls st M Q := by
  intro p l e R s m args below meth c cells slots Z D E A xs L hok C hZ
  exact pm_runs hok C n h hc (k p l e R s m args below meth c cells slots Z D E A xs L hok C hZ)
theorem pm_G_ret {mi : pm_MI} {pc : Nat} {ls : pm_L} {st : List pm_V} {M : pm_M} {Q : Option pm_V → pm_M → Prop} {i : Instr} {v : Option pm_V} (ht : pm_tab mi pc = some i) (hr : pm_rt mi.2.2.2.2.1 i st v) (hq : Q v M) : pm_G mi pc ls st M Q := by
  intro p l e R s m args below meth c cells slots Z D E A xs L hok C hZ H locs LS hW hF
  exact hZ pc i st v M H locs LS hq ht hr hW hF.ok
theorem pm_G_imp {mi : pm_MI} {pc : Nat} {ls : pm_L} {st : List pm_V} {M : pm_M} {Q Q' : Option pm_V → pm_M → Prop} (h : pm_G mi pc ls st M Q) (hq : ∀ v M', Q v M' → Q' v M') : pm_G mi pc ls st M Q' := by
  intro p l e R s m args below meth c cells slots Z D E A xs L hok C hZ
  exact h p l e R s m args below meth c cells slots Z D E A xs L hok C (fun pc' i st' v M' H' locs' LS' q => hZ pc' i st' v M' H' locs' LS' (hq v M' q))
/-- fewer locals -/
theorem pm_G_sub {mi : pm_MI} {pc : Nat} {ls ls' : pm_L} {st : List pm_V} {M : pm_M} {Q : Option pm_V → pm_M → Prop} (hl : ls'.length = ls.length) (h : ∀ (i : Nat) (v : pm_V), ls'[i]? = some (some v) → ls[i]? = some (some v)) (k : pm_G mi pc ls' st M Q) : pm_G mi pc ls st M Q := by
  intro p l e R s m args below meth c cells slots Z D E A xs L hok C hZ H locs LS hW hF
  exact k p l e R s m args below meth c cells slots Z D E A xs L hok C hZ H locs LS hW ⟨hF.1, hF.2.1, hl.trans hF.2.2.1, fun i v hv => hF.2.2.2.1 i v (h i v hv), hF.2.2.2.2⟩
theorem pm_Sem_imp {mi : pm_MI} {as : List pm_V} {M : pm_M} {Q Q' : Option pm_V → pm_M → Prop} (h : pm_Sem mi as M Q) (hq : ∀ v M', Q v M' → Q' v M') : pm_Sem mi as M Q' := by
  intro l D E sz xs L h1 h2 h3
  intro p e ha hc hk s m args below hf happ hP hK
  obtain ⟨n, o, a1, a2, a3, ⟨⟨v, M', q1, q2, q3⟩, q4⟩, q5⟩ := h l D E sz xs L h1 h2 h3 p e ha hc hk s m args below hf happ hP hK
  exact ⟨n, o, a1, a2, a3, ⟨⟨v, M', q1, hq v M' q2, q3⟩, q4⟩, q5⟩
-- the entry
def pm_en : List pm_V → pm_L
  | [] => []
  | v :: vs => if pm_is1 v = true then some v :: pm_en vs else some v :: none :: pm_en vs
theorem pm_cat2 {E : pm_E} {v : pm_V} (h : ¬ pm_is1 v = true) : (pm_cv E v).category = 2 := by
  rcases v with x | x | ⟨t, k⟩
  · exact absurd rfl h
  · rfl
  · exact absurd rfl h
theorem pm_en_len {E : pm_E} (hE : E.2.1.category = 1) : ∀ as : List pm_V, (lg_sl (as.map (pm_cv E))).length = (pm_en as).length
  | [] => rfl
  | v :: vs => by
    have ih := pm_en_len hE vs
    unfold lg_sl at ih ⊢
    rw [List.map_cons, List.flatMap_cons, List.length_append, ih]
    by_cases h : pm_is1 v = true
    · rw [pm_en, if_pos h, pm_cat hE h]
      simp
      omega
    · rw [pm_en, if_neg h, pm_cat2 h]
      simp
      omega
theorem pm_en_in {E : pm_E} (hE : E.2.1.category = 1) : ∀ (as : List pm_V) (off i : Nat) (v : pm_V), (pm_en as)[i]? = some (some v) → (off + i, pm_cv E v) ∈ lv_args off (as.map (pm_cv E)) ∧ v ∈ as
  | [], off, i, v, h => by simp [pm_en] at h
  | w :: ws, off, i, v, h => by
    rw [List.map_cons, lv_args]
    by_cases h1 : pm_is1 w = true
    · rw [pm_en, if_pos h1] at h
      rw [pm_cat hE h1]
      rcases i with _ | i
      · simp at h
        subst h
        exact ⟨List.mem_cons_self, List.mem_cons_self⟩
      · have := pm_en_in hE ws (off + 1) i v (by simpa using h)
        refine ⟨List.mem_cons_of_mem _ ?_, List.mem_cons_of_mem _ this.2⟩
        rw [if_neg (by decide)]
        rw [show off + (i + 1) = off + 1 + i by omega]
        exact this.1
    · rw [pm_en, if_neg h1] at h
      rw [pm_cat2 h1]
      rcases i with _ | _ | i
      · simp at h
        subst h
        exact ⟨List.mem_cons_self, List.mem_cons_self⟩
      · simp at h
      · have := pm_en_in hE ws (off + 2) i v (by simpa using h)
        refine ⟨List.mem_cons_of_mem _ ?_, List.mem_cons_of_mem _ this.2⟩
        rw [if_pos rfl]
        rw [show off + (i + 1 + 1) = off + 2 + i by omega]
        exact this.1
set_option maxHeartbeats 4000000 in
/-- a method's contract out of its walk -/
theorem pm_Sem_of {mi : pm_MI} {as : List pm_V} {ls : pm_L} {M : pm_M} {Q : Option pm_V → pm_M → Prop} (hok : pm_ok mi) (hpl : plainName mi.2.1.cls = true) (hcl : mi.2.1.cls = pm_RN mi.1) (h7 : mi.1 ≠ 7) (hln : (pm_en as).length ≤ mi.2.2.2.1) (hls : pm_en as ++ List.replicate (mi.2.2.2.1 - (pm_en as).length) none = ls) (h : pm_G mi 0 ls [] M Q) : pm_Sem mi as M Q := by
  intro l D E sz xs L hv h50 h49
  refine Met.ofW (cc := mi.2.2.1) (maxL := mi.2.2.2.1) (ret := mi.2.2.2.2.1) hpl rfl ?_
  intro p e s m args below meth c s₁ B hml hP
  obtain ⟨rfl, hsz, hP, hD, hK, hSt⟩ := hP
  have hE := hSt.cat
  have hx := B.exec
  have hb := B.bytes
  have hr := B.returns
  have hts := atoms_spec (ws := pm_ws mi) B.pre
  have hown : s.vm.findClass mi.2.1.cls = some m.cls := findClass_of_methodNamed B.named
  have hlocks := B.notSynchronized
  subst hsz
  have hl := lv_entry (as.map (pm_cv E)) (n := mi.2.2.2.1) (by rw [pm_en_len hE]; exact hln)
  rw [lg_entry_eq]
  generalize (lg_sl (as.map (pm_cv E)) ++ List.replicate (mi.2.2.2.1 - (lg_sl (as.map (pm_cv E))).length) Slot.unset).toArray = LS at hl ⊢
  refine h p l e (headSpec (pm_ws mi) (pm_rm mi)).room s m _ below meth c 0 0 _ D E (pm_A E s.heap.size) xs L hok ⟨hx, hb, hml, by rw [← hcl]; exact hown, fun w hw => hts w (List.mem_cons_of_mem _ hw), hK, hSt, ⟨Nat.le_refl _, Nat.le_refl _, Nat.zero_le _, Nat.zero_le _⟩, fun q hq => Or.inr hq, fun q => absurd q h7⟩ ?_ s.heap [] LS ⟨hP, hD, va_S.rf, h50, h49⟩ ?_
  · intro pc' i st' v M' H' locs' LS' hq ht hrt hW hst
    have hd := pm_tab_ok hok ht
    have post : ∀ (t : State), t.heap = H' → s.WarmedH t.vm → (∀ w, v = some w → pm_okv w) → pm_Q D E s.heap.size xs L Q (as.map (pm_cv E)).toArray s (.returned (v.map (pm_cv E))) t := fun t ht hWm hw => ⟨⟨v, M', rfl, hq, hw, by rw [ht]; exact hW.1, hW.2.2.2.1, hW.2.2.2.2⟩, hW.2.2.1.F ht⟩
    cases i with
    | return_ =>
      obtain ⟨r1, rfl, rfl⟩ := hrt
      rw [r1] at hr
      exact W.vret hx hb hr (fun t ht hWm => post t ht hWm (fun w h => by cases h)) hW.2.2.1.2.2 hd
    | ireturn =>
      obtain ⟨ty, x, r1, rfl, rfl, r4⟩ := hrt
      rw [r1] at hr
      exact W.zret hx hb hr r4 (fun t ht hWm => post t ht hWm (fun w h => by cases h; trivial)) hW.2.2.1.2.2 hd
    | lreturn =>
      obtain ⟨x, r1, rfl, rfl⟩ := hrt
      rw [r1] at hr
      exact W.lret hx hb hr (fun t ht hWm => post t ht hWm (fun w h => by cases h; trivial)) hW.2.2.1.2.2 hd
    | areturn =>
      obtain ⟨t, k, n, r1, rfl, rfl, r4⟩ := hrt
      rw [r1] at hr
      exact W.aret (v := pm_cv E (pm_r t k)) hx hb hr (Or.inl ⟨n, rfl⟩) (Or.inr ⟨E.1 t k, pm_cv_r r4⟩) (fun t' ht hWm => post t' ht hWm (fun w h => by cases h; exact hst _ List.mem_cons_self)) hW.2.2.1.2.2 hd
    | _ => exact hrt.elim
  · refine ⟨hl.1, hl.2.1, ?_, fun i v hi => ?_, fun v hv => by cases hv⟩
    · rw [← hls]
      simp
      omega
    · rw [← hls, List.getElem?_append] at hi
      split at hi
      · have := pm_en_in hE as 0 i v hi
        rw [Nat.zero_add] at this
        exact ⟨hl.2.2 _ this.1, hv v this.2⟩
      · rw [List.getElem?_replicate] at hi
        split at hi <;> cases hi
end
section
/-! calls -/
def pm_ct (v : pm_V) : Nat := if pm_is1 v = true then 1 else 2
theorem pm_cts {E : pm_E} (hE : E.2.1.category = 1) (st : List pm_V) : ((st.map (pm_cv E)).map fun v => v.category) = st.map pm_ct := by
  rw [List.map_map]
  apply List.map_congr_left
  intro v _
  unfold pm_ct
  by_cases h : pm_is1 v = true
  · simp [h, pm_cat hE h]
  · simp [h, pm_cat2 h]
theorem pm_A_sub {E : pm_E} {M : pm_M} {A : Nat → Prop} {s : State} {H : Heap} {locs : List Loc} (hA : ∀ q, s.heap.size ≤ q → A q) (hD : va_D A (pm_wl E M)) (hS : va_S A s.heap H locs) : ∀ q, pm_A E H.size q → A q := by
  intro q hq
  rcases hq with ⟨c, hc, rfl⟩ | h
  · exact pm_A_in hD hc
  · exact hA q (Nat.le_trans hS.1 h)
theorem pm_blind {D : va_G} {E : pm_E} {sz : Nat} {M : pm_M} {av : List Value} : FrameBlind (va_Pc av (pm_B D E sz M)) := by
  intro a U g mk q
  obtain ⟨q0, q1, qP, qD, qK, qS⟩ := q
  exact ⟨q0, q1, qP, qD, va_K.moved (u := U) (U := U.calling g mk a) (Vm.Alike.refl U.vm) qK, qS.blind g mk a⟩
section PmC
variable {p : Program} {l : Launch} {e : Env} {R : Room} {s : State} {m : MethodId} {args : Array Value} {below : List Frame} {meth : Method} {c : Code} {cells slots : Nat} {Z : State → Prop} {D : va_G} {E : pm_E} {A : Nat → Prop} {xs : Nat → Int32} {L : Int32} {M : pm_M} {H : Heap} {locs : List Loc} {pc : Nat} {LS : Array Slot} {st0 rest : List Value} {Q : Option pm_V → pm_M → Prop} {a : Array Value}
theorem pm_atU (hA : ∀ q, s.heap.size ≤ q → A q) (hK : va_K D pm_cl (pm_tys E) s) (hSt : pm_St E A s s.heap) (hW : pm_Wd D E A s xs L M H locs) {U : State} (hU : U.heap = H) (hWm : s.WarmedH U.vm) : pm_B D E H.size M U := by
  refine ⟨by rw [hU], by rw [hU]; exact hW.1, pm_D_A hW.2.1, va_K.moved hWm.alike hK, ?_⟩
  rw [hU]
  exact ((hSt.warm hWm).kept hW.2.2.1.2.1).narrow (pm_A_sub hA hW.2.1 hW.2.2.1)
theorem pm_back (hA : ∀ q, s.heap.size ≤ q → A q) (hW : pm_Wd D E A s xs L M H locs) (hr : va_Run p l e R s m args below meth c H locs cells slots 0 0 (F0 m pc LS st0) rest (pm_Q D E H.size xs L Q a) (pm_A E H.size))
    (kk : ∀ (v : Option pm_V) (M' : pm_M) (H' : Heap) (locs' : List Loc), Q v M' → (∀ w, v = some w → pm_okv w) → pm_Wd D E A s xs L M' H' locs' → W p l e R s m args below meth c H' locs' cells slots Z (F0 m (pc + 3) LS ((v.map (pm_cv E)).toList ++ rest))) : W p l e R s m args below meth c H locs cells slots Z (F0 m pc LS st0) := by
  intro T hT X
  obtain ⟨v9, st₀, t, T', L9, h0, X', hL, e1, e2, ⟨⟨v, M', hv, hq, hw, hP, x1, x2⟩, hz, hk⟩, st⟩ := hr T hT X
  cases hv
  rw [h0] at hz hk
  have hAs := pm_A_sub hA hW.2.1 hW.2.2.1
  have hS := hW.2.2.1
  obtain ⟨t2, a1, b1⟩ := kk v M' T'.heap (locs ++ L9) hq hw ⟨by rw [e1]; exact hP, pm_D_any hW.2.1, ⟨Nat.le_trans hS.1 (by rw [e1]; exact hz), fun q h1 h2 => by rw [e1, hk q (Nat.lt_of_lt_of_le h1 hS.1) (fun z => h2 (hAs q z))]; exact hS.2.1 q h1 h2, fun q hq => by
      rcases List.mem_append.mp hq with h | h
      · exact hS.2.2 q h
      · exact hAs _ (hL q h)⟩, x1, x2⟩ T' rfl X'
  exact ⟨t2, st t2 a1, b1⟩
end PmC
/-- a link to an instance method -/
def pm_LV (o idx : Nat) (mc : pm_MI) (n : Nat) : Prop := (Cond.methodLink (pm_RN o) idx mc.2.1 ∈ pm_gw ∧ Cond.instanceMethod mc.2.1 ∈ pm_gw ∧ Cond.selects mc.2.1.cls mc.2.1 mc.2.1 ∈ pm_gw ∧ Cond.initialized mc.2.1.cls ∈ pm_gw) ∧ (mc.2.1.cls ≠ "java/lang/invoke/MethodHandle" ∧ mc.2.1.cls ≠ "java/lang/invoke/VarHandle" ∧ (parseMethodDescriptor mc.2.1.desc).map (fun d => d.parameters.length) = some n) ∧ mc.2.1.cls = pm_RN mc.1 ∧ pm_ok mc
def pm_LS (o idx : Nat) (mc : pm_MI) (n : Nat) : Prop := (Cond.methodLink (pm_RN o) idx mc.2.1 ∈ pm_gw ∧ Cond.static mc.2.1 ∈ pm_gw ∧ Cond.initialized mc.2.1.cls ∈ pm_gw) ∧ (mc.2.1.cls ≠ "java/lang/invoke/MethodHandle" ∧ mc.2.1.cls ≠ "java/lang/invoke/VarHandle" ∧ (parseMethodDescriptor mc.2.1.desc).map (fun d => d.parameters.length) = some n) ∧ pm_ok mc
def pm_LN (o idx : Nat) (mc : pm_MI) (n : Nat) : Prop := (Cond.methodLinkNest (pm_RN o) idx mc.2.1 "WheelTickets" ∈ pm_nw ∧ Cond.static mc.2.1 ∈ pm_gw ∧ Cond.initialized mc.2.1.cls ∈ pm_gw) ∧ (mc.2.1.cls ≠ "java/lang/invoke/MethodHandle" ∧ mc.2.1.cls ≠ "java/lang/invoke/VarHandle" ∧ (parseMethodDescriptor mc.2.1.desc).map (fun d => d.parameters.length) = some n) ∧ pm_ok mc
def pm_rcv (t : Nat) (mc : pm_MI) : Bool := match pm_sh t with
  | some (.inl (ci, _)) => ci == mc.1
  | some _ => false
  | none => t == 52 && mc.1 == 8
theorem pm_gws {mc : pm_MI} (h : pm_ok mc) : GoodIn pm_gw (pm_ws mc) := by
  intro w hw
  rcases List.mem_cons.mp hw with rfl | h1
  · exact pm_gg _ h.2
  · exact pm_gg _ h1
/-- there is room for the call -/
def pm_fit (mi mc : pm_MI) : Bool := decide (mc.2.2.2.2.2.2.1 + 1 ≤ mi.2.2.2.2.2.2.1) && decide (8 + (mc.2.2.2.1 + 11) + mc.2.2.2.2.2.2.2 ≤ mi.2.2.2.2.2.2.2)
section PmD
variable {mi mc : pm_MI} {pc idx n : Nat} {ls : pm_L} {as st stk : List pm_V} {M : pm_M} {Q Qc : Option pm_V → pm_M → Prop} {t k : Nat}
set_option maxHeartbeats 4000000 in
theorem pm_G_callV (hl : pm_LV mi.1 idx mc n) (ht : pm_tab mi pc = some (.invokevirtual idx)) (hs : stk = as.reverse ++ pm_r t k :: st) (hn : as.length = n) (hrc : pm_rcv t mc = true) (hct : (st.map pm_ct).sum ≤ 8) (hR : pm_fit mi mc = true) (h : pm_Sem mc (pm_r t k :: as) M Qc) (kk : ∀ v M', Qc v M' → pm_G mi (pc + 3) ls (v.toList ++ st) M' Q) : pm_G mi pc ls stk M Q := by
  subst hs
  intro p l e R s m args below meth c cells slots Z D E A xs L hok C hZ H locs LS hW hF
  have hd := pm_tab_ok hok ht
  have C0 := C
  obtain ⟨hx, hb, hml, hown, hts, hK, hSt, ⟨r1, r2, r3, r4⟩, hA, hX⟩ := C
  have hE := hSt.cat
  obtain ⟨⟨w1, w2, w3, w4⟩, hnm, hcl, hokc⟩ := hl
  simp only [pm_fit, Bool.and_eq_true, decide_eq_true_eq] at hR
  have okst : ∀ v ∈ pm_r t k :: as, pm_okv v := by
    intro v hv
    refine hF.ok v ?_
    rcases List.mem_cons.mp hv with rfl | h9
    · exact List.mem_append_right _ List.mem_cons_self
    · exact List.mem_append_left _ (List.mem_reverse.mpr h9)
  have hk : k < pm_cnt t := okst _ List.mem_cons_self
  have h54 : t ≠ 54 := by
    rintro rfl
    simp [pm_rcv, pm_sh] at hrc
  have hM := h l D E H.size xs L okst hW.2.2.2.1 hW.2.2.2.2
  rw [List.map_cons, pm_cv_r h54] at hM
  have hG : GoodIn pm_gw (wsV (pm_RN mi.1) idx mc.2.1.cls mc.2.1 (pm_ws mc)) := by
    intro w hw
    unfold wsV at hw
    rcases List.mem_append.mp hw with h1 | h1
    · simp only [List.mem_cons, List.not_mem_nil, or_false] at h1
      rcases h1 with rfl | rfl | rfl | rfl
      · exact pm_gg _ w1
      · exact pm_gg _ w2
      · exact pm_gg _ w3
      · exact pm_gg _ w4
    · exact pm_gws hokc w h1
  have hrecv : ∃ cellB : Cell, H[E.1 t k]? = some cellB ∧ cellB.vm.isStatics = false ∧ s.vm.findClass mc.2.1.cls = some cellB.cls := by
    unfold pm_rcv at hrc
    split at hrc
    · rename_i ci fs hsh
      have hci : ci = mc.1 := by simpa using hrc
      obtain ⟨j, hj, -⟩ := pm_at E M (pm_sh_lt hsh) hk
      have hent : pm_ent E M t k = .inr (ci, fs.mapIdx (fun i f => pm_fv E M t k i f)) := by unfold pm_ent; rw [hsh]
      rw [hent] at hj
      have := va_recv hK hW.1 (pm_clat ci (pm_obj hsh).1) hj
      rw [hcl, ← hci]
      exact this
    · cases hrc
    · have h52 : t = 52 ∧ mc.1 = 8 := by simpa using hrc
      obtain ⟨rfl, h8⟩ := h52
      rw [hcl, h8]
      exact vk_recv hSt.2.2.2.2.2.2.1 hk hW.2.2.1
  have hrun := va_runV (p := p) (l := l) (e := e) (R := R) (s := s) (m := m) (args := args) (below := below) (meth := meth) (c := c) (H := H) (locs := locs) (cells := cells) (slots := slots) (b := E.1 t k) (As := as.map (pm_cv E)) (rest := st.map (pm_cv E)) (g := F0 m pc LS ((as.reverse ++ pm_r t k :: st).map (pm_cv E))) (Ts := pm_gw) ⟨hx, hb, hml, hown, hts⟩ hM (cwV (ws' := pm_gw) n hts hG rfl rfl rfl ⟨rfl, hnm.1, hnm.2.1, hnm.2.2⟩ ⟨Nat.le_trans hR.1 r1, Nat.le_trans hR.2 r2⟩) ⟨pm_blind, hrecv, fun U hU hWm => ⟨rfl, pm_atU hA hK hSt hW hU hWm⟩⟩ rfl (by simp [hn]) hF.1 (by simp [pm_cv, h54]) (lv_room (by rw [pm_cts hE]; exact hct)) hd ⟨r3, r4⟩
  refine pm_back hA hW hrun (fun v M' H' locs' hq hw hW' => ?_)
  have := kk v M' hq p l e R s m args below meth c cells slots Z D E A xs L hok C0 hZ H' locs' LS hW' (hF.stk ?_)
  · rw [List.map_append] at this
    cases v <;> exact this
  · intro w hw9
    rcases List.mem_append.mp hw9 with h1 | h1
    · cases v with
      | none => cases h1
      | some v => simp at h1; subst h1; exact hw _ rfl
    · exact hF.ok w (List.mem_append_right _ (List.mem_cons_of_mem _ h1))
set_option maxHeartbeats 4000000 in
theorem pm_G_callS (hl : pm_LS mi.1 idx mc n) (ht : pm_tab mi pc = some (.invokestatic idx)) (hs : stk = as.reverse ++ st) (hn : as.length = n) (hct : (st.map pm_ct).sum ≤ 8) (hR : pm_fit mi mc = true) (h : pm_Sem mc as M Qc) (kk : ∀ v M', Qc v M' → pm_G mi (pc + 3) ls (v.toList ++ st) M' Q) : pm_G mi pc ls stk M Q := by
  subst hs
  intro p l e R s m args below meth c cells slots Z D E A xs L hok C hZ H locs LS hW hF
  have hd := pm_tab_ok hok ht
  have C0 := C
  obtain ⟨hx, hb, hml, hown, hts, hK, hSt, ⟨r1, r2, r3, r4⟩, hA, hX⟩ := C
  have hE := hSt.cat
  obtain ⟨⟨w1, w2, w4⟩, hnm, hokc⟩ := hl
  simp only [pm_fit, Bool.and_eq_true, decide_eq_true_eq] at hR
  have okst : ∀ v ∈ as, pm_okv v := fun v hv => hF.ok v (List.mem_append_left _ (List.mem_reverse.mpr hv))
  have hM := h l D E H.size xs L okst hW.2.2.2.1 hW.2.2.2.2
  have hG : GoodIn pm_gw (va_wsS (pm_RN mi.1) idx mc.2.1 (pm_ws mc)) := by
    intro w hw
    unfold va_wsS at hw
    rcases List.mem_append.mp hw with h1 | h1
    · simp only [List.mem_cons, List.not_mem_nil, or_false] at h1
      rcases h1 with rfl | rfl | rfl
      · exact pm_gg _ w1
      · exact pm_gg _ w2
      · exact pm_gg _ w4
    · exact pm_gws hokc w h1
  have hrun := va_runS (p := p) (l := l) (e := e) (R := R) (s := s) (m := m) (args := args) (below := below) (meth := meth) (c := c) (H := H) (locs := locs) (cells := cells) (slots := slots) (As := as.map (pm_cv E)) (rest := st.map (pm_cv E)) (g := F0 m pc LS ((as.reverse ++ st).map (pm_cv E))) (Ts := pm_gw) ⟨hx, hb, hml, hown, hts⟩ hM (va_cwS (ws' := pm_gw) n hts hG rfl rfl rfl hnm ⟨Nat.le_trans hR.1 r1, Nat.le_trans hR.2 r2⟩) ⟨pm_blind, fun U hU hWm => ⟨rfl, pm_atU hA hK hSt hW hU hWm⟩⟩ rfl (by simp [hn]) hF.1 (by simp) (lv_room (by rw [pm_cts hE]; exact hct)) hd ⟨r3, r4⟩
  refine pm_back hA hW hrun (fun v M' H' locs' hq hw hW' => ?_)
  have := kk v M' hq p l e R s m args below meth c cells slots Z D E A xs L hok C0 hZ H' locs' LS hW' (hF.stk ?_)
  · rw [List.map_append] at this
    cases v <;> exact this
  · intro w hw9
    rcases List.mem_append.mp hw9 with h1 | h1
    · cases v with
      | none => cases h1
      | some v => simp at h1; subst h1; exact hw _ rfl
    · exact hF.ok w (List.mem_append_right _ h1)
set_option maxHeartbeats 4000000 in
theorem pm_G_callN (hl : pm_LN mi.1 idx mc n) (ht : pm_tab mi pc = some (.invokestatic idx)) (hs : stk = as.reverse ++ st) (hn : as.length = n) (hct : (st.map pm_ct).sum ≤ 8) (hR : pm_fit mi mc = true) (h : pm_Sem mc as M Qc) (kk : ∀ v M', Qc v M' → pm_G mi (pc + 3) ls (v.toList ++ st) M' Q) : pm_G mi pc ls stk M Q := by
  subst hs
  intro p l e R s m args below meth c cells slots Z D E A xs L hok C hZ H locs LS hW hF
  have hd := pm_tab_ok hok ht
  have C0 := C
  obtain ⟨hx, hb, hml, hown, hts, hK, hSt, ⟨r1, r2, r3, r4⟩, hA, hX⟩ := C
  have hE := hSt.cat
  obtain ⟨⟨w1, w2, w4⟩, hnm, hokc⟩ := hl
  simp only [pm_fit, Bool.and_eq_true, decide_eq_true_eq] at hR
  have okst : ∀ v ∈ as, pm_okv v := fun v hv => hF.ok v (List.mem_append_left _ (List.mem_reverse.mpr hv))
  have hM := h l D E H.size xs L okst hW.2.2.2.1 hW.2.2.2.2
  have hrun := va_runSN (p := p) (l := l) (e := e) (R := R) (s := s) (m := m) (args := args) (below := below) (meth := meth) (c := c) (H := H) (locs := locs) (cells := cells) (slots := slots) (As := as.map (pm_cv E)) (rest := st.map (pm_cv E)) (g := F0 m pc LS ((as.reverse ++ st).map (pm_cv E))) (Ts := pm_gw) ⟨hx, hb, hml, hown, hts⟩ hM ⟨va_cnB (ws' := pm_gw) n hts (pm_gws hokc) rfl rfl rfl (hSt.1 _ w1) (hts _ w4) hnm ⟨Nat.le_trans hR.1 r1, Nat.le_trans hR.2 r2⟩, hts _ w2, trivial⟩ ⟨pm_blind, fun U hU hWm => ⟨rfl, pm_atU hA hK hSt hW hU hWm⟩⟩ rfl (by simp [hn]) hF.1 (by simp) (lv_room (by rw [pm_cts hE]; exact hct)) hd ⟨r3, r4⟩
  refine pm_back hA hW hrun (fun v M' H' locs' hq hw hW' => ?_)
  have := kk v M' hq p l e R s m args below meth c cells slots Z D E A xs L hok C0 hZ H' locs' LS hW' (hF.stk ?_)
  · rw [List.map_append] at this
    cases v <;> exact this
  · intro w hw9
    rcases List.mem_append.mp hw9 with h1 | h1
    · cases v with
      | none => cases h1
      | some v => simp at h1; subst h1; exact hw _ rfl
    · exact hF.ok w (List.mem_append_right _ h1)
theorem pm_w_acl : Cond.methodLink "WheelTickets$Wheel" 49 arraycopyName ∈ pm_gw := pm_in (List.mem_of_getElem? (i := 441) (by decide +kernel)) (by decide +kernel)
theorem pm_w_acs : Cond.static arraycopyName ∈ pm_gw := pm_in (List.mem_of_getElem? (i := 442) (by decide +kernel)) (by decide +kernel)
theorem pm_w_acn : Cond.native arraycopyName ∈ pm_gw := pm_in (List.mem_of_getElem? (i := 443) (by decide +kernel)) (by decide +kernel)
theorem pm_w_sys : Cond.initialized "java/lang/System" ∈ pm_gw := pm_in (List.mem_of_getElem? (i := 13) (by decide +kernel)) (by decide +kernel)
set_option maxHeartbeats 4000000 in
/-- System.arraycopy of ints, from the start -/
theorem pm_G_copy {t0 k0 t1 k1 n0 n1 : Nat} {z : Int32} (h4 : mi.1 = 4) (ht : pm_tab mi pc = some (.invokestatic 49)) (hs0 : pm_sh t0 = some (.inr (.inl (0, n0)))) (hs1 : pm_sh t1 = some (.inr (.inl (0, n1)))) (hz : ¬ z < 0) (hn0 : z.toNatClampNeg ≤ n0) (hn1 : z.toNatClampNeg ≤ n1) (hct : (st.map pm_ct).sum ≤ 8) (hR : 1 ≤ mi.2.2.2.2.2.2.1 ∧ 8 + 18 ≤ mi.2.2.2.2.2.2.2) (kk : pm_G mi (pc + 3) ls st (pm_set M t1 k1 (va_cpy (M.1 t0 k0) (M.1 t1 k1) 0 0 z.toNatClampNeg)) Q) : pm_G mi pc ls (pm_i z :: pm_i 0 :: pm_r t1 k1 :: pm_i 0 :: pm_r t0 k0 :: st) M Q := by
  intro p l e R s m args below meth c cells slots Z D E A xs L hok C hZ H locs LS hW hF
  have hd := pm_tab_ok hok ht
  have C0 := C
  obtain ⟨hx, hb, hml, hown, hts, hK, hSt, ⟨r1, r2, r3, r4⟩, hA, hX⟩ := C
  have hE := hSt.cat
  have l0 := pm_sh_lt hs0
  have l1 := pm_sh_lt hs1
  have ok := hF.ok
  have hk1 : k1 < pm_cnt t1 := pm_ok_h (pm_ok_t (pm_ok_t ok))
  have hk0 : k0 < pm_cnt t0 := pm_ok_h (pm_ok_t (pm_ok_t (pm_ok_t (pm_ok_t ok))))
  obtain ⟨j0, hj0, -⟩ := pm_at E M l0 hk0
  obtain ⟨j1, hj1, hset⟩ := pm_at E M l1 hk1
  have e0 : pm_ent E M t0 k0 = .inl (E.2.2 0, n0, .inl (M.1 t0 k0)) := by unfold pm_ent; rw [hs0]
  have e1 : ∀ M : pm_M, pm_ent E M t1 k1 = .inl (E.2.2 0, n1, .inl (M.1 t1 k1)) := fun M => by unfold pm_ent; rw [hs1]
  rw [e0] at hj0
  rw [e1] at hj1
  rw [h4] at hown
  simp only [List.map_cons]
  rw [pm_cv_r (show t1 ≠ 54 by omega), pm_cv_r (show t0 ≠ 54 by omega)]
  refine va_copyi hx hb (hml.trans hF.1.symm) hown (hts _ pm_w_acl) (hts _ pm_w_acn) (hts _ pm_w_acs) (hts _ pm_w_sys) hK hW.1 hW.2.1 hW.2.2.1 j0 j1 0 0 hj0 hj1 (ty := .int) rfl rfl rfl (by decide) (by decide) hz (by simpa using hn0) (by simpa using hn1) (fun _ _ => rfl) (Nat.le_trans hR.1 r1) ?_ hd (fun H1 locs1 hP1 hD1 hS1 => ?_)
  · rw [pm_cts hE]
    have h18 : nativeFrameWords "java/lang/System" "arraycopy" 5 + 11 = 18 := by decide +kernel
    rw [h18]
    exact Nat.le_trans (Nat.add_le_add_right hct 18) (Nat.le_trans hR.2 r2)
  · have q1 := hset (pm_set M t1 k1 (va_cpy (M.1 t0 k0) (M.1 t1 k1) 0 0 z.toNatClampNeg)) pm_ent_set
    rw [e1, pm_set_at] at q1
    have z0 : (0 : Int32).toNatClampNeg = 0 := by decide
    rw [z0, q1] at hP1
    exact kk p l e R s m args below meth c cells slots Z D E A xs L hok C0 hZ H1 locs1 LS (hW.set hP1 hS1 (pm_set_ne _ _ (by omega)) (by rw [pm_set_ne _ _ (by omega)])) (hF.stk (pm_ok_t (pm_ok_t (pm_ok_t (pm_ok_t (pm_ok_t ok))))))
/-- where a switch goes -/
def pm_tsw (pc : Nat) (d lo hi : Int) (offs : Array Int) (x : Int32) : Nat := if x.toInt < lo ∨ hi < x.toInt then pm_tg pc d else pm_tg pc (offs.getD (x.toInt - lo).toNat 0)
theorem pm_G_tsw {d lo hi : Int} {offs : Array Int} {x : Int32} (ht : pm_tab mi pc = some (.tableswitch d lo hi offs)) (hsz : (hi - lo + 1).toNat = offs.size) (h0 : 0 ≤ (pc : Int) + d) (h1 : offs.all (fun o => decide (0 ≤ (pc : Int) + o)) = true) (kk : pm_G mi (pm_tsw pc d lo hi offs x) ls st M Q) : pm_G mi pc ls (pm_i x :: st) M Q := by
  intro p l e R s m args below meth c cells slots Z D E A xs L hok C hZ H locs LS hW hF
  have hd := pm_tab_ok hok ht
  have kk := kk p l e R s m args below meth c cells slots Z D E A xs L hok C hZ H locs LS hW (hF.stk (pm_ok_t hF.ok))
  obtain ⟨hx, hb, -⟩ := C
  unfold pm_tsw at kk
  by_cases h : x.toInt < lo ∨ hi < x.toInt
  · rw [if_pos h] at kk
    exact lv_tableOut hx hb hd h (pm_tgt h0) kk
  · rw [if_neg h] at kk
    have hlt : (x.toInt - lo).toNat < offs.size := by omega
    rw [Array.getD_eq_getD_getElem?, Array.getElem?_eq_getElem hlt] at kk
    have ha := Array.all_eq_true.mp h1 _ hlt
    simp only [decide_eq_true_eq] at ha
    exact lv_tableIn hx hb hd (fun q => h (Or.inl q)) (fun q => h (Or.inr q)) (Array.getElem?_eq_getElem hlt) (pm_tgt ha) kk
theorem pm_G_lsw {d : Int} {ps : Array (Int × Int)} {x : Int32} (ht : pm_tab mi pc = some (.lookupswitch d ps)) (hp : (ps.toList.zip (ps.toList.drop 1)).all (fun (a, next) => a.1 < next.1) = true) (h0 : 0 ≤ (pc : Int) + Op.lookupswitch.offset ps.toList d x.toInt) (kk : pm_G mi (pm_tg pc (Op.lookupswitch.offset ps.toList d x.toInt)) ls st M Q) : pm_G mi pc ls (pm_i x :: st) M Q := by
  intro p l e R s m args below meth c cells slots Z D E A xs L hok C hZ H locs LS hW hF
  have hd := pm_tab_ok hok ht
  have kk := kk p l e R s m args below meth c cells slots Z D E A xs L hok C hZ H locs LS hW (hF.stk (pm_ok_t hF.ok))
  obtain ⟨hx, hb, -⟩ := C
  exact lv_lookup hx hb hd hp rfl (pm_tgt h0) kk
end PmD
end
