section
-- ===== PART A: goes FIRST, ahead of the names: the tables' words, and 'selects' of the private methods out of them =====
/-- a private method of a class that the tables say can be made, by its rows of tables_1 -/
def lw_okq (q : MethodName × Nat) : Prop := (q.1.cls ≠ "java/lang/invoke/MethodHandle" ∧ q.1.cls ≠ "java/lang/invoke/VarHandle") ∧ Cond.instantiable q.1.cls q.2 ∈ tables_1 ∧ Cond.privateMethod q.1 ∈ tables_1 ∧ Cond.instanceMethod q.1 ∈ tables_1
theorem lw_p0 : lw_okq (⟨"WheelTickets$Teller", "takeLine", "(LWheelTickets$Tape;LWheelTickets$Wheel;)Z"⟩, 7) := ⟨⟨by decide +kernel, by decide +kernel⟩, List.mem_of_getElem? (i := 152) (by decide +kernel), List.mem_of_getElem? (i := 262) (by decide +kernel), List.mem_of_getElem? (i := 263) (by decide +kernel)⟩
theorem lw_p1 : lw_okq (⟨"WheelTickets$Tape", "passBlanks", "()V"⟩, 6) := ⟨⟨by decide +kernel, by decide +kernel⟩, List.mem_of_getElem? (i := 121) (by decide +kernel), List.mem_of_getElem? (i := 270) (by decide +kernel), List.mem_of_getElem? (i := 271) (by decide +kernel)⟩
theorem lw_p2 : lw_okq (⟨"WheelTickets$Tape", "passLetters", "()V"⟩, 6) := ⟨⟨by decide +kernel, by decide +kernel⟩, List.mem_of_getElem? (i := 121) (by decide +kernel), List.mem_of_getElem? (i := 274) (by decide +kernel), List.mem_of_getElem? (i := 275) (by decide +kernel)⟩
theorem lw_p3 : lw_okq (⟨"WheelTickets$Tape", "numberToken", "()I"⟩, 6) := ⟨⟨by decide +kernel, by decide +kernel⟩, List.mem_of_getElem? (i := 121) (by decide +kernel), List.mem_of_getElem? (i := 278) (by decide +kernel), List.mem_of_getElem? (i := 279) (by decide +kernel)⟩
theorem lw_p4 : lw_okq (⟨"WheelTickets$Teller", "blame", "(II)Z"⟩, 7) := ⟨⟨by decide +kernel, by decide +kernel⟩, List.mem_of_getElem? (i := 152) (by decide +kernel), List.mem_of_getElem? (i := 282) (by decide +kernel), List.mem_of_getElem? (i := 283) (by decide +kernel)⟩
theorem lw_p5 : lw_okq (⟨"WheelTickets$Teller", "toldAlready", "(ILWheelTickets$Wheel;)I"⟩, 7) := ⟨⟨by decide +kernel, by decide +kernel⟩, List.mem_of_getElem? (i := 152) (by decide +kernel), List.mem_of_getElem? (i := 351) (by decide +kernel), List.mem_of_getElem? (i := 352) (by decide +kernel)⟩
theorem lw_p6 : lw_okq (⟨"WheelTickets$Teller", "takeNumbers", "(LWheelTickets$Tape;I)Z"⟩, 7) := ⟨⟨by decide +kernel, by decide +kernel⟩, List.mem_of_getElem? (i := 152) (by decide +kernel), List.mem_of_getElem? (i := 355) (by decide +kernel), List.mem_of_getElem? (i := 356) (by decide +kernel)⟩
theorem lw_p7 : lw_okq (⟨"WheelTickets$Teller", "take", "(LWheelTickets$Tape;I)Z"⟩, 7) := ⟨⟨by decide +kernel, by decide +kernel⟩, List.mem_of_getElem? (i := 152) (by decide +kernel), List.mem_of_getElem? (i := 362) (by decide +kernel), List.mem_of_getElem? (i := 363) (by decide +kernel)⟩
theorem lw_p8 : lw_okq (⟨"WheelTickets$Teller", "put", "(ILWheelTickets$Wheel;)V"⟩, 7) := ⟨⟨by decide +kernel, by decide +kernel⟩, List.mem_of_getElem? (i := 152) (by decide +kernel), List.mem_of_getElem? (i := 369) (by decide +kernel), List.mem_of_getElem? (i := 370) (by decide +kernel)⟩
theorem lw_p9 : lw_okq (⟨"WheelTickets$Teller", "tellBehindAll", "(ILWheelTickets$Wheel;)Z"⟩, 7) := ⟨⟨by decide +kernel, by decide +kernel⟩, List.mem_of_getElem? (i := 152) (by decide +kernel), List.mem_of_getElem? (i := 386) (by decide +kernel), List.mem_of_getElem? (i := 387) (by decide +kernel)⟩
theorem lw_p10 : lw_okq (⟨"WheelTickets$Wheel", "sharedOut", "(IIII)I"⟩, 10) := ⟨⟨by decide +kernel, by decide +kernel⟩, List.mem_of_getElem? (i := 25) (by decide +kernel), List.mem_of_getElem? (i := 430) (by decide +kernel), List.mem_of_getElem? (i := 431) (by decide +kernel)⟩
theorem lw_p11 : lw_okq (⟨"WheelTickets$Rest", "weigh", "(LWheelTickets$Wheel;I)V"⟩, 11) := ⟨⟨by decide +kernel, by decide +kernel⟩, List.mem_of_getElem? (i := 80) (by decide +kernel), List.mem_of_getElem? (i := 555) (by decide +kernel), List.mem_of_getElem? (i := 556) (by decide +kernel)⟩
theorem lw_p12 : lw_okq (⟨"WheelTickets$Rest", "look", "(LWheelTickets$Wheel;)V"⟩, 11) := ⟨⟨by decide +kernel, by decide +kernel⟩, List.mem_of_getElem? (i := 80) (by decide +kernel), List.mem_of_getElem? (i := 559) (by decide +kernel), List.mem_of_getElem? (i := 560) (by decide +kernel)⟩
theorem lw_p13 : lw_okq (⟨"WheelTickets$Rest", "gain", "(III)I"⟩, 11) := ⟨⟨by decide +kernel, by decide +kernel⟩, List.mem_of_getElem? (i := 80) (by decide +kernel), List.mem_of_getElem? (i := 589) (by decide +kernel), List.mem_of_getElem? (i := 590) (by decide +kernel)⟩
theorem lw_p14 : lw_okq (⟨"WheelTickets$Rest", "isSolid", "(LWheelTickets$Wheel;II)Z"⟩, 11) := ⟨⟨by decide +kernel, by decide +kernel⟩, List.mem_of_getElem? (i := 80) (by decide +kernel), List.mem_of_getElem? (i := 610) (by decide +kernel), List.mem_of_getElem? (i := 611) (by decide +kernel)⟩
theorem lw_p15 : lw_okq (⟨"WheelTickets$Rest", "leastOf", "([II)I"⟩, 11) := ⟨⟨by decide +kernel, by decide +kernel⟩, List.mem_of_getElem? (i := 80) (by decide +kernel), List.mem_of_getElem? (i := 622) (by decide +kernel), List.mem_of_getElem? (i := 623) (by decide +kernel)⟩
def lw_privs_1 : List (MethodName × Nat) := [(⟨"WheelTickets$Teller", "takeLine", "(LWheelTickets$Tape;LWheelTickets$Wheel;)Z"⟩, 7), (⟨"WheelTickets$Tape", "passBlanks", "()V"⟩, 6), (⟨"WheelTickets$Tape", "passLetters", "()V"⟩, 6), (⟨"WheelTickets$Tape", "numberToken", "()I"⟩, 6), (⟨"WheelTickets$Teller", "blame", "(II)Z"⟩, 7), (⟨"WheelTickets$Teller", "toldAlready", "(ILWheelTickets$Wheel;)I"⟩, 7), (⟨"WheelTickets$Teller", "takeNumbers", "(LWheelTickets$Tape;I)Z"⟩, 7), (⟨"WheelTickets$Teller", "take", "(LWheelTickets$Tape;I)Z"⟩, 7), (⟨"WheelTickets$Teller", "put", "(ILWheelTickets$Wheel;)V"⟩, 7), (⟨"WheelTickets$Teller", "tellBehindAll", "(ILWheelTickets$Wheel;)Z"⟩, 7), (⟨"WheelTickets$Wheel", "sharedOut", "(IIII)I"⟩, 10), (⟨"WheelTickets$Rest", "weigh", "(LWheelTickets$Wheel;I)V"⟩, 11), (⟨"WheelTickets$Rest", "look", "(LWheelTickets$Wheel;)V"⟩, 11), (⟨"WheelTickets$Rest", "gain", "(III)I"⟩, 11), (⟨"WheelTickets$Rest", "isSolid", "(LWheelTickets$Wheel;II)Z"⟩, 11), (⟨"WheelTickets$Rest", "leastOf", "([II)I"⟩, 11)]
theorem lw_r1 : ∀ q ∈ lw_privs_1, lw_okq q := List.forall_mem_cons.mpr ⟨lw_p0, List.forall_mem_cons.mpr ⟨lw_p1, List.forall_mem_cons.mpr ⟨lw_p2, List.forall_mem_cons.mpr ⟨lw_p3, List.forall_mem_cons.mpr ⟨lw_p4, List.forall_mem_cons.mpr ⟨lw_p5, List.forall_mem_cons.mpr ⟨lw_p6, List.forall_mem_cons.mpr ⟨lw_p7, List.forall_mem_cons.mpr ⟨lw_p8, List.forall_mem_cons.mpr ⟨lw_p9, List.forall_mem_cons.mpr ⟨lw_p10, List.forall_mem_cons.mpr ⟨lw_p11, List.forall_mem_cons.mpr ⟨lw_p12, List.forall_mem_cons.mpr ⟨lw_p13, List.forall_mem_cons.mpr ⟨lw_p14, List.forall_mem_cons.mpr ⟨lw_p15, fun _ h => absurd h List.not_mem_nil⟩⟩⟩⟩⟩⟩⟩⟩⟩⟩⟩⟩⟩⟩⟩⟩
theorem lw_p16 : lw_okq (⟨"WheelTickets$Rest", "mostOf", "([II)I"⟩, 11) := ⟨⟨by decide +kernel, by decide +kernel⟩, List.mem_of_getElem? (i := 80) (by decide +kernel), List.mem_of_getElem? (i := 633) (by decide +kernel), List.mem_of_getElem? (i := 634) (by decide +kernel)⟩
theorem lw_p17 : lw_okq (⟨"WheelTickets$Rest", "ordersThatFit", "(LWheelTickets$Wheel;I)I"⟩, 11) := ⟨⟨by decide +kernel, by decide +kernel⟩, List.mem_of_getElem? (i := 80) (by decide +kernel), List.mem_of_getElem? (i := 696) (by decide +kernel), List.mem_of_getElem? (i := 697) (by decide +kernel)⟩
theorem lw_p18 : lw_okq (⟨"WheelTickets$Rest", "isAsSeen", "(LWheelTickets$Wheel;II)Z"⟩, 11) := ⟨⟨by decide +kernel, by decide +kernel⟩, List.mem_of_getElem? (i := 80) (by decide +kernel), List.mem_of_getElem? (i := 700) (by decide +kernel), List.mem_of_getElem? (i := 701) (by decide +kernel)⟩
theorem lw_p19 : lw_okq (⟨"WheelTicketsModel", "firstDraft", "()V"⟩, 37) := ⟨⟨by decide +kernel, by decide +kernel⟩, List.mem_of_getElem? (i := 787) (by decide +kernel), List.mem_of_getElem? (i := 793) (by decide +kernel), List.mem_of_getElem? (i := 794) (by decide +kernel)⟩
theorem lw_p20 : lw_okq (⟨"WheelTicketsModel", "keepDraft", "()V"⟩, 37) := ⟨⟨by decide +kernel, by decide +kernel⟩, List.mem_of_getElem? (i := 787) (by decide +kernel), List.mem_of_getElem? (i := 797) (by decide +kernel), List.mem_of_getElem? (i := 798) (by decide +kernel)⟩
theorem lw_p21 : lw_okq (⟨"WheelTicketsModel", "next", "()V"⟩, 37) := ⟨⟨by decide +kernel, by decide +kernel⟩, List.mem_of_getElem? (i := 787) (by decide +kernel), List.mem_of_getElem? (i := 930) (by decide +kernel), List.mem_of_getElem? (i := 931) (by decide +kernel)⟩
theorem lw_p22 : lw_okq (⟨"WheelTicketsModel", "byteAt", "(I)I"⟩, 37) := ⟨⟨by decide +kernel, by decide +kernel⟩, List.mem_of_getElem? (i := 787) (by decide +kernel), List.mem_of_getElem? (i := 934) (by decide +kernel), List.mem_of_getElem? (i := 935) (by decide +kernel)⟩
theorem lw_p23 : lw_okq (⟨"WheelTicketsModel", "needs", "(ZI)V"⟩, 37) := ⟨⟨by decide +kernel, by decide +kernel⟩, List.mem_of_getElem? (i := 787) (by decide +kernel), List.mem_of_getElem? (i := 942) (by decide +kernel), List.mem_of_getElem? (i := 943) (by decide +kernel)⟩
theorem lw_p24 : lw_okq (⟨"WheelTicketsModel", "readLine", "()V"⟩, 37) := ⟨⟨by decide +kernel, by decide +kernel⟩, List.mem_of_getElem? (i := 787) (by decide +kernel), List.mem_of_getElem? (i := 946) (by decide +kernel), List.mem_of_getElem? (i := 947) (by decide +kernel)⟩
theorem lw_p25 : lw_okq (⟨"WheelTicketsModel", "lineNow", "()I"⟩, 37) := ⟨⟨by decide +kernel, by decide +kernel⟩, List.mem_of_getElem? (i := 787) (by decide +kernel), List.mem_of_getElem? (i := 950) (by decide +kernel), List.mem_of_getElem? (i := 951) (by decide +kernel)⟩
theorem lw_p26 : lw_okq (⟨"WheelTicketsModel", "is", "(IIII)Z"⟩, 37) := ⟨⟨by decide +kernel, by decide +kernel⟩, List.mem_of_getElem? (i := 787) (by decide +kernel), List.mem_of_getElem? (i := 954) (by decide +kernel), List.mem_of_getElem? (i := 955) (by decide +kernel)⟩
theorem lw_p27 : lw_okq (⟨"WheelTicketsModel", "hasEnd", "(IIII)Z"⟩, 37) := ⟨⟨by decide +kernel, by decide +kernel⟩, List.mem_of_getElem? (i := 787) (by decide +kernel), List.mem_of_getElem? (i := 958) (by decide +kernel), List.mem_of_getElem? (i := 959) (by decide +kernel)⟩
theorem lw_p28 : lw_okq (⟨"WheelTicketsModel", "hasRoom", "(I)Z"⟩, 37) := ⟨⟨by decide +kernel, by decide +kernel⟩, List.mem_of_getElem? (i := 787) (by decide +kernel), List.mem_of_getElem? (i := 962) (by decide +kernel), List.mem_of_getElem? (i := 963) (by decide +kernel)⟩
theorem lw_p29 : lw_okq (⟨"WheelTicketsModel", "readLineOf", "(I)V"⟩, 37) := ⟨⟨by decide +kernel, by decide +kernel⟩, List.mem_of_getElem? (i := 787) (by decide +kernel), List.mem_of_getElem? (i := 966) (by decide +kernel), List.mem_of_getElem? (i := 967) (by decide +kernel)⟩
theorem lw_p30 : lw_okq (⟨"WheelTicketsModel", "readNumber", "(II)I"⟩, 37) := ⟨⟨by decide +kernel, by decide +kernel⟩, List.mem_of_getElem? (i := 787) (by decide +kernel), List.mem_of_getElem? (i := 970) (by decide +kernel), List.mem_of_getElem? (i := 971) (by decide +kernel)⟩
theorem lw_p31 : lw_okq (⟨"WheelTicketsModel", "readTicket", "(I)V"⟩, 37) := ⟨⟨by decide +kernel, by decide +kernel⟩, List.mem_of_getElem? (i := 787) (by decide +kernel), List.mem_of_getElem? (i := 974) (by decide +kernel), List.mem_of_getElem? (i := 975) (by decide +kernel)⟩
def lw_privs_2 : List (MethodName × Nat) := [(⟨"WheelTickets$Rest", "mostOf", "([II)I"⟩, 11), (⟨"WheelTickets$Rest", "ordersThatFit", "(LWheelTickets$Wheel;I)I"⟩, 11), (⟨"WheelTickets$Rest", "isAsSeen", "(LWheelTickets$Wheel;II)Z"⟩, 11), (⟨"WheelTicketsModel", "firstDraft", "()V"⟩, 37), (⟨"WheelTicketsModel", "keepDraft", "()V"⟩, 37), (⟨"WheelTicketsModel", "next", "()V"⟩, 37), (⟨"WheelTicketsModel", "byteAt", "(I)I"⟩, 37), (⟨"WheelTicketsModel", "needs", "(ZI)V"⟩, 37), (⟨"WheelTicketsModel", "readLine", "()V"⟩, 37), (⟨"WheelTicketsModel", "lineNow", "()I"⟩, 37), (⟨"WheelTicketsModel", "is", "(IIII)Z"⟩, 37), (⟨"WheelTicketsModel", "hasEnd", "(IIII)Z"⟩, 37), (⟨"WheelTicketsModel", "hasRoom", "(I)Z"⟩, 37), (⟨"WheelTicketsModel", "readLineOf", "(I)V"⟩, 37), (⟨"WheelTicketsModel", "readNumber", "(II)I"⟩, 37), (⟨"WheelTicketsModel", "readTicket", "(I)V"⟩, 37)]
theorem lw_r2 : ∀ q ∈ lw_privs_2, lw_okq q := List.forall_mem_cons.mpr ⟨lw_p16, List.forall_mem_cons.mpr ⟨lw_p17, List.forall_mem_cons.mpr ⟨lw_p18, List.forall_mem_cons.mpr ⟨lw_p19, List.forall_mem_cons.mpr ⟨lw_p20, List.forall_mem_cons.mpr ⟨lw_p21, List.forall_mem_cons.mpr ⟨lw_p22, List.forall_mem_cons.mpr ⟨lw_p23, List.forall_mem_cons.mpr ⟨lw_p24, List.forall_mem_cons.mpr ⟨lw_p25, List.forall_mem_cons.mpr ⟨lw_p26, List.forall_mem_cons.mpr ⟨lw_p27, List.forall_mem_cons.mpr ⟨lw_p28, List.forall_mem_cons.mpr ⟨lw_p29, List.forall_mem_cons.mpr ⟨lw_p30, List.forall_mem_cons.mpr ⟨lw_p31, fun _ h => absurd h List.not_mem_nil⟩⟩⟩⟩⟩⟩⟩⟩⟩⟩⟩⟩⟩⟩⟩⟩
theorem lw_p32 : lw_okq (⟨"WheelTicketsModel", "readPerson", "()I"⟩, 37) := ⟨⟨by decide +kernel, by decide +kernel⟩, List.mem_of_getElem? (i := 787) (by decide +kernel), List.mem_of_getElem? (i := 978) (by decide +kernel), List.mem_of_getElem? (i := 979) (by decide +kernel)⟩
theorem lw_p33 : lw_okq (⟨"WheelTicketsModel", "drawsCome", "()V"⟩, 37) := ⟨⟨by decide +kernel, by decide +kernel⟩, List.mem_of_getElem? (i := 787) (by decide +kernel), List.mem_of_getElem? (i := 982) (by decide +kernel), List.mem_of_getElem? (i := 983) (by decide +kernel)⟩
theorem lw_p34 : lw_okq (⟨"WheelTicketsModel", "isInWheel", "(I)Z"⟩, 37) := ⟨⟨by decide +kernel, by decide +kernel⟩, List.mem_of_getElem? (i := 787) (by decide +kernel), List.mem_of_getElem? (i := 986) (by decide +kernel), List.mem_of_getElem? (i := 987) (by decide +kernel)⟩
theorem lw_p35 : lw_okq (⟨"WheelTicketsModel", "of", "(II)I"⟩, 37) := ⟨⟨by decide +kernel, by decide +kernel⟩, List.mem_of_getElem? (i := 787) (by decide +kernel), List.mem_of_getElem? (i := 990) (by decide +kernel), List.mem_of_getElem? (i := 991) (by decide +kernel)⟩
theorem lw_p36 : lw_okq (⟨"WheelTicketsModel", "draws", "(III)V"⟩, 37) := ⟨⟨by decide +kernel, by decide +kernel⟩, List.mem_of_getElem? (i := 787) (by decide +kernel), List.mem_of_getElem? (i := 994) (by decide +kernel), List.mem_of_getElem? (i := 995) (by decide +kernel)⟩
theorem lw_p37 : lw_okq (⟨"WheelTicketsModel", "pays", "(III)V"⟩, 37) := ⟨⟨by decide +kernel, by decide +kernel⟩, List.mem_of_getElem? (i := 787) (by decide +kernel), List.mem_of_getElem? (i := 998) (by decide +kernel), List.mem_of_getElem? (i := 999) (by decide +kernel)⟩
theorem lw_p38 : lw_okq (⟨"WheelTicketsModel", "findLeft", "()V"⟩, 37) := ⟨⟨by decide +kernel, by decide +kernel⟩, List.mem_of_getElem? (i := 787) (by decide +kernel), List.mem_of_getElem? (i := 1010) (by decide +kernel), List.mem_of_getElem? (i := 1011) (by decide +kernel)⟩
theorem lw_p39 : lw_okq (⟨"WheelTicketsModel", "wheel", "()I"⟩, 37) := ⟨⟨by decide +kernel, by decide +kernel⟩, List.mem_of_getElem? (i := 787) (by decide +kernel), List.mem_of_getElem? (i := 1014) (by decide +kernel), List.mem_of_getElem? (i := 1015) (by decide +kernel)⟩
theorem lw_p40 : lw_okq (⟨"WheelTicketsModel", "wheelPrizes", "()I"⟩, 37) := ⟨⟨by decide +kernel, by decide +kernel⟩, List.mem_of_getElem? (i := 787) (by decide +kernel), List.mem_of_getElem? (i := 1021) (by decide +kernel), List.mem_of_getElem? (i := 1022) (by decide +kernel)⟩
theorem lw_p41 : lw_okq (⟨"WheelTicketsModel", "sumInWheel", "()I"⟩, 37) := ⟨⟨by decide +kernel, by decide +kernel⟩, List.mem_of_getElem? (i := 787) (by decide +kernel), List.mem_of_getElem? (i := 1025) (by decide +kernel), List.mem_of_getElem? (i := 1026) (by decide +kernel)⟩
theorem lw_p42 : lw_okq (⟨"WheelTicketsModel", "isPerson", "(I)Z"⟩, 37) := ⟨⟨by decide +kernel, by decide +kernel⟩, List.mem_of_getElem? (i := 787) (by decide +kernel), List.mem_of_getElem? (i := 1033) (by decide +kernel), List.mem_of_getElem? (i := 1034) (by decide +kernel)⟩
theorem lw_p43 : lw_okq (⟨"WheelTicketsModel", "starts", "()V"⟩, 37) := ⟨⟨by decide +kernel, by decide +kernel⟩, List.mem_of_getElem? (i := 787) (by decide +kernel), List.mem_of_getElem? (i := 1038) (by decide +kernel), List.mem_of_getElem? (i := 1039) (by decide +kernel)⟩
theorem lw_p44 : lw_okq (⟨"WheelTicketsModel", "isTicket", "(I)Z"⟩, 37) := ⟨⟨by decide +kernel, by decide +kernel⟩, List.mem_of_getElem? (i := 787) (by decide +kernel), List.mem_of_getElem? (i := 1046) (by decide +kernel), List.mem_of_getElem? (i := 1047) (by decide +kernel)⟩
theorem lw_p45 : lw_okq (⟨"WheelTicketsModel", "isDrawn", "(I)Z"⟩, 37) := ⟨⟨by decide +kernel, by decide +kernel⟩, List.mem_of_getElem? (i := 787) (by decide +kernel), List.mem_of_getElem? (i := 1064) (by decide +kernel), List.mem_of_getElem? (i := 1065) (by decide +kernel)⟩
theorem lw_p46 : lw_okq (⟨"WheelTicketsModel", "becomes", "(II)I"⟩, 37) := ⟨⟨by decide +kernel, by decide +kernel⟩, List.mem_of_getElem? (i := 787) (by decide +kernel), List.mem_of_getElem? (i := 1068) (by decide +kernel), List.mem_of_getElem? (i := 1069) (by decide +kernel)⟩
theorem lw_p47 : lw_okq (⟨"WheelTicketsModel", "settles", "()V"⟩, 37) := ⟨⟨by decide +kernel, by decide +kernel⟩, List.mem_of_getElem? (i := 787) (by decide +kernel), List.mem_of_getElem? (i := 1085) (by decide +kernel), List.mem_of_getElem? (i := 1086) (by decide +kernel)⟩
def lw_privs_3 : List (MethodName × Nat) := [(⟨"WheelTicketsModel", "readPerson", "()I"⟩, 37), (⟨"WheelTicketsModel", "drawsCome", "()V"⟩, 37), (⟨"WheelTicketsModel", "isInWheel", "(I)Z"⟩, 37), (⟨"WheelTicketsModel", "of", "(II)I"⟩, 37), (⟨"WheelTicketsModel", "draws", "(III)V"⟩, 37), (⟨"WheelTicketsModel", "pays", "(III)V"⟩, 37), (⟨"WheelTicketsModel", "findLeft", "()V"⟩, 37), (⟨"WheelTicketsModel", "wheel", "()I"⟩, 37), (⟨"WheelTicketsModel", "wheelPrizes", "()I"⟩, 37), (⟨"WheelTicketsModel", "sumInWheel", "()I"⟩, 37), (⟨"WheelTicketsModel", "isPerson", "(I)Z"⟩, 37), (⟨"WheelTicketsModel", "starts", "()V"⟩, 37), (⟨"WheelTicketsModel", "isTicket", "(I)Z"⟩, 37), (⟨"WheelTicketsModel", "isDrawn", "(I)Z"⟩, 37), (⟨"WheelTicketsModel", "becomes", "(II)I"⟩, 37), (⟨"WheelTicketsModel", "settles", "()V"⟩, 37)]
theorem lw_r3 : ∀ q ∈ lw_privs_3, lw_okq q := List.forall_mem_cons.mpr ⟨lw_p32, List.forall_mem_cons.mpr ⟨lw_p33, List.forall_mem_cons.mpr ⟨lw_p34, List.forall_mem_cons.mpr ⟨lw_p35, List.forall_mem_cons.mpr ⟨lw_p36, List.forall_mem_cons.mpr ⟨lw_p37, List.forall_mem_cons.mpr ⟨lw_p38, List.forall_mem_cons.mpr ⟨lw_p39, List.forall_mem_cons.mpr ⟨lw_p40, List.forall_mem_cons.mpr ⟨lw_p41, List.forall_mem_cons.mpr ⟨lw_p42, List.forall_mem_cons.mpr ⟨lw_p43, List.forall_mem_cons.mpr ⟨lw_p44, List.forall_mem_cons.mpr ⟨lw_p45, List.forall_mem_cons.mpr ⟨lw_p46, List.forall_mem_cons.mpr ⟨lw_p47, fun _ h => absurd h List.not_mem_nil⟩⟩⟩⟩⟩⟩⟩⟩⟩⟩⟩⟩⟩⟩⟩⟩
theorem lw_p48 : lw_okq (⟨"WheelTicketsModel", "tries", "(II)V"⟩, 37) := ⟨⟨by decide +kernel, by decide +kernel⟩, List.mem_of_getElem? (i := 787) (by decide +kernel), List.mem_of_getElem? (i := 1110) (by decide +kernel), List.mem_of_getElem? (i := 1111) (by decide +kernel)⟩
theorem lw_p49 : lw_okq (⟨"WheelTicketsModel", "findEnds", "(I)V"⟩, 37) := ⟨⟨by decide +kernel, by decide +kernel⟩, List.mem_of_getElem? (i := 787) (by decide +kernel), List.mem_of_getElem? (i := 1114) (by decide +kernel), List.mem_of_getElem? (i := 1115) (by decide +kernel)⟩
theorem lw_p50 : lw_okq (⟨"WheelTicketsModel", "findOrders", "()V"⟩, 37) := ⟨⟨by decide +kernel, by decide +kernel⟩, List.mem_of_getElem? (i := 787) (by decide +kernel), List.mem_of_getElem? (i := 1118) (by decide +kernel), List.mem_of_getElem? (i := 1119) (by decide +kernel)⟩
theorem lw_p51 : lw_okq (⟨"WheelTicketsModel", "power", "(I)I"⟩, 37) := ⟨⟨by decide +kernel, by decide +kernel⟩, List.mem_of_getElem? (i := 787) (by decide +kernel), List.mem_of_getElem? (i := 1122) (by decide +kernel), List.mem_of_getElem? (i := 1123) (by decide +kernel)⟩
theorem lw_p52 : lw_okq (⟨"WheelTicketsModel", "addsOrder", "(I)V"⟩, 37) := ⟨⟨by decide +kernel, by decide +kernel⟩, List.mem_of_getElem? (i := 787) (by decide +kernel), List.mem_of_getElem? (i := 1126) (by decide +kernel), List.mem_of_getElem? (i := 1127) (by decide +kernel)⟩
theorem lw_p53 : lw_okq (⟨"WheelTicketsModel", "waysMany", "()I"⟩, 37) := ⟨⟨by decide +kernel, by decide +kernel⟩, List.mem_of_getElem? (i := 787) (by decide +kernel), List.mem_of_getElem? (i := 1132) (by decide +kernel), List.mem_of_getElem? (i := 1133) (by decide +kernel)⟩
theorem lw_p54 : lw_okq (⟨"WheelTicketsModel", "startsTried", "()V"⟩, 37) := ⟨⟨by decide +kernel, by decide +kernel⟩, List.mem_of_getElem? (i := 787) (by decide +kernel), List.mem_of_getElem? (i := 1136) (by decide +kernel), List.mem_of_getElem? (i := 1137) (by decide +kernel)⟩
theorem lw_p55 : lw_okq (⟨"WheelTicketsModel", "goesBy", "(I)V"⟩, 37) := ⟨⟨by decide +kernel, by decide +kernel⟩, List.mem_of_getElem? (i := 787) (by decide +kernel), List.mem_of_getElem? (i := 1140) (by decide +kernel), List.mem_of_getElem? (i := 1141) (by decide +kernel)⟩
theorem lw_p56 : lw_okq (⟨"WheelTicketsModel", "firstTicket", "(I)I"⟩, 37) := ⟨⟨by decide +kernel, by decide +kernel⟩, List.mem_of_getElem? (i := 787) (by decide +kernel), List.mem_of_getElem? (i := 1144) (by decide +kernel), List.mem_of_getElem? (i := 1145) (by decide +kernel)⟩
theorem lw_p57 : lw_okq (⟨"WheelTicketsModel", "ownerOf", "(I)I"⟩, 37) := ⟨⟨by decide +kernel, by decide +kernel⟩, List.mem_of_getElem? (i := 787) (by decide +kernel), List.mem_of_getElem? (i := 1166) (by decide +kernel), List.mem_of_getElem? (i := 1167) (by decide +kernel)⟩
theorem lw_p58 : lw_okq (⟨"WheelTicketsModel", "isFit", "(I)Z"⟩, 37) := ⟨⟨by decide +kernel, by decide +kernel⟩, List.mem_of_getElem? (i := 787) (by decide +kernel), List.mem_of_getElem? (i := 1194) (by decide +kernel), List.mem_of_getElem? (i := 1195) (by decide +kernel)⟩
theorem lw_p59 : lw_okq (⟨"WheelTicketsModel", "atOf", "(ZI)I"⟩, 37) := ⟨⟨by decide +kernel, by decide +kernel⟩, List.mem_of_getElem? (i := 787) (by decide +kernel), List.mem_of_getElem? (i := 1207) (by decide +kernel), List.mem_of_getElem? (i := 1208) (by decide +kernel)⟩
theorem lw_p60 : lw_okq (⟨"WheelTicketsModel", "copies", "(II)V"⟩, 37) := ⟨⟨by decide +kernel, by decide +kernel⟩, List.mem_of_getElem? (i := 787) (by decide +kernel), List.mem_of_getElem? (i := 1215) (by decide +kernel), List.mem_of_getElem? (i := 1216) (by decide +kernel)⟩
def lw_privs_4 : List (MethodName × Nat) := [(⟨"WheelTicketsModel", "tries", "(II)V"⟩, 37), (⟨"WheelTicketsModel", "findEnds", "(I)V"⟩, 37), (⟨"WheelTicketsModel", "findOrders", "()V"⟩, 37), (⟨"WheelTicketsModel", "power", "(I)I"⟩, 37), (⟨"WheelTicketsModel", "addsOrder", "(I)V"⟩, 37), (⟨"WheelTicketsModel", "waysMany", "()I"⟩, 37), (⟨"WheelTicketsModel", "startsTried", "()V"⟩, 37), (⟨"WheelTicketsModel", "goesBy", "(I)V"⟩, 37), (⟨"WheelTicketsModel", "firstTicket", "(I)I"⟩, 37), (⟨"WheelTicketsModel", "ownerOf", "(I)I"⟩, 37), (⟨"WheelTicketsModel", "isFit", "(I)Z"⟩, 37), (⟨"WheelTicketsModel", "atOf", "(ZI)I"⟩, 37), (⟨"WheelTicketsModel", "copies", "(II)V"⟩, 37)]
theorem lw_r4 : ∀ q ∈ lw_privs_4, lw_okq q := List.forall_mem_cons.mpr ⟨lw_p48, List.forall_mem_cons.mpr ⟨lw_p49, List.forall_mem_cons.mpr ⟨lw_p50, List.forall_mem_cons.mpr ⟨lw_p51, List.forall_mem_cons.mpr ⟨lw_p52, List.forall_mem_cons.mpr ⟨lw_p53, List.forall_mem_cons.mpr ⟨lw_p54, List.forall_mem_cons.mpr ⟨lw_p55, List.forall_mem_cons.mpr ⟨lw_p56, List.forall_mem_cons.mpr ⟨lw_p57, List.forall_mem_cons.mpr ⟨lw_p58, List.forall_mem_cons.mpr ⟨lw_p59, List.forall_mem_cons.mpr ⟨lw_p60, fun _ h => absurd h List.not_mem_nil⟩⟩⟩⟩⟩⟩⟩⟩⟩⟩⟩⟩⟩
def lw_privs : List (MethodName × Nat) := lw_privs_1 ++ (lw_privs_2 ++ (lw_privs_3 ++ (lw_privs_4)))
def lw_tbl : List Cond := k2_sels lw_privs ++ tables_1
theorem lw_privs_ok : ∀ q ∈ lw_privs, lw_okq q := by
  show ∀ q ∈ lw_privs_1 ++ (lw_privs_2 ++ (lw_privs_3 ++ (lw_privs_4))), lw_okq q
  exact List.forall_mem_append.mpr ⟨lw_r1, List.forall_mem_append.mpr ⟨lw_r2, List.forall_mem_append.mpr ⟨lw_r3, lw_r4⟩⟩⟩
-- ===== end of PART A =====
def RX0 : String := "WheelTickets$Rest"
def TX0 : u_T := fun k => match k with
  | 0 => ("WheelTickets$Rest", "left", "I", false)
  | 1 => ("WheelTickets$Rest", "orders", "I", false)
  | 2 => ("WheelTickets$Rest", "tickets", "[I", true)
  | 3 => ("WheelTickets$Rest", "prizes", "[I", true)
  | 4 => ("WheelTickets$Rest", "fees", "[I", true)
  | 5 => ("WheelTickets$Rest", "shares", "[I", true)
  | 6 => ("WheelTickets$Rest", "byFees", "[I", true)
  | 7 => ("WheelTickets$Rest", "byPrizes", "[I", true)
  | 8 => ("WheelTickets$Rest", "beside", "[I", true)
  | 9 => ("WheelTickets$Rest", "pairs", "[I", true)
  | _ => ("WheelTickets$Rest", "fitting", "I", false)
def tyX0 : Nat → FieldType := fun k => match k with
  | 0 => .int
  | 1 => .int
  | 2 => .array .int
  | 3 => .array .int
  | 4 => .array .int
  | 5 => .array .int
  | 6 => .array .int
  | 7 => .array .int
  | 8 => .array .int
  | 9 => .array .int
  | _ => .int
abbrev wsX00 : List Cond := u_ws RX0 TX0 11
theorem nmX0 : ∀ a, a < 11 → ∀ b, b < 11 → a ≠ b → (TX0 a).2.1 ≠ (TX0 b).2.1 := by decide +kernel
theorem tyX0_ok : ∀ k, k < 11 → parseFieldDescriptor (TX0 k).2.2.1 = some (tyX0 k) := by decide +kernel
def RX1 : String := "WheelTickets$Sheet"
def TX1 : u_T := fun k => match k with
  | 0 => ("WheelTickets$Sheet", "size", "I", false)
  | 1 => ("WheelTickets$Sheet", "lane", "I", false)
  | _ => ("WheelTickets$Sheet", "cells", "[I", true)
def tyX1 : Nat → FieldType := fun k => match k with
  | 0 => .int
  | 1 => .int
  | _ => .array .int
abbrev wsX10 : List Cond := u_ws RX1 TX1 3
theorem nmX1 : ∀ a, a < 3 → ∀ b, b < 3 → a ≠ b → (TX1 a).2.1 ≠ (TX1 b).2.1 := by decide +kernel
theorem tyX1_ok : ∀ k, k < 3 → parseFieldDescriptor (TX1 k).2.2.1 = some (tyX1 k) := by decide +kernel
def RX2 : String := "WheelTickets$Tape"
def TX2 : u_T := fun k => match k with
  | 0 => ("WheelTickets$Tape", "bytes", "[B", true)
  | 1 => ("WheelTickets$Tape", "length", "I", false)
  | 2 => ("WheelTickets$Tape", "place", "I", false)
  | 3 => ("WheelTickets$Tape", "token", "I", false)
  | 4 => ("WheelTickets$Tape", "start", "I", false)
  | _ => ("WheelTickets$Tape", "value", "I", false)
def tyX2 : Nat → FieldType := fun k => match k with
  | 0 => .array .byte
  | 1 => .int
  | 2 => .int
  | 3 => .int
  | 4 => .int
  | _ => .int
abbrev wsX20 : List Cond := u_ws RX2 TX2 6
theorem nmX2 : ∀ a, a < 6 → ∀ b, b < 6 → a ≠ b → (TX2 a).2.1 ≠ (TX2 b).2.1 := by decide +kernel
theorem tyX2_ok : ∀ k, k < 6 → parseFieldDescriptor (TX2 k).2.2.1 = some (tyX2 k) := by decide +kernel
def RX3 : String := "WheelTickets$Teller"
def TX3 : u_T := fun k => match k with
  | 0 => ("WheelTickets$Teller", "found", "I", false)
  | 1 => ("WheelTickets$Teller", "foundAt", "I", false)
  | 2 => ("WheelTickets$Teller", "numbers", "[I", true)
  | 3 => ("WheelTickets$Teller", "prizes", "I", false)
  | 4 => ("WheelTickets$Teller", "draws", "I", false)
  | 5 => ("WheelTickets$Teller", "drawnTickets", "[I", true)
  | _ => ("WheelTickets$Teller", "drawnPrizes", "[I", true)
def tyX3 : Nat → FieldType := fun k => match k with
  | 0 => .int
  | 1 => .int
  | 2 => .array .int
  | 3 => .int
  | 4 => .int
  | 5 => .array .int
  | _ => .array .int
abbrev wsX30 : List Cond := u_ws RX3 TX3 7
theorem nmX3 : ∀ a, a < 7 → ∀ b, b < 7 → a ≠ b → (TX3 a).2.1 ≠ (TX3 b).2.1 := by decide +kernel
theorem tyX3_ok : ∀ k, k < 7 → parseFieldDescriptor (TX3 k).2.2.1 = some (tyX3 k) := by decide +kernel
def RX4 : String := "WheelTickets$Wheel"
def TX4 : u_T := fun k => match k with
  | 0 => ("WheelTickets$Wheel", "people", "I", false)
  | 1 => ("WheelTickets$Wheel", "tickets", "I", false)
  | 2 => ("WheelTickets$Wheel", "seen", "I", false)
  | 3 => ("WheelTickets$Wheel", "purses", "[I", true)
  | 4 => ("WheelTickets$Wheel", "traits", "[I", true)
  | 5 => ("WheelTickets$Wheel", "drew", "[I", true)
  | 6 => ("WheelTickets$Wheel", "amounts", "[I", true)
  | 7 => ("WheelTickets$Wheel", "drawnBy", "[I", true)
  | 8 => ("WheelTickets$Wheel", "seenOf", "[I", true)
  | _ => ("WheelTickets$Wheel", "seenEnd", "[I", true)
def tyX4 : Nat → FieldType := fun k => match k with
  | 0 => .int
  | 1 => .int
  | 2 => .int
  | 3 => .array .int
  | 4 => .array .int
  | 5 => .array .int
  | 6 => .array .int
  | 7 => .array .int
  | 8 => .array .int
  | _ => .array .int
abbrev wsX40 : List Cond := u_ws RX4 TX4 10
theorem nmX4 : ∀ a, a < 10 → ∀ b, b < 10 → a ≠ b → (TX4 a).2.1 ≠ (TX4 b).2.1 := by decide +kernel
theorem tyX4_ok : ∀ k, k < 10 → parseFieldDescriptor (TX4 k).2.2.1 = some (tyX4 k) := by decide +kernel
def RX5 : String := "WheelTickets"
def TX5 : u_T := fun k => match k with
  | 0 => ("WheelTickets", "now", "LWheelTickets$Wheel;", true)
  | 1 => ("WheelTickets", "trial", "LWheelTickets$Wheel;", true)
  | 2 => ("WheelTickets", "images", "[LWheelTickets$Wheel;", true)
  | 3 => ("WheelTickets", "kept", "[I", true)
  | 4 => ("WheelTickets", "rest", "LWheelTickets$Rest;", true)
  | 5 => ("WheelTickets", "tape", "LWheelTickets$Tape;", true)
  | 6 => ("WheelTickets", "teller", "LWheelTickets$Teller;", true)
  | 7 => ("WheelTickets", "sheets", "[LWheelTickets$Sheet;", true)
  | _ => ("WheelTickets", "tornFault", "I", false)
def tyX5 : Nat → FieldType := fun k => match k with
  | 0 => .object "WheelTickets$Wheel"
  | 1 => .object "WheelTickets$Wheel"
  | 2 => .array (.object "WheelTickets$Wheel")
  | 3 => .array .int
  | 4 => .object "WheelTickets$Rest"
  | 5 => .object "WheelTickets$Tape"
  | 6 => .object "WheelTickets$Teller"
  | 7 => .array (.object "WheelTickets$Sheet")
  | _ => .int
abbrev wsX50 : List Cond := u_ws RX5 TX5 9
theorem nmX5 : ∀ a, a < 9 → ∀ b, b < 9 → a ≠ b → (TX5 a).2.1 ≠ (TX5 b).2.1 := by decide +kernel
theorem tyX5_ok : ∀ k, k < 9 → parseFieldDescriptor (TX5 k).2.2.1 = some (tyX5 k) := by decide +kernel
def RX6 : String := "WheelTicketsModel"
def TX6 : u_T := fun k => match k with
  | 0 => ("WheelTicketsModel", "st", "[I", true)
  | 1 => ("WheelTicketsModel", "now", "[I", true)
  | 2 => ("WheelTicketsModel", "isKept", "[Z", true)
  | 3 => ("WheelTicketsModel", "people", "I", false)
  | 4 => ("WheelTicketsModel", "tickets", "I", false)
  | 5 => ("WheelTicketsModel", "draft", "[I", true)
  | 6 => ("WheelTicketsModel", "dPeople", "I", false)
  | 7 => ("WheelTicketsModel", "dTickets", "I", false)
  | 8 => ("WheelTicketsModel", "dPrizes", "I", false)
  | 9 => ("WheelTicketsModel", "drawMany", "I", false)
  | 10 => ("WheelTicketsModel", "drawn", "[I", true)
  | 11 => ("WheelTicketsModel", "highest", "I", false)
  | 12 => ("WheelTicketsModel", "tape", "[I", true)
  | 13 => ("WheelTicketsModel", "taped", "I", false)
  | 14 => ("WheelTicketsModel", "pos", "I", false)
  | 15 => ("WheelTicketsModel", "from", "I", false)
  | 16 => ("WheelTicketsModel", "sort", "I", false)
  | 17 => ("WheelTicketsModel", "value", "I", false)
  | 18 => ("WheelTicketsModel", "fault", "I", false)
  | 19 => ("WheelTicketsModel", "wrongAt", "I", false)
  | 20 => ("WheelTicketsModel", "order", "[I", true)
  | 21 => ("WheelTicketsModel", "orderMany", "I", false)
  | 22 => ("WheelTicketsModel", "leftMany", "I", false)
  | 23 => ("WheelTicketsModel", "leftTicket", "[I", true)
  | 24 => ("WheelTicketsModel", "leftPrize", "[I", true)
  | 25 => ("WheelTicketsModel", "triedCell", "I", false)
  | 26 => ("WheelTicketsModel", "triedValue", "I", false)
  | 27 => ("WheelTicketsModel", "endSum", "J", false)
  | 28 => ("WheelTicketsModel", "endLeast", "I", false)
  | 29 => ("WheelTicketsModel", "endMost", "I", false)
  | 30 => ("WheelTicketsModel", "endFirst", "I", false)
  | 31 => ("WheelTicketsModel", "ways", "[I", true)
  | 32 => ("WheelTicketsModel", "lanes", "[I", true)
  | 33 => ("WheelTicketsModel", "sizes", "[I", true)
  | 34 => ("WheelTicketsModel", "cells", "[I", true)
  | 35 => ("WheelTicketsModel", "torn", "I", false)
  | _ => ("WheelTicketsModel", "had", "[I", true)
def tyX6 : Nat → FieldType := fun k => match k with
  | 0 => .array .int
  | 1 => .array .int
  | 2 => .array .boolean
  | 3 => .int
  | 4 => .int
  | 5 => .array .int
  | 6 => .int
  | 7 => .int
  | 8 => .int
  | 9 => .int
  | 10 => .array .int
  | 11 => .int
  | 12 => .array .int
  | 13 => .int
  | 14 => .int
  | 15 => .int
  | 16 => .int
  | 17 => .int
  | 18 => .int
  | 19 => .int
  | 20 => .array .int
  | 21 => .int
  | 22 => .int
  | 23 => .array .int
  | 24 => .array .int
  | 25 => .int
  | 26 => .int
  | 27 => .long
  | 28 => .int
  | 29 => .int
  | 30 => .int
  | 31 => .array .int
  | 32 => .array .int
  | 33 => .array .int
  | 34 => .array .int
  | 35 => .int
  | _ => .array .int
abbrev wsX60 : List Cond := u_ws RX6 TX6 37
theorem nmX6 : ∀ a, a < 37 → ∀ b, b < 37 → a ≠ b → (TX6 a).2.1 ≠ (TX6 b).2.1 := by decide +kernel
theorem tyX6_ok : ∀ k, k < 37 → parseFieldDescriptor (TX6 k).2.2.1 = some (tyX6 k) := by decide +kernel
/-- the words that a method may take along -/
def pm_gw : List Cond := lw_tbl.filter goodWord
theorem pm_in {w : Cond} (h : w ∈ tables_1) (g : goodWord w = true) : w ∈ pm_gw := List.mem_filter.mpr ⟨List.mem_append_right _ h, g⟩
theorem pm_ins {w : Cond} (h : w ∈ k2_sels lw_privs) (g : goodWord w = true) : w ∈ pm_gw := List.mem_filter.mpr ⟨List.mem_append_left _ h, g⟩
theorem pm_gg : GoodIn pm_gw pm_gw := fun w h => ⟨h, good_of_word (List.mem_filter.mp h).2⟩
def pm_RN : Nat → String := fun k => match k with
  | 0 => "WheelTickets$Rest"
  | 1 => "WheelTickets$Sheet"
  | 2 => "WheelTickets$Tape"
  | 3 => "WheelTickets$Teller"
  | 4 => "WheelTickets$Wheel"
  | 5 => "WheelTickets"
  | 6 => "WheelTicketsModel"
  | 7 => "WheelTicketsLaw"
  | 8 => "java/lang/String"
  | 9 => "java/lang/StringLatin1"
  | 10 => "java/util/Arrays"
  | 11 => "java/lang/Integer"
  | 12 => "java/lang/Math"
  | _ => "jdk/internal/util/Preconditions"
def pm_TN : Nat → u_T := fun k => match k with
  | 0 => TX0
  | 1 => TX1
  | 2 => TX2
  | 3 => TX3
  | 4 => TX4
  | 5 => TX5
  | _ => TX6
def pm_NN : Nat → Nat := fun k => match k with
  | 0 => 11
  | 1 => 3
  | 2 => 6
  | 3 => 7
  | 4 => 10
  | 5 => 9
  | _ => 37
def pm_tN : Nat → Nat → FieldType := fun k => match k with
  | 0 => tyX0
  | 1 => tyX1
  | 2 => tyX2
  | 3 => tyX3
  | 4 => tyX4
  | 5 => tyX5
  | _ => tyX6
def pm_cl : List vw_C := [(RX0, TX0, 11), (RX1, TX1, 3), (RX2, TX2, 6), (RX3, TX3, 7), (RX4, TX4, 10), (RX5, TX5, 9), (RX6, TX6, 37)]
theorem pm_clat : ∀ k, k < 7 → pm_cl[k]? = some (pm_RN k, pm_TN k, pm_NN k) := by
  intro k hk
  rcases k with _ | _ | _ | _ | _ | _ | _ | k
  all_goals first | rfl | omega
set_option maxRecDepth 20000 in
theorem pm_cw0 : (u_ws RX0 TX0 11).all (fun w => decide (w ∈ tables_1) && goodWord w) = true := by decide +kernel
set_option maxRecDepth 20000 in
theorem pm_cw1 : (u_ws RX1 TX1 3).all (fun w => decide (w ∈ tables_1) && goodWord w) = true := by decide +kernel
set_option maxRecDepth 20000 in
theorem pm_cw2 : (u_ws RX2 TX2 6).all (fun w => decide (w ∈ tables_1) && goodWord w) = true := by decide +kernel
set_option maxRecDepth 20000 in
theorem pm_cw3 : (u_ws RX3 TX3 7).all (fun w => decide (w ∈ tables_1) && goodWord w) = true := by decide +kernel
set_option maxRecDepth 20000 in
theorem pm_cw4 : (u_ws RX4 TX4 10).all (fun w => decide (w ∈ tables_1) && goodWord w) = true := by decide +kernel
set_option maxRecDepth 20000 in
theorem pm_cw5 : (u_ws RX5 TX5 9).all (fun w => decide (w ∈ tables_1) && goodWord w) = true := by decide +kernel
set_option maxRecDepth 20000 in
theorem pm_cw6 : (u_ws RX6 TX6 37).all (fun w => decide (w ∈ tables_1) && goodWord w) = true := by decide +kernel
theorem pm_allin {ws : List Cond} (h : ws.all (fun w => decide (w ∈ tables_1) && goodWord w) = true) : ∀ w ∈ ws, w ∈ pm_gw := fun w hw => by
  have := List.all_eq_true.mp h w hw
  simp only [Bool.and_eq_true, decide_eq_true_eq] at this
  exact pm_in this.1 this.2
theorem pm_cw : ∀ k, k < 7 → ∀ w ∈ u_ws (pm_RN k) (pm_TN k) (pm_NN k), w ∈ pm_gw := by
  intro k hk
  rcases k with _ | _ | _ | _ | _ | _ | _ | k
  · exact pm_allin pm_cw0
  · exact pm_allin pm_cw1
  · exact pm_allin pm_cw2
  · exact pm_allin pm_cw3
  · exact pm_allin pm_cw4
  · exact pm_allin pm_cw5
  · exact pm_allin pm_cw6
  · omega
theorem pm_ty : ∀ c, c < 7 → ∀ k, k < pm_NN c → parseFieldDescriptor (pm_TN c k).2.2.1 = some (pm_tN c k) := by
  intro c hc
  rcases c with _ | _ | _ | _ | _ | _ | _ | c
  · exact tyX0_ok
  · exact tyX1_ok
  · exact tyX2_ok
  · exact tyX3_ok
  · exact tyX4_ok
  · exact tyX5_ok
  · exact tyX6_ok
  · omega
theorem pm_nm : ∀ c, c < 7 → ∀ a, a < pm_NN c → ∀ b, b < pm_NN c → a ≠ b → (pm_TN c a).2.1 ≠ (pm_TN c b).2.1 := by
  intro c hc
  rcases c with _ | _ | _ | _ | _ | _ | _ | c
  · exact nmX0
  · exact nmX1
  · exact nmX2
  · exact nmX3
  · exact nmX4
  · exact nmX5
  · exact nmX6
  · omega
end
section
/-- which field a link of a class names: (class, index, the field's class, its place) -/
def pm_fls : List (Nat × Nat × Nat × Nat) := [(0, 9, 0, 0), (0, 15, 0, 1), (0, 18, 0, 2), (0, 22, 0, 3), (0, 25, 0, 4), (0, 28, 0, 5), (0, 31, 0, 6), (0, 34, 0, 7), (0, 37, 0, 8), (0, 40, 0, 9), (0, 43, 0, 10), (0, 63, 4, 6), (0, 74, 4, 3), (0, 81, 4, 0), (0, 132, 4, 2), (0, 135, 4, 8), (0, 138, 4, 9), (1, 9, 1, 0), (1, 15, 1, 1), (1, 18, 1, 2), (2, 9, 2, 0), (2, 15, 2, 1), (2, 19, 2, 2), (2, 22, 2, 3), (2, 25, 2, 4), (2, 28, 2, 5), (3, 9, 3, 0), (3, 15, 3, 1), (3, 18, 3, 2), (3, 22, 3, 3), (3, 25, 3, 4), (3, 28, 3, 5), (3, 31, 3, 6), (3, 48, 2, 1), (3, 58, 2, 3), (3, 61, 2, 4), (3, 91, 2, 5), (3, 98, 4, 0), (3, 101, 4, 1), (3, 108, 4, 6), (4, 9, 4, 0), (4, 15, 4, 1), (4, 18, 4, 2), (4, 21, 4, 3), (4, 25, 4, 4), (4, 28, 4, 5), (4, 31, 4, 6), (4, 34, 4, 7), (4, 37, 4, 8), (4, 40, 4, 9), (5, 10, 5, 0), (5, 16, 5, 1), (5, 19, 5, 2), (5, 23, 5, 3), (5, 30, 5, 4), (5, 37, 5, 5), (5, 44, 5, 6), (5, 50, 5, 7), (5, 54, 5, 8), (5, 67, 2, 1), (5, 74, 3, 0), (5, 87, 4, 0), (5, 90, 4, 1), (5, 109, 4, 3), (5, 122, 4, 5), (5, 128, 4, 6), (5, 131, 4, 7), (5, 224, 4, 2), (5, 233, 0, 10), (5, 266, 1, 2), (5, 272, 1, 0), (6, 7, 6, 0), (6, 13, 6, 1), (6, 16, 6, 2), (6, 20, 6, 5), (6, 23, 6, 10), (6, 26, 6, 12), (6, 29, 6, 20), (6, 32, 6, 23), (6, 35, 6, 24), (6, 38, 6, 31), (6, 41, 6, 32), (6, 44, 6, 33), (6, 47, 6, 34), (6, 50, 6, 36), (6, 59, 6, 6), (6, 63, 6, 7), (6, 66, 6, 8), (6, 69, 6, 9), (6, 72, 6, 11), (6, 75, 6, 3), (6, 78, 6, 4), (6, 87, 6, 13), (6, 90, 6, 18), (6, 93, 6, 15), (6, 96, 6, 19), (6, 99, 6, 14), (6, 113, 6, 16), (6, 124, 6, 17), (6, 175, 6, 22), (6, 178, 6, 21), (6, 197, 6, 25), (6, 200, 6, 26), (6, 206, 6, 27), (6, 211, 6, 28), (6, 215, 6, 29), (6, 218, 6, 30), (6, 318, 6, 35)]
def pm_ics : List (Nat × Nat × Int32) := [(11, 265, 1431655765), (11, 266, 858993459), (11, 267, 252645135), (5, 210, -2147483648), (0, 118, -2147483648), (5, 283, 1103515245), (6, 210, 1000000), (6, 214, -1000000), (6, 301, 1103515245)]
def pm_lcs : List (Nat × Nat × Int64) := [(5, 158, -1), (5, 166, -4), (5, 172, -2), (6, 81, 127), (6, 116, 97), (6, 118, 122), (6, 120, 48), (6, 122, 57), (6, 245, 2), (6, 250, 4), (6, 255, 3), (6, 257, 9), (6, 265, 99), (6, 274, -1), (6, 276, -4), (6, 282, -2), (6, 291, -999), (6, 293, 999), (6, 313, 20)]
def pm_strs : List String := ["whole", "hired", "split", "insured", "person", "prize", "draw"]
def pm_six : List Nat := [138, 140, 142, 144, 146, 148, 150]
def pm_slen : List Nat := [5, 5, 5, 7, 6, 5, 4]
def pm_sby : List (List Int32) := [[119, 104, 111, 108, 101], [104, 105, 114, 101, 100], [115, 112, 108, 105, 116], [105, 110, 115, 117, 114, 101, 100], [112, 101, 114, 115, 111, 110], [112, 114, 105, 122, 101], [100, 114, 97, 119]]
def pm_orl : List Int32 := [0, 1, 2, 3, 1, 0, 2, 3, 0, 2, 1, 3, 1, 2, 0, 3, 2, 0, 1, 3, 2, 1, 0, 3, 0, 1, 3, 2, 0, 2, 3, 1, 0, 3, 1, 2, 0, 3, 2, 1, 1, 0, 3, 2, 1, 2, 3, 0, 1, 3, 0, 2, 1, 3, 2, 0, 2, 0, 3, 1, 2, 1, 3, 0, 2, 3, 0, 1, 2, 3, 1, 0, 3, 0, 1, 2, 3, 0, 2, 1, 3, 1, 0, 2, 3, 1, 2, 0, 3, 2, 0, 1, 3, 2, 1, 0]
def pm_ORD (j : Nat) : Int32 := pm_orl.getD j 0
/-- links between nest mates -/
def pm_nw : List Cond := [.methodLinkNest "WheelTickets" 9 ⟨"WheelTickets$Wheel", "<init>", "()V"⟩ "WheelTickets", .methodLinkNest "WheelTickets" 29 ⟨"WheelTickets$Rest", "<init>", "()V"⟩ "WheelTickets", .methodLinkNest "WheelTickets" 36 ⟨"WheelTickets$Tape", "<init>", "()V"⟩ "WheelTickets", .methodLinkNest "WheelTickets" 43 ⟨"WheelTickets$Teller", "<init>", "()V"⟩ "WheelTickets", .methodLinkNest "WheelTickets" 58 ⟨"WheelTickets$Sheet", "<init>", "()V"⟩ "WheelTickets", .methodLinkNest "WheelTickets$Teller" 111 ⟨"WheelTickets", "within", "(III)Z"⟩ "WheelTickets", .methodLinkNest "WheelTickets$Wheel" 66 ⟨"WheelTickets", "within", "(III)Z"⟩ "WheelTickets", .fieldLinkNest "WheelTickets$Rest" 87 "WheelTickets" "ORDERS" "[I" "WheelTickets", .methodLinkNest "WheelTickets$Sheet" 22 ⟨"WheelTickets", "within", "(III)Z"⟩ "WheelTickets"]
set_option maxRecDepth 20000 in
theorem pm_nwin : pm_nw.all (fun w => decide (w ∈ tables_1)) = true := by decide +kernel
def pm_flc (e : Nat × Nat × Nat × Nat) : Cond := .fieldLink (pm_RN e.1) e.2.1 (pm_RN e.2.2.1) (pm_TN e.2.2.1 e.2.2.2).2.1 (pm_TN e.2.2.1 e.2.2.2).2.2.1
set_option maxRecDepth 20000 in
theorem pm_flok0 : pm_fls.all (fun e => (decide (pm_flc e ∈ tables_1) && goodWord (pm_flc e)) && (decide (e.2.2.1 < 7) && decide (e.2.2.2 < pm_NN e.2.2.1))) = true := by decide +kernel
theorem pm_flok {e : Nat × Nat × Nat × Nat} (h : e ∈ pm_fls) : pm_flc e ∈ pm_gw ∧ e.2.2.1 < 7 ∧ e.2.2.2 < pm_NN e.2.2.1 := by
  have := List.all_eq_true.mp pm_flok0 e h
  simp only [Bool.and_eq_true, decide_eq_true_eq] at this
  exact ⟨pm_in this.1.1 this.1.2, this.2.1, this.2.2⟩
def pm_fl (o i : Nat) : Option (Nat × Nat) := (pm_fls.find? (fun e => e.1 == o && e.2.1 == i)).map (fun e => e.2.2)
theorem pm_fl_ok {o i c k : Nat} (h : pm_fl o i = some (c, k)) : Cond.fieldLink (pm_RN o) i (pm_RN c) (pm_TN c k).2.1 (pm_TN c k).2.2.1 ∈ pm_gw ∧ c < 7 ∧ k < pm_NN c := by
  unfold pm_fl at h
  obtain ⟨e, h1, h2⟩ := Option.map_eq_some_iff.mp h
  have h3 := List.find?_some h1
  simp only [Bool.and_eq_true, beq_iff_eq] at h3
  obtain ⟨rfl, rfl⟩ := h3
  have h4 := pm_flok (List.mem_of_find?_eq_some h1)
  obtain ⟨a, b, c', k'⟩ := e
  simp only [Prod.mk.injEq] at h2
  obtain ⟨rfl, rfl⟩ := h2
  exact h4
set_option maxRecDepth 20000 in
theorem pm_icok0 : pm_ics.all (fun e => decide (Cond.constant (pm_RN e.1) e.2.1 e.2.2 ∈ tables_1) && goodWord (Cond.constant (pm_RN e.1) e.2.1 e.2.2)) = true := by decide +kernel
set_option maxRecDepth 20000 in
theorem pm_lcok0 : pm_lcs.all (fun e => decide (Cond.constantLong (pm_RN e.1) e.2.1 e.2.2 ∈ tables_1) && goodWord (Cond.constantLong (pm_RN e.1) e.2.1 e.2.2)) = true := by decide +kernel
def pm_ic (o i : Nat) : Option Int32 := (pm_ics.find? (fun e => e.1 == o && e.2.1 == i)).map (fun e => e.2.2)
def pm_lc (o i : Nat) : Option Int64 := (pm_lcs.find? (fun e => e.1 == o && e.2.1 == i)).map (fun e => e.2.2)
theorem pm_ic_ok {o i : Nat} {v : Int32} (h : pm_ic o i = some v) : Cond.constant (pm_RN o) i v ∈ pm_gw := by
  unfold pm_ic at h
  obtain ⟨e, h1, h2⟩ := Option.map_eq_some_iff.mp h
  have h3 := List.find?_some h1
  simp only [Bool.and_eq_true, beq_iff_eq] at h3
  obtain ⟨rfl, rfl⟩ := h3
  have h4 := List.all_eq_true.mp pm_icok0 e (List.mem_of_find?_eq_some h1)
  simp only [Bool.and_eq_true, decide_eq_true_eq] at h4
  subst h2
  exact pm_in h4.1 h4.2
theorem pm_lc_ok {o i : Nat} {v : Int64} (h : pm_lc o i = some v) : Cond.constantLong (pm_RN o) i v ∈ pm_gw := by
  unfold pm_lc at h
  obtain ⟨e, h1, h2⟩ := Option.map_eq_some_iff.mp h
  have h3 := List.find?_some h1
  simp only [Bool.and_eq_true, beq_iff_eq] at h3
  obtain ⟨rfl, rfl⟩ := h3
  have h4 := List.all_eq_true.mp pm_lcok0 e (List.mem_of_find?_eq_some h1)
  simp only [Bool.and_eq_true, decide_eq_true_eq] at h4
  subst h2
  exact pm_in h4.1 h4.2
end
section
/-! THE PURE MACHINE: values, cells by (kind, number), a step that a program can run. A reference is (kind, number); the memory gives each cell's ints. -/
abbrev pm_V : Type := Int32 ⊕ (Int64 ⊕ (Nat × Nat))
abbrev pm_M : Type := (Nat → Nat → Nat → Int32) × Int64
abbrev pm_L : Type := List (Option pm_V)
abbrev pm_i (x : Int32) : pm_V := .inl x
abbrev pm_l (x : Int64) : pm_V := .inr (.inl x)
abbrev pm_r (t k : Nat) : pm_V := .inr (.inr (t, k))
/-- addresses, the formatter, the array classes -/
abbrev pm_E : Type := (Nat → Nat → Nat) × Value × (Nat → ClassId)
abbrev pm_S : Type := Nat × pm_L × List pm_V × pm_M
abbrev pm_R : Type := Option (List Prop × pm_S)
/-- own class, name, code, locals, return type, the instructions by their places, frames, locals' words -/
abbrev pm_MI : Type := Nat × MethodName × ByteArray × Nat × Option FieldType × List (Nat × Instr) × Nat × Nat
def pm_cv (E : pm_E) (v : pm_V) : Value := match v with
  | .inl x => .int x
  | .inr (.inl x) => .long x
  | .inr (.inr (t, k)) => if t = 54 then E.2.1 else .ref (E.1 t k)
def pm_set (M : pm_M) (t k : Nat) (f : Nat → Int32) : pm_M := (fun a b => if a = t ∧ b = k then f else M.1 a b, M.2)
/-- a kind: an object (class, fields: 0 int, 1 long, 2 a reference (kind, first number)), an array of ints (type, length), an array of references (type, length, kind, first number) -/
def pm_sh : Nat → Option ((Nat × List (Nat × Nat × Nat)) ⊕ ((Nat × Nat) ⊕ (Nat × Nat × Nat × Nat))) := fun t => match t with
  | 0 => some (.inl (5, [(2, 4, 0), (2, 4, 1), (2, 1, 0), (2, 2, 0), (2, 12, 0), (2, 21, 0), (2, 23, 0), (2, 3, 0), (0, 0, 0)]))
  | 1 => some (.inr (.inr (3, 2, 4, 2)))
  | 2 => some (.inr (.inl (0, 2)))
  | 3 => some (.inr (.inr (4, 4, 27, 0)))
  | 4 => some (.inl (4, [(0, 0, 0), (0, 0, 0), (0, 0, 0), (2, 5, 0), (2, 6, 0), (2, 7, 0), (2, 8, 0), (2, 9, 0), (2, 10, 0), (2, 11, 0)]))
  | 5 => some (.inr (.inl (0, 4)))
  | 6 => some (.inr (.inl (0, 16)))
  | 7 => some (.inr (.inl (0, 4)))
  | 8 => some (.inr (.inl (0, 4)))
  | 9 => some (.inr (.inl (0, 4)))
  | 10 => some (.inr (.inl (0, 6)))
  | 11 => some (.inr (.inl (0, 6)))
  | 12 => some (.inl (0, [(0, 0, 0), (0, 0, 0), (2, 13, 0), (2, 14, 0), (2, 15, 0), (2, 16, 0), (2, 17, 0), (2, 18, 0), (2, 19, 0), (2, 20, 0), (0, 0, 0)]))
  | 13 => some (.inr (.inl (0, 4)))
  | 14 => some (.inr (.inl (0, 4)))
  | 15 => some (.inr (.inl (0, 4)))
  | 16 => some (.inr (.inl (0, 16)))
  | 17 => some (.inr (.inl (0, 96)))
  | 18 => some (.inr (.inl (0, 96)))
  | 19 => some (.inr (.inl (0, 4)))
  | 20 => some (.inr (.inl (0, 16)))
  | 21 => some (.inl (2, [(2, 22, 0), (0, 0, 0), (0, 0, 0), (0, 0, 0), (0, 0, 0), (0, 0, 0)]))
  | 22 => some (.inr (.inl (1, 160)))
  | 23 => some (.inl (3, [(0, 0, 0), (0, 0, 0), (2, 24, 0), (0, 0, 0), (0, 0, 0), (2, 25, 0), (2, 26, 0)]))
  | 24 => some (.inr (.inl (0, 3)))
  | 25 => some (.inr (.inl (0, 4)))
  | 26 => some (.inr (.inl (0, 4)))
  | 27 => some (.inl (1, [(0, 0, 0), (0, 0, 0), (2, 28, 0)]))
  | 28 => some (.inr (.inl (0, 40)))
  | 29 => some (.inl (6, [(2, 30, 0), (2, 31, 0), (2, 32, 0), (0, 0, 0), (0, 0, 0), (2, 33, 0), (0, 0, 0), (0, 0, 0), (0, 0, 0), (0, 0, 0), (2, 34, 0), (0, 0, 0), (2, 35, 0), (0, 0, 0), (0, 0, 0), (0, 0, 0), (0, 0, 0), (0, 0, 0), (0, 0, 0), (0, 0, 0), (2, 36, 0), (0, 0, 0), (0, 0, 0), (2, 37, 0), (2, 38, 0), (0, 0, 0), (0, 0, 0), (1, 0, 0), (0, 0, 0), (0, 0, 0), (0, 0, 0), (2, 39, 0), (2, 40, 0), (2, 41, 0), (2, 42, 0), (0, 0, 0), (2, 43, 0)]))
  | 30 => some (.inr (.inl (0, 135)))
  | 31 => some (.inr (.inl (0, 45)))
  | 32 => some (.inr (.inl (2, 2)))
  | 33 => some (.inr (.inl (0, 45)))
  | 34 => some (.inr (.inl (0, 8)))
  | 35 => some (.inr (.inl (0, 160)))
  | 36 => some (.inr (.inl (0, 100)))
  | 37 => some (.inr (.inl (0, 4)))
  | 38 => some (.inr (.inl (0, 4)))
  | 39 => some (.inr (.inl (0, 16)))
  | 40 => some (.inr (.inl (0, 4)))
  | 41 => some (.inr (.inl (0, 4)))
  | 42 => some (.inr (.inl (0, 160)))
  | 43 => some (.inr (.inl (0, 45)))
  | _ => none
/-- how many cells there are of a kind -/
def pm_cnt : Nat → Nat := fun t => match t with
  | 4 => 4
  | 5 => 4
  | 6 => 4
  | 7 => 4
  | 8 => 4
  | 9 => 4
  | 10 => 4
  | 11 => 4
  | 27 => 4
  | 28 => 4
  | 50 => 1
  | 51 => 1
  | 52 => 7
  | 53 => 7
  | 54 => 1
  | t => if t < 44 then 1 else 0
def pm_okv (v : pm_V) : Prop := match v with
  | .inr (.inr (t, k)) => k < pm_cnt t
  | _ => True
def pm_all : List Prop → Prop
  | [] => True
  | p :: ps => p ∧ pm_all ps
theorem pm_all_app {a b : List Prop} (h : pm_all (a ++ b)) : pm_all a ∧ pm_all b := by
  induction a with
  | nil => exact ⟨trivial, h⟩
  | cons p ps ih => exact ⟨⟨h.1, (ih h.2).1⟩, (ih h.2).2⟩
/-- how long an instruction is -/
def pm_len (pc : Nat) (i : Instr) : Nat := match i with
  | .bipush _ => 2
  | .iload _ => 2
  | .lload _ => 2
  | .aload _ => 2
  | .istore _ => 2
  | .lstore _ => 2
  | .astore _ => 2
  | .ldc _ => 2
  | .newarray _ => 2
  | .sipush _ => 3
  | .iinc _ _ => 3
  | .goto _ => 3
  | .ifCond _ _ => 3
  | .if_icmp _ _ => 3
  | .getfield _ => 3
  | .putfield _ => 3
  | .getstatic _ => 3
  | .invokevirtual _ => 3
  | .invokespecial _ => 3
  | .invokestatic _ => 3
  | .ldc_w _ => 3
  | .ldc2_w _ => 3
  | .new _ => 3
  | .anewarray _ => 3
  | .tableswitch _ _ _ offs => 1 + (3 - pc % 4) + 12 + 4 * offs.size
  | .lookupswitch _ ps => 1 + (3 - pc % 4) + 8 + 8 * ps.size
  | _ => 1
-- locals
def pm_clr (ls : pm_L) (k : Nat) : pm_L := match k with
  | 0 => ls
  | j + 1 => match ls[j]? with
    | some (some (.inr (.inl _))) => ls.set j none
    | _ => ls
def pm_st1 (ls : pm_L) (k : Nat) (v : pm_V) : pm_L := (pm_clr ls k).set k (some v)
def pm_st2 (ls : pm_L) (k : Nat) (v : pm_V) : pm_L := ((pm_clr ls k).set k (some v)).set (k + 1) none
def pm_ldi (ls : pm_L) (k : Nat) : Option pm_V := match ls[k]? with
  | some (some (.inl x)) => some (pm_i x)
  | _ => none
def pm_ldl (ls : pm_L) (k : Nat) : Option pm_V := match ls[k]? with
  | some (some (.inr (.inl x))) => some (pm_l x)
  | _ => none
def pm_lda (ls : pm_L) (k : Nat) : Option pm_V := match ls[k]? with
  | some (some (.inr (.inr (t, j)))) => if t = 54 then none else some (pm_r t j)
  | _ => none
-- families of steps
def pm_push (d pc : Nat) (ls : pm_L) (st : List pm_V) (M : pm_M) (v : Option pm_V) : pm_R := match v with
  | some v => some ([], pc + d, ls, v :: st, M)
  | none => none
def pm_sti (d pc : Nat) (ls : pm_L) (st : List pm_V) (M : pm_M) (k : Nat) : pm_R := match st with
  | .inl x :: r => if k < ls.length then some ([], pc + d, pm_st1 ls k (pm_i x), r, M) else none
  | _ => none
def pm_stl (d pc : Nat) (ls : pm_L) (st : List pm_V) (M : pm_M) (k : Nat) : pm_R := match st with
  | .inr (.inl x) :: r => if k + 1 < ls.length then some ([], pc + d, pm_st2 ls k (pm_l x), r, M) else none
  | _ => none
def pm_sta (d pc : Nat) (ls : pm_L) (st : List pm_V) (M : pm_M) (k : Nat) : pm_R := match st with
  | .inr (.inr (t, j)) :: r => if t = 54 then none else if k < ls.length then some ([], pc + d, pm_st1 ls k (pm_r t j), r, M) else none
  | _ => none
def pm_bi (pc : Nat) (ls : pm_L) (st : List pm_V) (M : pm_M) (f : Int32 → Int32 → Int32) : pm_R := match st with
  | .inl y :: .inl x :: r => some ([], pc + 1, ls, pm_i (f x y) :: r, M)
  | _ => none
def pm_bd (pc : Nat) (ls : pm_L) (st : List pm_V) (M : pm_M) (f : Int32 → Int32 → Int32) : pm_R := match st with
  | .inl y :: .inl x :: r => some ([¬ y = 0], pc + 1, ls, pm_i (f x y) :: r, M)
  | _ => none
def pm_bl (pc : Nat) (ls : pm_L) (st : List pm_V) (M : pm_M) (f : Int64 → Int64 → Int64) : pm_R := match st with
  | .inr (.inl y) :: .inr (.inl x) :: r => some ([], pc + 1, ls, pm_l (f x y) :: r, M)
  | _ => none
def pm_bld (pc : Nat) (ls : pm_L) (st : List pm_V) (M : pm_M) (f : Int64 → Int64 → Int64) : pm_R := match st with
  | .inr (.inl y) :: .inr (.inl x) :: r => some ([¬ y = 0], pc + 1, ls, pm_l (f x y) :: r, M)
  | _ => none
def pm_lcmp (pc : Nat) (ls : pm_L) (st : List pm_V) (M : pm_M) : pm_R := match st with
  | .inr (.inl y) :: .inr (.inl x) :: r => some ([], pc + 1, ls, pm_i (lg_cmp x y) :: r, M)
  | _ => none
def pm_ui (pc : Nat) (ls : pm_L) (st : List pm_V) (M : pm_M) (f : Int32 → pm_V) : pm_R := match st with
  | .inl x :: r => some ([], pc + 1, ls, f x :: r, M)
  | _ => none
def pm_ul (pc : Nat) (ls : pm_L) (st : List pm_V) (M : pm_M) (f : Int64 → pm_V) : pm_R := match st with
  | .inr (.inl x) :: r => some ([], pc + 1, ls, f x :: r, M)
  | _ => none
def pm_is1 (v : pm_V) : Bool := match v with
  | .inr (.inl _) => false
  | _ => true
def pm_dup (pc : Nat) (ls : pm_L) (st : List pm_V) (M : pm_M) : pm_R := match st with
  | v :: r => if pm_is1 v = true then some ([], pc + 1, ls, v :: v :: r, M) else none
  | _ => none
def pm_dup2 (pc : Nat) (ls : pm_L) (st : List pm_V) (M : pm_M) : pm_R := match st with
  | v :: w :: r => if (pm_is1 v && pm_is1 w) = true then some ([], pc + 1, ls, v :: w :: v :: w :: r, M) else none
  | _ => none
def pm_pop (pc : Nat) (ls : pm_L) (st : List pm_V) (M : pm_M) : pm_R := match st with
  | v :: r => if pm_is1 v = true then some ([], pc + 1, ls, r, M) else none
  | _ => none
def pm_tg (pc : Nat) (off : Int) : Nat := ((pc : Int) + off).toNat
def pm_if (pc : Nat) (ls : pm_L) (st : List pm_V) (M : pm_M) (off : Int) (f : Int32 → Nat → Nat → Nat) : pm_R := match st with
  | .inl x :: r => if 0 ≤ (pc : Int) + off then some ([], f x (pm_tg pc off) (pc + 3), ls, r, M) else none
  | _ => none
def pm_ic2 (pc : Nat) (ls : pm_L) (st : List pm_V) (M : pm_M) (off : Int) (f : Int32 → Int32 → Nat → Nat → Nat) : pm_R := match st with
  | .inl y :: .inl x :: r => if 0 ≤ (pc : Int) + off then some ([], f x y (pm_tg pc off) (pc + 3), ls, r, M) else none
  | _ => none
/-- a field that a program reads -/
def pm_gf (o idx t k : Nat) (M : pm_M) : Option pm_V := match pm_fl o idx with
  | some (ci, kf) => match pm_sh t with
    | some (.inl (cj, fs)) => if ci = cj then match fs[kf]? with
        | some (0, _, _) => some (pm_i (M.1 t k kf))
        | some (1, _, _) => some (pm_l M.2)
        | some (2, t', b) => some (pm_r t' (b + k))
        | _ => none
      else none
    | _ => none
  | none => if o = 8 ∧ t = 52 then (if idx = 9 then some (pm_r 53 k) else if idx = 15 then some (pm_i 0) else none) else none
def pm_pf (o idx t k : Nat) (v : pm_V) (M : pm_M) : Option pm_M := match pm_fl o idx with
  | some (ci, kf) => match pm_sh t with
    | some (.inl (cj, fs)) => if ci = cj then match fs[kf]?, v with
        | some (0, _, _), .inl x => some (pm_set M t k (upd (M.1 t k) kf x))
        | some (1, _, _), .inr (.inl x) => some (M.1, x)
        | _, _ => none
      else none
    | _ => none
  | none => none
def pm_ia (o t k : Nat) (i : Int32) (M : pm_M) : Option (Prop × Int32) := match pm_sh t with
  | some (.inr (.inl (0, n))) => some (vp_in i n, M.1 t k i.toNatClampNeg)
  | some _ => none
  | none => if t = 51 then some (vp_in i 96, pm_ORD i.toNatClampNeg) else if t = 50 ∧ o = 7 then some (vp_in i (M.1 49 0 0).toNatClampNeg, M.1 50 0 i.toNatClampNeg) else none
def pm_ba (t k : Nat) (i : Int32) (M : pm_M) : Option (Prop × Int32) := match pm_sh t with
  | some (.inr (.inl (1, n))) => some (vp_in i n, M.1 t k i.toNatClampNeg)
  | some (.inr (.inl (2, n))) => some (vp_in i n, M.1 t k i.toNatClampNeg)
  | some _ => none
  | none => if t = 53 then some (vp_in i (pm_slen.getD k 0), (pm_sby.getD k []).getD i.toNatClampNeg 0) else none
def pm_al (o t k : Nat) (M : pm_M) : Option Int32 := match pm_sh t with
  | some (.inr (.inl (_, n))) => some (Int32.ofNat n)
  | some (.inr (.inr (_, n, _, _))) => some (Int32.ofNat n)
  | some _ => none
  | none => if t = 51 then some 96 else if t = 53 then some (Int32.ofNat (pm_slen.getD k 0)) else if t = 50 ∧ o = 7 then some (M.1 49 0 0) else none
def pm_gs (o idx : Nat) : Option pm_V := if o = 0 ∧ idx = 87 then some (pm_r 51 0) else if o = 8 ∧ idx = 38 then some (pm_i 1) else if o = 8 ∧ idx = 1053 then some (pm_r 54 0) else none
def pm_ldc (o idx : Nat) : Option pm_V := match pm_ic o idx with
  | some v => some (pm_i v)
  | none => if o = 3 then (pm_six.findIdx? (fun j => j == idx)).map (fun j => pm_r 52 j) else none
/-- a step of an instruction that calls nothing: what must hold for it, and the next state -/
def pm_step (o : Nat) (i : Instr) (pc : Nat) (ls : pm_L) (st : List pm_V) (M : pm_M) : pm_R := match i with
  | .iconst z => some ([], pc + 1, ls, pm_i (Int32.ofInt z) :: st, M)
  | .bipush z => some ([], pc + 2, ls, pm_i (Int8.ofInt z).toInt32 :: st, M)
  | .sipush z => some ([], pc + 3, ls, pm_i (Int16.ofInt z).toInt32 :: st, M)
  | .lconst z => some ([], pc + 1, ls, pm_l (Int64.ofNat (z : Nat)) :: st, M)
  | .iload_n k => pm_push 1 pc ls st M (pm_ldi ls k)
  | .iload k => pm_push 2 pc ls st M (pm_ldi ls k)
  | .lload_n k => pm_push 1 pc ls st M (pm_ldl ls k)
  | .lload k => pm_push 2 pc ls st M (pm_ldl ls k)
  | .aload_n k => pm_push 1 pc ls st M (pm_lda ls k)
  | .aload k => pm_push 2 pc ls st M (pm_lda ls k)
  | .istore_n k => pm_sti 1 pc ls st M k
  | .istore k => pm_sti 2 pc ls st M k
  | .lstore_n k => pm_stl 1 pc ls st M k
  | .lstore k => pm_stl 2 pc ls st M k
  | .astore_n k => pm_sta 1 pc ls st M k
  | .astore k => pm_sta 2 pc ls st M k
  | .iinc k z => match ls[k]? with
    | some (some (.inl x)) => some ([], pc + 3, pm_st1 ls k (pm_i (x + Int32.ofInt z)), st, M)
    | _ => none
  | .iadd => pm_bi pc ls st M (fun x y => x + y)
  | .isub => pm_bi pc ls st M (fun x y => x - y)
  | .imul => pm_bi pc ls st M (fun x y => x * y)
  | .iand => pm_bi pc ls st M (fun x y => x &&& y)
  | .ior => pm_bi pc ls st M (fun x y => x ||| y)
  | .ishl => pm_bi pc ls st M (fun x y => x <<< (y &&& 31))
  | .ishr => pm_bi pc ls st M (fun x y => x >>> (y &&& 31))
  | .iushr => pm_bi pc ls st M (fun x y => (x.toUInt32 >>> (y.toUInt32 &&& Int32.toUInt32 31)).toInt32)
  | .idiv => pm_bd pc ls st M (fun x y => x / y)
  | .irem => pm_bd pc ls st M (fun x y => x - x / y * y)
  | .ladd => pm_bl pc ls st M (fun x y => x + y)
  | .lmul => pm_bl pc ls st M (fun x y => x * y)
  | .ldiv => pm_bld pc ls st M (fun x y => x / y)
  | .lrem => pm_bld pc ls st M (fun x y => x - x / y * y)
  | .lcmp => pm_lcmp pc ls st M
  | .ineg => pm_ui pc ls st M (fun x => pm_i (-x))
  | .i2l => pm_ui pc ls st M (fun x => pm_l x.toInt64)
  | .i2b => pm_ui pc ls st M (fun x => pm_i x.toInt8.toInt32)
  | .i2s => pm_ui pc ls st M (fun x => pm_i x.toInt16.toInt32)
  | .i2c => pm_ui pc ls st M (fun x => pm_i (x.toUInt32 % 65536).toInt32)
  | .lneg => pm_ul pc ls st M (fun x => pm_l (-x))
  | .dup => pm_dup pc ls st M
  | .dup2 => pm_dup2 pc ls st M
  | .pop => pm_pop pc ls st M
  | .goto off => if 0 ≤ (pc : Int) + off then some ([], pm_tg pc off, ls, st, M) else none
  | .ifCond .eq off => pm_if pc ls st M off (fun x a b => if x = 0 then a else b)
  | .ifCond .ne off => pm_if pc ls st M off (fun x a b => if x = 0 then b else a)
  | .ifCond .lt off => pm_if pc ls st M off (fun x a b => if x < 0 then a else b)
  | .ifCond .ge off => pm_if pc ls st M off (fun x a b => if 0 ≤ x then a else b)
  | .ifCond .gt off => pm_if pc ls st M off (fun x a b => if 0 < x then a else b)
  | .ifCond .le off => pm_if pc ls st M off (fun x a b => if x ≤ 0 then a else b)
  | .if_icmp .eq off => pm_ic2 pc ls st M off (fun x y a b => if x = y then a else b)
  | .if_icmp .ne off => pm_ic2 pc ls st M off (fun x y a b => if x = y then b else a)
  | .if_icmp .lt off => pm_ic2 pc ls st M off (fun x y a b => if x < y then a else b)
  | .if_icmp .ge off => pm_ic2 pc ls st M off (fun x y a b => if y ≤ x then a else b)
  | .if_icmp .gt off => pm_ic2 pc ls st M off (fun x y a b => if y < x then a else b)
  | .if_icmp .le off => pm_ic2 pc ls st M off (fun x y a b => if x ≤ y then a else b)
  | .getfield idx => match st with
    | .inr (.inr (t, k)) :: r => match pm_gf o idx t k M with
      | some v => some ([], pc + 3, ls, v :: r, M)
      | none => none
    | _ => none
  | .putfield idx => match st with
    | v :: .inr (.inr (t, k)) :: r => match pm_pf o idx t k v M with
      | some M' => some ([], pc + 3, ls, r, M')
      | none => none
    | _ => none
  | .getstatic idx => pm_push 3 pc ls st M (pm_gs o idx)
  | .ldc idx => pm_push 2 pc ls st M (pm_ldc o idx)
  | .ldc_w idx => pm_push 3 pc ls st M ((pm_ic o idx).map (fun x => pm_i x))
  | .ldc2_w idx => pm_push 3 pc ls st M ((pm_lc o idx).map (fun x => pm_l x))
  | .iaload => match st with
    | .inl i :: .inr (.inr (t, k)) :: r => match pm_ia o t k i M with
      | some (c, x) => some ([c], pc + 1, ls, pm_i x :: r, M)
      | none => none
    | _ => none
  | .baload => match st with
    | .inl i :: .inr (.inr (t, k)) :: r => match pm_ba t k i M with
      | some (c, x) => some ([c], pc + 1, ls, pm_i x :: r, M)
      | none => none
    | _ => none
  | .aaload => match st with
    | .inl i :: .inr (.inr (t, _)) :: r => match pm_sh t with
      | some (.inr (.inr (_, n, t', b))) => some ([vp_in i n], pc + 1, ls, pm_r t' (b + i.toNatClampNeg) :: r, M)
      | _ => none
    | _ => none
  | .iastore => match st with
    | .inl x :: .inl i :: .inr (.inr (t, k)) :: r => match pm_sh t with
      | some (.inr (.inl (0, n))) => some ([vp_in i n], pc + 1, ls, r, pm_set M t k (upd (M.1 t k) i.toNatClampNeg x))
      | _ => none
    | _ => none
  | .bastore => match st with
    | .inl x :: .inl i :: .inr (.inr (t, k)) :: r => match pm_sh t with
      | some (.inr (.inl (1, n))) => some ([vp_in i n], pc + 1, ls, r, pm_set M t k (upd (M.1 t k) i.toNatClampNeg (vp_nar .byte x)))
      | some (.inr (.inl (2, n))) => some ([vp_in i n], pc + 1, ls, r, pm_set M t k (upd (M.1 t k) i.toNatClampNeg (vp_nar .boolean x)))
      | _ => none
    | _ => none
  | .arraylength => match st with
    | .inr (.inr (t, k)) :: r => match pm_al o t k M with
      | some x => some ([], pc + 1, ls, pm_i x :: r, M)
      | none => none
    | _ => none
  | _ => none
def pm_tab (mi : pm_MI) (pc : Nat) : Option Instr := (mi.2.2.2.2.2.1.find? (fun e => e.1 == pc)).map (fun e => e.2)
/-- n steps, and what must hold for them -/
def pm_run (mi : pm_MI) : Nat → Nat → pm_L → List pm_V → pm_M → pm_R
  | 0, pc, ls, st, M => some ([], pc, ls, st, M)
  | n + 1, pc, ls, st, M => match pm_tab mi pc with
    | some i => match pm_step mi.1 i pc ls st M with
      | some (c, pc1, ls1, st1, M1) => match pm_run mi n pc1 ls1 st1 M1 with
        | some (c2, s2) => some (c ++ c2, s2)
        | none => none
      | none => none
    | none => none
end
section
/-! the world of the pure machine in the heap -/
def pm_fv (E : pm_E) (M : pm_M) (t k i : Nat) (f : Nat × Nat × Nat) : Value := match f with
  | (0, _, _) => .int (M.1 t k i)
  | (1, _, _) => .long M.2
  | (_, t', b) => .ref (E.1 t' (b + k))
def pm_ent (E : pm_E) (M : pm_M) (t k : Nat) : va_E := match pm_sh t with
  | some (.inl (ci, fs)) => .inr (ci, fs.mapIdx (fun i f => pm_fv E M t k i f))
  | some (.inr (.inl (ty, n))) => .inl (E.2.2 ty, n, .inl (M.1 t k))
  | some (.inr (.inr (ty, n, t', b))) => .inl (E.2.2 ty, n, .inr (.inr (.inr (.inr (fun i => some (E.1 t' (b + i)))))))
  | none => .inl (E.2.2 0, 0, .inl (fun _ => 0))
def pm_cells : List (Nat × Nat) := (List.range 44).flatMap (fun t => (List.range (pm_cnt t)).map (fun k => (t, k)))
def pm_wl (E : pm_E) (M : pm_M) : va_W := pm_cells.map (fun q => (E.1 q.1 q.2, pm_ent E M q.1 q.2))
theorem pm_cells_in {t k : Nat} (ht : t < 44) (hk : k < pm_cnt t) : (t, k) ∈ pm_cells := by
  unfold pm_cells
  rw [List.mem_flatMap]
  exact ⟨t, List.mem_range.mpr ht, List.mem_map.mpr ⟨k, List.mem_range.mpr hk, rfl⟩⟩
theorem pm_cells_nd : pm_cells.Nodup := by decide +kernel
theorem pm_sh_lt {t : Nat} {x : (Nat × List (Nat × Nat × Nat)) ⊕ ((Nat × Nat) ⊕ (Nat × Nat × Nat × Nat))} (h : pm_sh t = some x) : t < 44 := by
  apply Nat.lt_of_not_le
  intro h9
  obtain ⟨j, rfl⟩ := Nat.exists_eq_add_of_le h9
  rw [Nat.add_comm] at h
  simp [pm_sh] at h
/-- a cell of the world, and what a write to it alone makes of the world -/
theorem pm_at (E : pm_E) (M : pm_M) {t k : Nat} (ht : t < 44) (hk : k < pm_cnt t) : ∃ j, (pm_wl E M)[j]? = some (E.1 t k, pm_ent E M t k) ∧ ∀ M' : pm_M, (∀ q ∈ pm_cells, q ≠ (t, k) → pm_ent E M' q.1 q.2 = pm_ent E M q.1 q.2) → (pm_wl E M).set j (E.1 t k, pm_ent E M' t k) = pm_wl E M' := by
  obtain ⟨j, hj⟩ := List.getElem?_of_mem (pm_cells_in ht hk)
  refine ⟨j, by simp [pm_wl, hj], fun M' h => ?_⟩
  apply List.ext_getElem?
  intro i
  rw [List.getElem?_set]
  by_cases hij : j = i
  · subst hij
    rw [if_pos rfl]
    have hlt : j < pm_cells.length := (List.getElem?_eq_some_iff.mp hj).1
    rw [if_pos (by simp [pm_wl]; exact hlt)]
    simp [pm_wl, hj]
  · rw [if_neg hij]
    simp only [pm_wl, List.getElem?_map]
    cases hc : pm_cells[i]? with
    | none => rfl
    | some q =>
      have hne : q ≠ (t, k) := fun e => by
        subst e
        exact hij ((List.getElem?_inj (List.getElem?_eq_some_iff.mp hj).1 pm_cells_nd).mp (hj.trans hc.symm))
      simp only [Option.map_some]
      rw [h q (List.mem_of_getElem? hc) hne]
theorem pm_ent_eq {E : pm_E} {M M' : pm_M} {t k : Nat} (h1 : M'.1 t k = M.1 t k) (h2 : M'.2 = M.2) : pm_ent E M' t k = pm_ent E M t k := by
  unfold pm_ent
  split
  · congr 3
    funext i f
    unfold pm_fv
    split <;> simp [h1, h2]
  · rw [h1]
  · rfl
  · rfl
theorem pm_ent_set {E : pm_E} {M : pm_M} {t k : Nat} {f : Nat → Int32} : ∀ q ∈ pm_cells, q ≠ (t, k) → pm_ent E (pm_set M t k f) q.1 q.2 = pm_ent E M q.1 q.2 := by
  intro q _ hne
  refine pm_ent_eq ?_ rfl
  have : ¬ (q.1 = t ∧ q.2 = k) := fun h => hne (by obtain ⟨a, b⟩ := q; simp_all)
  simp [pm_set, this]
theorem pm_set_at (M : pm_M) (t k : Nat) (f : Nat → Int32) : (pm_set M t k f).1 t k = f := by simp [pm_set]
theorem pm_addr (E : pm_E) (M M' : pm_M) (j : Nat) : ((pm_wl E M)[j]?).map (fun q => q.1) = ((pm_wl E M')[j]?).map (fun q => q.1) := by
  simp only [pm_wl, List.getElem?_map]
  cases pm_cells[j]? <;> rfl
theorem pm_D_any {E : pm_E} {M M' : pm_M} {A : Nat → Prop} (h : va_D A (pm_wl E M)) : va_D A (pm_wl E M') := by
  have tr : ∀ (j : Nat) (q : Nat × va_E), (pm_wl E M')[j]? = some q → ∃ q', (pm_wl E M)[j]? = some q' ∧ q'.1 = q.1 := by
    intro j q hq
    have := pm_addr E M M' j
    rw [hq] at this
    simp only [Option.map_some] at this
    exact Option.map_eq_some_iff.mp this
  refine ⟨fun i j p q hp hq e => ?_, fun k q hq => ?_⟩
  · obtain ⟨p', hp', ep⟩ := tr i p hp
    obtain ⟨q', hq', eq⟩ := tr j q hq
    exact h.1 i j p' q' hp' hq' (by rw [ep, eq, e])
  · obtain ⟨q', hq', eq⟩ := tr k q hq
    rw [← eq]
    exact h.2 k q' hq'
/-- the places that a method may write: the world's cells, and what is new -/
def pm_A (E : pm_E) (sz : Nat) : Nat → Prop := fun q => (∃ c ∈ pm_cells, q = E.1 c.1 c.2) ∨ sz ≤ q
theorem pm_D_A {E : pm_E} {M : pm_M} {A : Nat → Prop} {sz : Nat} (h : va_D A (pm_wl E M)) : va_D (pm_A E sz) (pm_wl E M) := by
  refine ⟨h.1, fun k q hq => Or.inl ?_⟩
  simp only [pm_wl, List.getElem?_map] at hq
  obtain ⟨c, h1, h2⟩ := Option.map_eq_some_iff.mp hq
  exact ⟨c, List.mem_of_getElem? h1, by rw [← h2]⟩
theorem pm_A_in {E : pm_E} {M : pm_M} {A : Nat → Prop} {c : Nat × Nat} (h : va_D A (pm_wl E M)) (hc : c ∈ pm_cells) : A (E.1 c.1 c.2) := by
  obtain ⟨j, hj⟩ := List.getElem?_of_mem hc
  exact h.2 j _ (by simp [pm_wl, hj]; rfl)
def pm_tys (E : pm_E) : List (ClassId × FieldType) := [(E.2.2 0, .int), (E.2.2 1, .byte), (E.2.2 2, .boolean), (E.2.2 3, .object "WheelTickets$Wheel"), (E.2.2 4, .object "WheelTickets$Sheet")]
/-- what stands in the machine's statics and constants, outside of what is written -/
def pm_St (E : pm_E) (A : Nat → Prop) (U : State) (H : Heap) : Prop :=
  (∀ w ∈ pm_nw, va_Nw w U) ∧ va_Z "WheelTickets" "ORDERS" "[I" (.ref (E.1 51 0)) A U H ∧ va_T .int (E.1 51 0) 96 (fun j => .int (pm_ORD j)) A U H ∧ va_Z "java/lang/String" "COMPACT_STRINGS" "Z" (.int 1) A U H ∧ va_Z "jdk/internal/util/Preconditions" "SIOOBE_FORMATTER" "Ljava/util/function/BiFunction;" E.2.1 A U H ∧ (E.2.1 = .null ∨ ∃ t, E.2.1 = .ref t) ∧ vk_S 7 pm_slen pm_sby (E.1 52) (E.1 53) A U H ∧ ∀ i, i < 7 → vk_R "WheelTickets$Teller" (pm_six.getD i 0) (pm_strs.getD i "") (E.1 52 i) U
theorem pm_nw_warm {s U : State} (hW : s.WarmedH U.vm) (h : ∀ w ∈ pm_nw, va_Nw w s) : ∀ w ∈ pm_nw, va_Nw w U := by
  intro w hw
  have h1 := h w hw
  simp only [pm_nw, List.mem_cons, List.not_mem_nil, or_false] at hw
  rcases hw with rfl | rfl | rfl | rfl | rfl | rfl | rfl | rfl | rfl
  all_goals first | exact va_Nw.warmM hW h1 | exact va_Nw.warmF hW h1
theorem pm_St.warm {E : pm_E} {A : Nat → Prop} {s U : State} {H : Heap} (hW : s.WarmedH U.vm) (h : pm_St E A s H) : pm_St E A U H := by
  obtain ⟨h1, h2, h3, h4, h5, h6, h7, h8⟩ := h
  exact ⟨pm_nw_warm hW h1, h2.moved hW.alike, h3.moved hW.alike, h4.moved hW.alike, h5.moved hW.alike, h6, h7.moved hW.alike, fun i hi => (h8 i hi).warm hW⟩
theorem pm_St.kept {E : pm_E} {A : Nat → Prop} {U : State} {H H1 : Heap} (h : pm_St E A U H) (hq : ∀ a : Nat, a < H.size → ¬ A a → H1[a]? = H[a]?) : pm_St E A U H1 := by
  obtain ⟨h1, h2, h3, h4, h5, h6, h7, h8⟩ := h
  exact ⟨h1, h2.kept hq, h3.kept hq, h4.kept hq, h5.kept hq, h6, h7.kept hq, h8⟩
theorem pm_St.narrow {E : pm_E} {A B : Nat → Prop} {U : State} {H : Heap} (h : pm_St E A U H) (hAB : ∀ q, B q → A q) : pm_St E B U H := by
  obtain ⟨h1, h2, h3, h4, h5, h6, h7, h8⟩ := h
  exact ⟨h1, h2.narrow hAB, h3.narrow hAB, h4.narrow hAB, h5.narrow hAB, h6, h7.narrow hAB, h8⟩
theorem pm_St.blind {E : pm_E} {A : Nat → Prop} {s : State} {H : Heap} (g : JFrame) (mk : MethodId) (a : Array Value) (h : pm_St E A s H) : pm_St E A (s.calling g mk a) H := by
  obtain ⟨h1, h2, h3, h4, h5, h6, h7, h8⟩ := h
  have al : s.vm.Alike (s.calling g mk a).vm := Vm.Alike.refl s.vm
  refine ⟨fun w hw => ?_, h2.moved al, h3.moved al, h4.moved al, h5.moved al, h6, h7.moved al, fun i hi => (h8 i hi).same rfl⟩
  have h9 := h1 w hw
  refine va_Nw.same (u := s) (U := s.calling g mk a) ?_ rfl h9
  simp only [pm_nw, List.mem_cons, List.not_mem_nil, or_false] at hw
  rcases hw with rfl | rfl | rfl | rfl | rfl | rfl | rfl | rfl | rfl <;> rfl
-- the method's table
def pm_ok (mi : pm_MI) : Prop := (∀ e ∈ mi.2.2.2.2.2.1, decode mi.2.2.1 e.1 = .ok (e.2, pm_len e.1 e.2)) ∧ Cond.code mi.2.1 mi.2.2.1 mi.2.2.2.1 mi.2.2.2.2.1 ∈ pm_gw
theorem pm_tab_ok {mi : pm_MI} (h : pm_ok mi) {pc : Nat} {i : Instr} (ht : pm_tab mi pc = some i) : decode mi.2.2.1 pc = .ok (i, pm_len pc i) := by
  unfold pm_tab at ht
  obtain ⟨e, h1, h2⟩ := Option.map_eq_some_iff.mp ht
  have h3 := List.find?_some h1
  simp only [beq_iff_eq] at h3
  subst h3; subst h2
  exact h.1 e (List.mem_of_find?_eq_some h1)
/-- what is fixed while a method runs -/
def pm_Cx (mi : pm_MI) (p : Program) (R : Room) (s : State) (m : MethodId) (args : Array Value) (c : Code) (cells slots : Nat) (D : va_G) (E : pm_E) (A : Nat → Prop) (xs : Nat → Int32) (L : Int32) : Prop :=
  p.tables.exec = Jvm.exec ∧ c.code = mi.2.2.1 ∧ c.maxLocals = mi.2.2.2.1 ∧ s.vm.findClass (pm_RN mi.1) = some m.cls ∧ (∀ w ∈ pm_gw, w.before args s = true) ∧ va_K D pm_cl (pm_tys E) s ∧ pm_St E A s s.heap ∧ (mi.2.2.2.2.2.2.1 ≤ R.frames ∧ mi.2.2.2.2.2.2.2 ≤ R.locals ∧ cells ≤ R.cells ∧ slots ≤ R.slots) ∧ (∀ q, s.heap.size ≤ q → A q) ∧ (mi.1 = 7 → va_X (E.1 50 0) L.toNatClampNeg xs s s.heap ∧ E.1 50 0 < s.heap.size ∧ ¬ A (E.1 50 0) ∧ Int32.ofNat L.toNatClampNeg = L)
/-- the heap holds a memory -/
def pm_Wd (D : va_G) (E : pm_E) (A : Nat → Prop) (s : State) (xs : Nat → Int32) (L : Int32) (M : pm_M) (H : Heap) (locs : List Loc) : Prop :=
  va_P D pm_cl (pm_wl E M) H ∧ va_D A (pm_wl E M) ∧ va_S A s.heap H locs ∧ M.1 50 0 = xs ∧ M.1 49 0 0 = L
/-- the frame's locals and stack -/
def pm_Fr (nL : Nat) (E : pm_E) (LS : Array Slot) (ls : pm_L) (st : List pm_V) : Prop :=
  LS.size = nL ∧ lv_wf LS ∧ ls.length = nL ∧ (∀ (i : Nat) (v : pm_V), ls[i]? = some (some v) → LS[i]? = some (.val (pm_cv E v)) ∧ pm_okv v) ∧ ∀ v ∈ st, pm_okv v
end
section
/-! each step of the pure machine is a step of the machine -/
def pm_J (p : Program) (l : Launch) (e : Env) (R : Room) (s : State) (m : MethodId) (args : Array Value) (below : List Frame) (meth : Method) (c : Code) (cells slots : Nat) (Z : State → Prop) (D : va_G) (E : pm_E) (A : Nat → Prop) (xs : Nat → Int32) (L : Int32) (nL : Nat) (pc : Nat) (ls : pm_L) (st : List pm_V) (M : pm_M) : Prop :=
  ∀ (H : Heap) (locs : List Loc) (LS : Array Slot), pm_Wd D E A s xs L M H locs → pm_Fr nL E LS ls st → W p l e R s m args below meth c H locs cells slots Z (F0 m pc LS (st.map (pm_cv E)))
theorem pm_Fr.stk {nL : Nat} {E : pm_E} {LS : Array Slot} {ls : pm_L} {st st' : List pm_V} (h : pm_Fr nL E LS ls st) (hs : ∀ v ∈ st', pm_okv v) : pm_Fr nL E LS ls st' := ⟨h.1, h.2.1, h.2.2.1, h.2.2.2.1, hs⟩
theorem pm_Fr.ok {nL : Nat} {E : pm_E} {LS : Array Slot} {ls : pm_L} {st : List pm_V} (h : pm_Fr nL E LS ls st) : ∀ v ∈ st, pm_okv v := h.2.2.2.2
theorem pm_ok_c {v : pm_V} {r : List pm_V} (h : pm_okv v) (hr : ∀ w ∈ r, pm_okv w) : ∀ w ∈ v :: r, pm_okv w := fun w hw => (List.mem_cons.mp hw).elim (fun q => q ▸ h) (hr w)
theorem pm_ok_t {v : pm_V} {r : List pm_V} (h : ∀ w ∈ v :: r, pm_okv w) : ∀ w ∈ r, pm_okv w := fun w hw => h w (List.mem_cons_of_mem _ hw)
theorem pm_ok_h {v : pm_V} {r : List pm_V} (h : ∀ w ∈ v :: r, pm_okv w) : pm_okv v := h v List.mem_cons_self
theorem pm_cv_r {E : pm_E} {t k : Nat} (h : t ≠ 54) : pm_cv E (pm_r t k) = .ref (E.1 t k) := by simp [pm_cv, h]
theorem pm_cat {E : pm_E} (hE : E.2.1.category = 1) {v : pm_V} (h : pm_is1 v = true) : (pm_cv E v).category = 1 := by
  rcases v with x | x | ⟨t, k⟩
  · rfl
  · cases h
  · unfold pm_cv
    by_cases h9 : t = 54
    · simp [h9, hE]
    · simp [h9, Value.category]
def pm_as (E : pm_E) (ls : pm_L) : List (Nat × Value) := (List.range ls.length).filterMap (fun i => match ls[i]? with
  | some (some v) => some (i, pm_cv E v)
  | _ => none)
theorem pm_as_in {E : pm_E} {ls : pm_L} {i : Nat} {v : pm_V} (h : ls[i]? = some (some v)) : (i, pm_cv E v) ∈ pm_as E ls := by
  unfold pm_as
  rw [List.mem_filterMap]
  exact ⟨i, List.mem_range.mpr (List.getElem?_eq_some_iff.mp h).1, by simp [h]⟩
theorem pm_as_out {E : pm_E} {ls : pm_L} {q : Nat × Value} (h : q ∈ pm_as E ls) : ∃ v, ls[q.1]? = some (some v) ∧ q.2 = pm_cv E v := by
  unfold pm_as at h
  rw [List.mem_filterMap] at h
  obtain ⟨i, hi, h⟩ := h
  split at h
  · rename_i v hv
    cases h
    exact ⟨v, hv, rfl⟩
  · cases h
theorem pm_Fr.has {nL : Nat} {E : pm_E} {LS : Array Slot} {ls : pm_L} {st : List pm_V} (h : pm_Fr nL E LS ls st) : lv_has LS nL (pm_as E ls) := by
  refine ⟨h.1, h.2.1, fun q hq => ?_⟩
  obtain ⟨v, h1, h2⟩ := pm_as_out hq
  rw [h2]
  exact (h.2.2.2.1 _ _ h1).1
theorem pm_clr_len (ls : pm_L) (k : Nat) : (pm_clr ls k).length = ls.length := by
  unfold pm_clr
  split
  · rfl
  · split <;> simp
theorem pm_clr_get {ls : pm_L} {k i : Nat} {w : pm_V} (h : (pm_clr ls k)[i]? = some (some w)) : ls[i]? = some (some w) ∧ (i + 1 = k → pm_is1 w = true) := by
  unfold pm_clr at h
  split at h
  · exact ⟨h, fun q => by omega⟩
  · rename_i j
    split at h
    · rename_i x hx
      rw [List.getElem?_set] at h
      by_cases hij : j = i
      · subst hij
        simp at h
      · rw [if_neg hij] at h
        exact ⟨h, fun q => by omega⟩
    · rename_i hn
      refine ⟨h, fun q => ?_⟩
      have e : j = i := by omega
      subst e
      rcases w with x | x | y
      · rfl
      · exact absurd h (hn x)
      · rfl
theorem pm_Fr.st1 {nL : Nat} {E : pm_E} {LS LS' : Array Slot} {ls : pm_L} {st st' : List pm_V} {k : Nat} {v : pm_V} (hE : E.2.1.category = 1) (hF : pm_Fr nL E LS ls st) (hv : pm_okv v) (hl : lv_has LS' nL ((k, pm_cv E v) :: (pm_as E ls).filter (fun q => !(q.1 == k) && !(q.1 + 1 == k && q.2.category == 2)))) (hst : ∀ w ∈ st', pm_okv w) : pm_Fr nL E LS' (pm_st1 ls k v) st' := by
  refine ⟨hl.1, hl.2.1, by simp [pm_st1, pm_clr_len, hF.2.2.1], fun i w hw => ?_, hst⟩
  unfold pm_st1 at hw
  rw [List.getElem?_set] at hw
  by_cases hik : k = i
  · subst hik
    rw [if_pos rfl] at hw
    split at hw
    · cases hw
      exact ⟨hl.2.2 (k, pm_cv E v) List.mem_cons_self, hv⟩
    · cases hw
  · rw [if_neg hik] at hw
    obtain ⟨h1, h2⟩ := pm_clr_get hw
    refine ⟨hl.2.2 (i, pm_cv E w) (List.mem_cons_of_mem _ (List.mem_filter.mpr ⟨pm_as_in h1, ?_⟩)), (hF.2.2.2.1 i w h1).2⟩
    by_cases h3 : i + 1 = k
    · simp [Ne.symm hik, pm_cat hE (h2 h3)]
    · simp [Ne.symm hik, h3]
theorem pm_Fr.st2 {nL : Nat} {E : pm_E} {LS LS' : Array Slot} {ls : pm_L} {st st' : List pm_V} {k : Nat} {v : pm_V} (hE : E.2.1.category = 1) (hF : pm_Fr nL E LS ls st) (hv : pm_okv v) (hl : lv_has LS' nL ((k, pm_cv E v) :: (pm_as E ls).filter (fun q => !(q.1 == k) && (!(q.1 == k + 1) && !(q.1 + 1 == k && q.2.category == 2))))) (hst : ∀ w ∈ st', pm_okv w) : pm_Fr nL E LS' (pm_st2 ls k v) st' := by
  refine ⟨hl.1, hl.2.1, by simp [pm_st2, pm_clr_len, hF.2.2.1], fun i w hw => ?_, hst⟩
  unfold pm_st2 at hw
  rw [List.getElem?_set] at hw
  by_cases hik1 : k + 1 = i
  · subst hik1
    rw [if_pos rfl] at hw
    split at hw <;> cases hw
  rw [if_neg hik1, List.getElem?_set] at hw
  by_cases hik : k = i
  · subst hik
    rw [if_pos rfl] at hw
    split at hw
    · cases hw
      exact ⟨hl.2.2 (k, pm_cv E v) List.mem_cons_self, hv⟩
    · cases hw
  · rw [if_neg hik] at hw
    obtain ⟨h1, h2⟩ := pm_clr_get hw
    refine ⟨hl.2.2 (i, pm_cv E w) (List.mem_cons_of_mem _ (List.mem_filter.mpr ⟨pm_as_in h1, ?_⟩)), (hF.2.2.2.1 i w h1).2⟩
    by_cases h3 : i + 1 = k
    · simp [Ne.symm hik, Ne.symm hik1, pm_cat hE (h2 h3)]
    · simp [Ne.symm hik, Ne.symm hik1, h3]
-- what the kinds' table says
def pm_chk (t : Nat) : Bool := match pm_sh t with
  | some (.inl (ci, fs)) => decide (ci < 7) && decide (fs.length = pm_NN ci) && fs.zipIdx.all (fun q => match q.1 with
    | (0, _, _) => decide (pm_tN ci q.2 = .int) && !(pm_TN ci q.2).2.2.2
    | (1, _, _) => decide (pm_tN ci q.2 = .long) && !(pm_TN ci q.2).2.2.2 && decide (t = 29)
    | (_, t', b) => decide (b + pm_cnt t ≤ pm_cnt t') && decide (t' < 44))
  | some (.inr (.inl (ty, n))) => decide (ty < 3) && decide (n < 1000)
  | some (.inr (.inr (ty, n, t', b))) => decide (b + n ≤ pm_cnt t') && decide (t' < 44) && decide (ty = 3 ∨ ty = 4)
  | none => false
theorem pm_chks : ∀ t, t < 44 → pm_chk t = true := by decide +kernel
theorem pm_obj {t ci : Nat} {fs : List (Nat × Nat × Nat)} (h : pm_sh t = some (.inl (ci, fs))) : ci < 7 ∧ fs.length = pm_NN ci ∧ (∀ (i y z : Nat), fs[i]? = some (0, y, z) → pm_tN ci i = .int ∧ (pm_TN ci i).2.2.2 = false) ∧ (∀ (i y z : Nat), fs[i]? = some (1, y, z) → pm_tN ci i = .long ∧ (pm_TN ci i).2.2.2 = false ∧ t = 29) ∧ ∀ (i y z : Nat), fs[i]? = some (2, y, z) → z + pm_cnt t ≤ pm_cnt y ∧ y < 44 := by
  have h0 := pm_chks t (pm_sh_lt h)
  unfold pm_chk at h0
  rw [h] at h0
  simp only [Bool.and_eq_true, decide_eq_true_eq, List.all_eq_true] at h0
  obtain ⟨⟨h1, h2⟩, h3⟩ := h0
  have hz : ∀ (i : Nat) (f : Nat × Nat × Nat), fs[i]? = some f → (f, i) ∈ fs.zipIdx := fun i f hf => by
    have := List.mem_zipIdx_iff_getElem? (x := (f, i)) (l := fs)
    exact this.mpr hf
  refine ⟨h1, h2, fun i y z hf => ?_, fun i y z hf => ?_, fun i y z hf => ?_⟩
  · have := h3 _ (hz i _ hf)
    simpa using this
  · have := h3 _ (hz i _ hf)
    simpa [and_assoc] using this
  · have := h3 _ (hz i _ hf)
    simpa using this
theorem pm_arr {t ty n t' b : Nat} (h : pm_sh t = some (.inr (.inr (ty, n, t', b)))) : b + n ≤ pm_cnt t' ∧ t' < 44 ∧ (ty = 3 ∨ ty = 4) := by
  have h0 := pm_chks t (pm_sh_lt h)
  unfold pm_chk at h0
  rw [h] at h0
  simp only [Bool.and_eq_true, decide_eq_true_eq] at h0
  exact ⟨h0.1.1, h0.1.2, h0.2⟩
theorem pm_in_lt {i : Int32} {n : Nat} (h : vp_in i n) : i.toNatClampNeg < n := Nat.not_le.mp fun q => h (Or.inr q)
end
section
section PmS
variable {p : Program} {l : Launch} {e : Env} {R : Room} {s : State} {m : MethodId} {args : Array Value} {below : List Frame} {meth : Method} {c : Code} {cells slots : Nat} {Z : State → Prop} {D : va_G} {E : pm_E} {A : Nat → Prop} {xs : Nat → Int32} {L : Int32} {nL : Nat} {pc : Nat} {ls : pm_L} {st : List pm_V} {M : pm_M} {cs : List Prop} {s' : pm_S}
theorem pm_s_push {d : Nat} {v : Option pm_V} (hv : ∀ (w : pm_V), v = some w → ∀ (H : Heap) (locs : List Loc) (LS : Array Slot) (r : List Value), pm_Wd D E A s xs L M H locs → pm_Fr nL E LS ls st → pm_okv w ∧ (W p l e R s m args below meth c H locs cells slots Z (F0 m (pc + d) LS (pm_cv E w :: r)) → W p l e R s m args below meth c H locs cells slots Z (F0 m pc LS r)))
    (hs : pm_push d pc ls st M v = some (cs, s')) (kk : pm_J p l e R s m args below meth c cells slots Z D E A xs L nL s'.1 s'.2.1 s'.2.2.1 s'.2.2.2) : pm_J p l e R s m args below meth c cells slots Z D E A xs L nL pc ls st M := by
  unfold pm_push at hs
  split at hs
  · rename_i w
    cases hs
    intro H locs LS hW hF
    obtain ⟨h1, h2⟩ := hv w rfl H locs LS (st.map (pm_cv E)) hW hF
    exact h2 (kk H locs LS hW (hF.stk (pm_ok_c h1 hF.ok)))
  · cases hs
theorem pm_s_bi {f : Int32 → Int32 → Int32} (row : ∀ (H : Heap) (locs : List Loc) (LS : Array Slot) (x y : Int32) (r : List Value), W p l e R s m args below meth c H locs cells slots Z (F0 m (pc + 1) LS (.int (f x y) :: r)) → W p l e R s m args below meth c H locs cells slots Z (F0 m pc LS (.int y :: .int x :: r)))
    (hs : pm_bi pc ls st M f = some (cs, s')) (kk : pm_J p l e R s m args below meth c cells slots Z D E A xs L nL s'.1 s'.2.1 s'.2.2.1 s'.2.2.2) : pm_J p l e R s m args below meth c cells slots Z D E A xs L nL pc ls st M := by
  unfold pm_bi at hs
  split at hs
  · cases hs
    intro H locs LS hW hF
    exact row H locs LS _ _ _ (kk H locs LS hW (hF.stk (pm_ok_c trivial (pm_ok_t (pm_ok_t hF.ok)))))
  · cases hs
theorem pm_s_bd {f : Int32 → Int32 → Int32} (row : ∀ (H : Heap) (locs : List Loc) (LS : Array Slot) (x y : Int32) (r : List Value), ¬ y = 0 → W p l e R s m args below meth c H locs cells slots Z (F0 m (pc + 1) LS (.int (f x y) :: r)) → W p l e R s m args below meth c H locs cells slots Z (F0 m pc LS (.int y :: .int x :: r)))
    (hs : pm_bd pc ls st M f = some (cs, s')) (hc : pm_all cs) (kk : pm_J p l e R s m args below meth c cells slots Z D E A xs L nL s'.1 s'.2.1 s'.2.2.1 s'.2.2.2) : pm_J p l e R s m args below meth c cells slots Z D E A xs L nL pc ls st M := by
  unfold pm_bd at hs
  split at hs
  · cases hs
    intro H locs LS hW hF
    exact row H locs LS _ _ _ hc.1 (kk H locs LS hW (hF.stk (pm_ok_c trivial (pm_ok_t (pm_ok_t hF.ok)))))
  · cases hs
theorem pm_s_bl {f : Int64 → Int64 → Int64} (row : ∀ (H : Heap) (locs : List Loc) (LS : Array Slot) (x y : Int64) (r : List Value), W p l e R s m args below meth c H locs cells slots Z (F0 m (pc + 1) LS (.long (f x y) :: r)) → W p l e R s m args below meth c H locs cells slots Z (F0 m pc LS (.long y :: .long x :: r)))
    (hs : pm_bl pc ls st M f = some (cs, s')) (kk : pm_J p l e R s m args below meth c cells slots Z D E A xs L nL s'.1 s'.2.1 s'.2.2.1 s'.2.2.2) : pm_J p l e R s m args below meth c cells slots Z D E A xs L nL pc ls st M := by
  unfold pm_bl at hs
  split at hs
  · cases hs
    intro H locs LS hW hF
    exact row H locs LS _ _ _ (kk H locs LS hW (hF.stk (pm_ok_c trivial (pm_ok_t (pm_ok_t hF.ok)))))
  · cases hs
theorem pm_s_bld {f : Int64 → Int64 → Int64} (row : ∀ (H : Heap) (locs : List Loc) (LS : Array Slot) (x y : Int64) (r : List Value), ¬ y = 0 → W p l e R s m args below meth c H locs cells slots Z (F0 m (pc + 1) LS (.long (f x y) :: r)) → W p l e R s m args below meth c H locs cells slots Z (F0 m pc LS (.long y :: .long x :: r)))
    (hs : pm_bld pc ls st M f = some (cs, s')) (hc : pm_all cs) (kk : pm_J p l e R s m args below meth c cells slots Z D E A xs L nL s'.1 s'.2.1 s'.2.2.1 s'.2.2.2) : pm_J p l e R s m args below meth c cells slots Z D E A xs L nL pc ls st M := by
  unfold pm_bld at hs
  split at hs
  · cases hs
    intro H locs LS hW hF
    exact row H locs LS _ _ _ hc.1 (kk H locs LS hW (hF.stk (pm_ok_c trivial (pm_ok_t (pm_ok_t hF.ok)))))
  · cases hs
theorem pm_s_lcmp (row : ∀ (H : Heap) (locs : List Loc) (LS : Array Slot) (x y : Int64) (r : List Value), W p l e R s m args below meth c H locs cells slots Z (F0 m (pc + 1) LS (.int (lg_cmp x y) :: r)) → W p l e R s m args below meth c H locs cells slots Z (F0 m pc LS (.long y :: .long x :: r)))
    (hs : pm_lcmp pc ls st M = some (cs, s')) (kk : pm_J p l e R s m args below meth c cells slots Z D E A xs L nL s'.1 s'.2.1 s'.2.2.1 s'.2.2.2) : pm_J p l e R s m args below meth c cells slots Z D E A xs L nL pc ls st M := by
  unfold pm_lcmp at hs
  split at hs
  · cases hs
    intro H locs LS hW hF
    exact row H locs LS _ _ _ (kk H locs LS hW (hF.stk (pm_ok_c trivial (pm_ok_t (pm_ok_t hF.ok)))))
  · cases hs
theorem pm_s_ui {f : Int32 → pm_V} (hf : ∀ x, pm_okv (f x)) (row : ∀ (H : Heap) (locs : List Loc) (LS : Array Slot) (x : Int32) (r : List Value), W p l e R s m args below meth c H locs cells slots Z (F0 m (pc + 1) LS (pm_cv E (f x) :: r)) → W p l e R s m args below meth c H locs cells slots Z (F0 m pc LS (.int x :: r)))
    (hs : pm_ui pc ls st M f = some (cs, s')) (kk : pm_J p l e R s m args below meth c cells slots Z D E A xs L nL s'.1 s'.2.1 s'.2.2.1 s'.2.2.2) : pm_J p l e R s m args below meth c cells slots Z D E A xs L nL pc ls st M := by
  unfold pm_ui at hs
  split at hs
  · cases hs
    intro H locs LS hW hF
    exact row H locs LS _ _ (kk H locs LS hW (hF.stk (pm_ok_c (hf _) (pm_ok_t hF.ok))))
  · cases hs
theorem pm_s_ul {f : Int64 → pm_V} (hf : ∀ x, pm_okv (f x)) (row : ∀ (H : Heap) (locs : List Loc) (LS : Array Slot) (x : Int64) (r : List Value), W p l e R s m args below meth c H locs cells slots Z (F0 m (pc + 1) LS (pm_cv E (f x) :: r)) → W p l e R s m args below meth c H locs cells slots Z (F0 m pc LS (.long x :: r)))
    (hs : pm_ul pc ls st M f = some (cs, s')) (kk : pm_J p l e R s m args below meth c cells slots Z D E A xs L nL s'.1 s'.2.1 s'.2.2.1 s'.2.2.2) : pm_J p l e R s m args below meth c cells slots Z D E A xs L nL pc ls st M := by
  unfold pm_ul at hs
  split at hs
  · cases hs
    intro H locs LS hW hF
    exact row H locs LS _ _ (kk H locs LS hW (hF.stk (pm_ok_c (hf _) (pm_ok_t hF.ok))))
  · cases hs
theorem pm_tgt {pc : Nat} {off : Int} (h : 0 ≤ (pc : Int) + off) : (pc : Int) + off = (pm_tg pc off : Int) := by unfold pm_tg; omega
theorem pm_s_if {off : Int} {f : Int32 → Nat → Nat → Nat} (row : ∀ (H : Heap) (locs : List Loc) (LS : Array Slot) (x : Int32) (r : List Value) (tgt : Nat), (pc : Int) + off = (tgt : Int) → W p l e R s m args below meth c H locs cells slots Z (F0 m (f x tgt (pc + 3)) LS r) → W p l e R s m args below meth c H locs cells slots Z (F0 m pc LS (.int x :: r)))
    (hs : pm_if pc ls st M off f = some (cs, s')) (kk : pm_J p l e R s m args below meth c cells slots Z D E A xs L nL s'.1 s'.2.1 s'.2.2.1 s'.2.2.2) : pm_J p l e R s m args below meth c cells slots Z D E A xs L nL pc ls st M := by
  unfold pm_if at hs
  split at hs
  · split at hs
    · rename_i h0
      cases hs
      intro H locs LS hW hF
      exact row H locs LS _ _ _ (pm_tgt h0) (kk H locs LS hW (hF.stk (pm_ok_t hF.ok)))
    · cases hs
  · cases hs
theorem pm_s_ic2 {off : Int} {f : Int32 → Int32 → Nat → Nat → Nat} (row : ∀ (H : Heap) (locs : List Loc) (LS : Array Slot) (x y : Int32) (r : List Value) (tgt : Nat), (pc : Int) + off = (tgt : Int) → W p l e R s m args below meth c H locs cells slots Z (F0 m (f x y tgt (pc + 3)) LS r) → W p l e R s m args below meth c H locs cells slots Z (F0 m pc LS (.int y :: .int x :: r)))
    (hs : pm_ic2 pc ls st M off f = some (cs, s')) (kk : pm_J p l e R s m args below meth c cells slots Z D E A xs L nL s'.1 s'.2.1 s'.2.2.1 s'.2.2.2) : pm_J p l e R s m args below meth c cells slots Z D E A xs L nL pc ls st M := by
  unfold pm_ic2 at hs
  split at hs
  · split at hs
    · rename_i h0
      cases hs
      intro H locs LS hW hF
      exact row H locs LS _ _ _ _ (pm_tgt h0) (kk H locs LS hW (hF.stk (pm_ok_t (pm_ok_t hF.ok))))
    · cases hs
  · cases hs
theorem pm_s_sti {d k : Nat} (hE : E.2.1.category = 1) (row : ∀ (H : Heap) (locs : List Loc) (LS : Array Slot) (x : Int32) (r : List Value) (lv : List (Nat × Value)), lv_has LS nL lv → k < nL → (∀ LS' : Array Slot, lv_has LS' nL ((k, Value.int x) :: lv.filter (fun q => !(q.1 == k) && !(q.1 + 1 == k && q.2.category == 2))) → W p l e R s m args below meth c H locs cells slots Z (F0 m (pc + d) LS' r)) → W p l e R s m args below meth c H locs cells slots Z (F0 m pc LS (.int x :: r)))
    (hs : pm_sti d pc ls st M k = some (cs, s')) (kk : pm_J p l e R s m args below meth c cells slots Z D E A xs L nL s'.1 s'.2.1 s'.2.2.1 s'.2.2.2) : pm_J p l e R s m args below meth c cells slots Z D E A xs L nL pc ls st M := by
  unfold pm_sti at hs
  split at hs
  · split at hs
    · rename_i x r h0
      cases hs
      intro H locs LS hW hF
      exact row H locs LS _ _ _ hF.has (by rw [← hF.2.2.1]; exact h0) (fun LS' hl => kk H locs LS' hW (hF.st1 (v := pm_i x) hE trivial hl (pm_ok_t hF.ok)))
    · cases hs
  · cases hs
theorem pm_s_stl {d k : Nat} (hE : E.2.1.category = 1) (row : ∀ (H : Heap) (locs : List Loc) (LS : Array Slot) (x : Int64) (r : List Value) (lv : List (Nat × Value)), lv_has LS nL lv → k + 1 < nL → (∀ LS' : Array Slot, lv_has LS' nL ((k, Value.long x) :: lv.filter (fun q => !(q.1 == k) && (!(q.1 == k + 1) && !(q.1 + 1 == k && q.2.category == 2)))) → W p l e R s m args below meth c H locs cells slots Z (F0 m (pc + d) LS' r)) → W p l e R s m args below meth c H locs cells slots Z (F0 m pc LS (.long x :: r)))
    (hs : pm_stl d pc ls st M k = some (cs, s')) (kk : pm_J p l e R s m args below meth c cells slots Z D E A xs L nL s'.1 s'.2.1 s'.2.2.1 s'.2.2.2) : pm_J p l e R s m args below meth c cells slots Z D E A xs L nL pc ls st M := by
  unfold pm_stl at hs
  split at hs
  · split at hs
    · rename_i x r h0
      cases hs
      intro H locs LS hW hF
      exact row H locs LS _ _ _ hF.has (by rw [← hF.2.2.1]; exact h0) (fun LS' hl => kk H locs LS' hW (hF.st2 (v := pm_l x) hE trivial hl (pm_ok_t hF.ok)))
    · cases hs
  · cases hs
theorem pm_s_sta {d k : Nat} (hE : E.2.1.category = 1) (row : ∀ (H : Heap) (locs : List Loc) (LS : Array Slot) (x : Nat) (r : List Value) (lv : List (Nat × Value)), lv_has LS nL lv → k < nL → (∀ LS' : Array Slot, lv_has LS' nL ((k, Value.ref x) :: lv.filter (fun q => !(q.1 == k) && !(q.1 + 1 == k && q.2.category == 2))) → W p l e R s m args below meth c H locs cells slots Z (F0 m (pc + d) LS' r)) → W p l e R s m args below meth c H locs cells slots Z (F0 m pc LS (.ref x :: r)))
    (hs : pm_sta d pc ls st M k = some (cs, s')) (kk : pm_J p l e R s m args below meth c cells slots Z D E A xs L nL s'.1 s'.2.1 s'.2.2.1 s'.2.2.2) : pm_J p l e R s m args below meth c cells slots Z D E A xs L nL pc ls st M := by
  unfold pm_sta at hs
  split at hs
  · split at hs
    · cases hs
    · rename_i t j r h54
      split at hs
      · rename_i h0
        cases hs
        intro H locs LS hW hF
        have h := row H locs LS (E.1 t j) (r.map (pm_cv E)) _ hF.has (by rw [← hF.2.2.1]; exact h0) (fun LS' hl => kk H locs LS' hW (hF.st1 (v := pm_r t j) hE (pm_ok_h hF.ok) (by rw [pm_cv_r h54]; exact hl) (pm_ok_t hF.ok)))
        rw [List.map_cons, pm_cv_r h54]
        exact h
      · cases hs
  · cases hs
end PmS
end
section
theorem pm_w_cs : Cond.fieldLink "java/lang/String" 38 "java/lang/String" "COMPACT_STRINGS" "Z" ∈ pm_gw := pm_in (List.mem_of_getElem? (i := 310) (by decide +kernel)) (by decide +kernel)
theorem pm_w_sf : Cond.fieldLink "java/lang/String" 1053 "jdk/internal/util/Preconditions" "SIOOBE_FORMATTER" "Ljava/util/function/BiFunction;" ∈ pm_gw := pm_in (List.mem_of_getElem? (i := 326) (by decide +kernel)) (by decide +kernel)
theorem pm_w_sv : Cond.fieldLink "java/lang/String" 9 "java/lang/String" "value" "[B" ∈ pm_gw := pm_in (List.mem_of_getElem? (i := 1247) (by decide +kernel)) (by decide +kernel)
theorem pm_w_sc : Cond.fieldLink "java/lang/String" 15 "java/lang/String" "coder" "B" ∈ pm_gw := pm_in (List.mem_of_getElem? (i := 1248) (by decide +kernel)) (by decide +kernel)
theorem pm_TN1 : ∀ c, c < 7 → ∀ k, k < pm_NN c → (pm_TN c k).1 = pm_RN c := by decide +kernel
theorem pm_only29 : ∀ q ∈ pm_cells, q.1 = 29 → q.2 = 0 := by decide +kernel
theorem pm_St.cat {E : pm_E} {A : Nat → Prop} {U : State} {H : Heap} (h : pm_St E A U H) : E.2.1.category = 1 := by
  obtain ⟨-, -, -, -, -, h6, -⟩ := h
  rcases h6 with h | ⟨t, h⟩ <;> rw [h] <;> rfl
theorem pm_Wd.set {D : va_G} {E : pm_E} {A : Nat → Prop} {s : State} {xs : Nat → Int32} {L : Int32} {M M' : pm_M} {H H1 : Heap} {locs locs1 : List Loc} (h : pm_Wd D E A s xs L M H locs) (hP : va_P D pm_cl (pm_wl E M') H1) (hS : va_S A s.heap H1 locs1) (h50 : M'.1 50 0 = M.1 50 0) (h49 : M'.1 49 0 0 = M.1 49 0 0) : pm_Wd D E A s xs L M' H1 locs1 :=
  ⟨hP, pm_D_any h.2.1, hS, by rw [h50]; exact h.2.2.2.1, by rw [h49]; exact h.2.2.2.2⟩
theorem pm_set_ne (M : pm_M) {t k a b : Nat} (f : Nat → Int32) (h : t ≠ a) : (pm_set M t k f).1 a b = M.1 a b := by
  have : ¬ (a = t ∧ b = k) := fun q => h q.1.symm
  simp [pm_set, this]
section PmT
variable {p : Program} {l : Launch} {e : Env} {R : Room} {s : State} {m : MethodId} {args : Array Value} {below : List Frame} {meth : Method} {c : Code} {cells slots : Nat} {Z : State → Prop} {D : va_G} {E : pm_E} {A : Nat → Prop} {xs : Nat → Int32} {L : Int32} {mi : pm_MI} {pc : Nat} {ls : pm_L} {st : List pm_V} {M : pm_M} {cs : List Prop} {s' : pm_S}
theorem pm_s_gf (C : pm_Cx mi p R s m args c cells slots D E A xs L) {idx : Nat} (hd : decode mi.2.2.1 pc = .ok (.getfield idx, 3)) {nL : Nat} (hs : pm_step mi.1 (.getfield idx) pc ls st M = some (cs, s')) (kk : pm_J p l e R s m args below meth c cells slots Z D E A xs L nL s'.1 s'.2.1 s'.2.2.1 s'.2.2.2) : pm_J p l e R s m args below meth c cells slots Z D E A xs L nL pc ls st M := by
  obtain ⟨hx, hb, hml, hown, hts, hK, hSt, -, hA, -⟩ := C
  simp only [pm_step] at hs
  split at hs
  · rename_i t k r
    split at hs
    · rename_i v hv
      cases hs
      intro H locs LS hW hF
      have hk : k < pm_cnt t := pm_ok_h hF.ok
      unfold pm_gf at hv
      split at hv
      · rename_i ci kf hfl
        obtain ⟨hl1, h7, hkf⟩ := pm_fl_ok hfl
        split at hv
        · rename_i cj fs hsh
          split at hv
          · rename_i hcc
            subst hcc
            have ht := pm_sh_lt hsh
            obtain ⟨j, hj, -⟩ := pm_at E M ht hk
            have hent : pm_ent E M t k = .inr (ci, fs.mapIdx (fun i f => pm_fv E M t k i f)) := by unfold pm_ent; rw [hsh]
            rw [hent] at hj
            have key : ∀ (f : Nat × Nat × Nat), fs[kf]? = some f → pm_fv E M t k kf f = pm_cv E v → pm_okv v → W p l e R s m args below meth c H locs cells slots Z (F0 m pc LS ((pm_r t k :: r).map (pm_cv E))) := by
              intro f hf he hv9
              rw [List.map_cons, pm_cv_r (by omega)]
              exact va_get (D := D) (ci := ci) (v := pm_cv E v) (C := pm_RN ci) (T := pm_TN ci) (N := pm_NN ci) hx hb hts (pm_cw ci h7) hown hK hW.1 j hj (pm_clat ci h7) kf hkf (hts _ hl1) (fun _ h => by rw [pm_TN1 ci h7 kf hkf] at h; exact h) (by rw [List.getElem?_mapIdx, hf]; simp [he]) hd (kk H locs LS hW (hF.stk (pm_ok_c hv9 (pm_ok_t hF.ok))))
            split at hv
            · rename_i y z hf
              cases hv
              exact key _ hf rfl trivial
            · rename_i y z hf
              cases hv
              exact key _ hf rfl trivial
            · rename_i t' b hf
              cases hv
              have h9 := (pm_obj hsh).2.2.2.2 _ _ _ hf
              refine key _ hf ?_ ?_
              · rw [pm_cv_r (by omega)]; rfl
              · show b + k < pm_cnt t'
                omega
            · cases hv
          · cases hv
        · cases hv
      · split at hv
        · rename_i h8
          obtain ⟨ho, rfl⟩ := h8
          rw [List.map_cons, pm_cv_r (by omega)]
          rw [ho] at hown
          have hk7 : k < 7 := hk
          obtain ⟨hO, hco, hva, hT⟩ := hSt.2.2.2.2.2.2.1.1 k hk7
          split at hv
          · rename_i h9
            subst h9
            cases hv
            have := kk H locs LS hW (hF.stk (pm_ok_c (show k < pm_cnt 53 from hk7) (pm_ok_t hF.ok)))
            rw [List.map_cons, pm_cv_r (by omega)] at this
            exact vk_getf hx hb hva hW.2.2.1 hown (hts _ pm_w_sv) (fun _ h => h) hd this
          · split at hv
            · rename_i h9
              subst h9
              cases hv
              exact vk_getf hx hb hco hW.2.2.1 hown (hts _ pm_w_sc) (fun _ h => h) hd (kk H locs LS hW (hF.stk (pm_ok_c trivial (pm_ok_t hF.ok))))
            · cases hv
        · cases hv
    · cases hs
  · cases hs
theorem pm_s_pf (C : pm_Cx mi p R s m args c cells slots D E A xs L) {idx : Nat} (hd : decode mi.2.2.1 pc = .ok (.putfield idx, 3)) {nL : Nat} (hs : pm_step mi.1 (.putfield idx) pc ls st M = some (cs, s')) (kk : pm_J p l e R s m args below meth c cells slots Z D E A xs L nL s'.1 s'.2.1 s'.2.2.1 s'.2.2.2) : pm_J p l e R s m args below meth c cells slots Z D E A xs L nL pc ls st M := by
  obtain ⟨hx, hb, hml, hown, hts, hK, hSt, -, hA, -⟩ := C
  simp only [pm_step] at hs
  split at hs
  · rename_i v t k r
    split at hs
    · rename_i M' hv
      cases hs
      intro H locs LS hW hF
      have hk : k < pm_cnt t := pm_ok_h (pm_ok_t hF.ok)
      unfold pm_pf at hv
      split at hv
      · rename_i ci kf hfl
        obtain ⟨hl1, h7, hkf⟩ := pm_fl_ok hfl
        split at hv
        · rename_i cj fs hsh
          split at hv
          · rename_i hcc
            subst hcc
            have ht := pm_sh_lt hsh
            obtain ⟨j, hj, hset⟩ := pm_at E M ht hk
            have hent : pm_ent E M t k = .inr (ci, fs.mapIdx (fun i f => pm_fv E M t k i f)) := by unfold pm_ent; rw [hsh]
            have hent' : pm_ent E M' t k = .inr (ci, fs.mapIdx (fun i f => pm_fv E M' t k i f)) := by unfold pm_ent; rw [hsh]
            rw [hent] at hj
            obtain ⟨-, hlen, h0, h1, -⟩ := pm_obj hsh
            have key : (pm_TN ci kf).2.2.2 = false → narrow (pm_tN ci kf) (pm_cv E v) = pm_cv E v → fits (pm_tN ci kf) (pm_cv E v) = true → (fs.mapIdx (fun i f => pm_fv E M t k i f)).set kf (pm_cv E v) = fs.mapIdx (fun i f => pm_fv E M' t k i f) → (∀ q ∈ pm_cells, q ≠ (t, k) → pm_ent E M' q.1 q.2 = pm_ent E M q.1 q.2) → M'.1 50 0 = M.1 50 0 → M'.1 49 0 0 = M.1 49 0 0 → W p l e R s m args below meth c H locs cells slots Z (F0 m pc LS ((v :: pm_r t k :: r).map (pm_cv E))) := by
              intro q1 q2 q3 q4 q5 q6 q7
              rw [List.map_cons, List.map_cons, pm_cv_r (by omega)]
              refine va_put (D := D) (ci := ci) (v := pm_cv E v) (ty := pm_tN ci kf) (C := pm_RN ci) (T := pm_TN ci) (N := pm_NN ci) hx hb hts (pm_cw ci h7) (pm_tN ci) (pm_ty ci h7) (pm_nm ci h7) hown hK hW.1 hW.2.1 hW.2.2.1 j hj (pm_clat ci h7) kf hkf (hts _ hl1) (fun _ h => by rw [pm_TN1 ci h7 kf hkf] at h; exact h) q1 (pm_ty ci h7 kf hkf) q2 q3 (by simp [hlen]; exact hkf) hd (fun H1 locs1 hP1 hD1 hS1 => ?_)
              rw [q4, ← hent', hset M' q5] at hP1
              exact kk H1 locs1 LS (hW.set hP1 hS1 q6 q7) (hF.stk (pm_ok_t (pm_ok_t hF.ok)))
            split at hv
            · rename_i y z x hf
              cases hv
              obtain ⟨e1, e2⟩ := h0 _ _ _ hf
              refine key e2 (by rw [e1]; rfl) (by rw [e1]; rfl) ?_ pm_ent_set ?_ ?_
              · apply List.ext_getElem?
                intro i
                rw [List.getElem?_set]
                by_cases hi : kf = i
                · subst hi
                  rw [if_pos rfl, if_pos (by simp [hlen]; exact hkf)]
                  simp only [List.getElem?_mapIdx, hf, Option.map_some, pm_fv, pm_set_at, upd]
                  simp [pm_cv]
                · rw [if_neg hi]
                  simp only [List.getElem?_mapIdx]
                  cases fs[i]? with
                  | none => rfl
                  | some f =>
                    simp only [Option.map_some]
                    congr 1
                    unfold pm_fv
                    split
                    · simp only [pm_set_at, upd]
                      rw [if_neg (Ne.symm hi)]
                    · rfl
                    · rfl
              · exact pm_set_ne _ _ (by omega)
              · rw [pm_set_ne _ _ (by omega)]
            · rename_i y z x hf
              cases hv
              obtain ⟨e1, e2, e3⟩ := h1 _ _ _ hf
              refine key e2 (by rw [e1]; rfl) (by rw [e1]; rfl) ?_ ?_ rfl rfl
              · apply List.ext_getElem?
                intro i
                rw [List.getElem?_set]
                by_cases hi : kf = i
                · subst hi
                  rw [if_pos rfl, if_pos (by simp [hlen]; exact hkf)]
                  simp only [List.getElem?_mapIdx, hf, Option.map_some, pm_fv]
                  rfl
                · rw [if_neg hi]
                  simp only [List.getElem?_mapIdx]
                  cases hfi : fs[i]? with
                  | none => rfl
                  | some f =>
                    simp only [Option.map_some]
                    congr 1
                    unfold pm_fv
                    split
                    · rfl
                    · rename_i y' z'
                      exfalso
                      subst e3
                      have hsh' := hsh
                      simp only [pm_sh, Option.some.injEq, Sum.inl.injEq, Prod.mk.injEq] at hsh'
                      obtain ⟨-, rfl⟩ := hsh'
                      have a1 := (List.getElem?_eq_some_iff.mp hf).1
                      have a2 := (List.getElem?_eq_some_iff.mp hfi).1
                      simp only [List.length_cons, List.length_nil] at a1 a2
                      have only : ∀ n, n < 37 → ∀ y z, ([(2, 30, 0), (2, 31, 0), (2, 32, 0), (0, 0, 0), (0, 0, 0), (2, 33, 0), (0, 0, 0), (0, 0, 0), (0, 0, 0), (0, 0, 0), (2, 34, 0), (0, 0, 0), (2, 35, 0), (0, 0, 0), (0, 0, 0), (0, 0, 0), (0, 0, 0), (0, 0, 0), (0, 0, 0), (0, 0, 0), (2, 36, 0), (0, 0, 0), (0, 0, 0), (2, 37, 0), (2, 38, 0), (0, 0, 0), (0, 0, 0), (1, 0, 0), (0, 0, 0), (0, 0, 0), (0, 0, 0), (2, 39, 0), (2, 40, 0), (2, 41, 0), (2, 42, 0), (0, 0, 0), (2, 43, 0)] : List (Nat × Nat × Nat))[n]? = some (1, y, z) → n = 27 := by
                        intro n hn y z h
                        have h' := congrArg (fun o => o.map (fun q : Nat × Nat × Nat => q.1)) h
                        simp only [Option.map_some] at h'
                        revert h'
                        clear h
                        revert n
                        decide +kernel
                      have b1 := only _ a1 _ _ hf
                      have b2 := only _ a2 _ _ hfi
                      omega
                    · rfl
              · intro q hq hne
                have hq29 : q.1 ≠ 29 := by
                  intro h29
                  apply hne
                  subst e3
                  have : pm_cnt 29 = 1 := rfl
                  have hk0 : k = 0 := by omega
                  have hq0 := pm_only29 q hq h29
                  obtain ⟨a, b⟩ := q
                  simp_all
                unfold pm_ent
                split
                · rename_i cj gs hgs
                  congr 2
                  apply List.ext_getElem?
                  intro i
                  simp only [List.getElem?_mapIdx]
                  cases hgi : gs[i]? with
                  | none => rfl
                  | some f =>
                    simp only [Option.map_some]
                    congr 1
                    unfold pm_fv
                    split
                    · rfl
                    · exact absurd ((pm_obj hgs).2.2.2.1 _ _ _ hgi).2.2 hq29
                    · rfl
                · rfl
                · rfl
                · rfl
            · cases hv
          · cases hv
        · cases hv
      · cases hv
    · cases hs
  · cases hs
end PmT
end
section
theorem pm_sixlt : ∀ i j : Nat, pm_six.findIdx? (fun q => q == i) = some j → j < 7 ∧ pm_six.getD j 0 = i := by
  intro i j h
  rw [List.findIdx?_eq_some_iff_getElem] at h
  obtain ⟨h1, h2, -⟩ := h
  refine ⟨h1, ?_⟩
  rw [List.getD_eq_getElem?_getD, List.getElem?_eq_getElem h1]
  simpa using h2
section PmU
variable {p : Program} {l : Launch} {e : Env} {R : Room} {s : State} {m : MethodId} {args : Array Value} {below : List Frame} {meth : Method} {c : Code} {cells slots : Nat} {Z : State → Prop} {D : va_G} {E : pm_E} {A : Nat → Prop} {xs : Nat → Int32} {L : Int32} {mi : pm_MI} {pc : Nat} {ls : pm_L} {st : List pm_V} {M : pm_M} {cs : List Prop} {s' : pm_S} {nL : Nat}
theorem pm_s_iald (C : pm_Cx mi p R s m args c cells slots D E A xs L) (hd : decode mi.2.2.1 pc = .ok (.iaload, 1)) (hs : pm_step mi.1 .iaload pc ls st M = some (cs, s')) (hc : pm_all cs) (kk : pm_J p l e R s m args below meth c cells slots Z D E A xs L nL s'.1 s'.2.1 s'.2.2.1 s'.2.2.2) : pm_J p l e R s m args below meth c cells slots Z D E A xs L nL pc ls st M := by
  obtain ⟨hx, hb, hml, hown, hts, hK, hSt, -, hA, hX⟩ := C
  simp only [pm_step] at hs
  split at hs
  · rename_i i t k r
    split at hs
    · rename_i q x hv
      cases hs
      intro H locs LS hW hF
      have hk : k < pm_cnt t := pm_ok_h (pm_ok_t hF.ok)
      have kk := kk H locs LS hW (hF.stk (pm_ok_c trivial (pm_ok_t (pm_ok_t hF.ok))))
      unfold pm_ia at hv
      split at hv
      · rename_i n hsh
        cases hv
        have ht := pm_sh_lt hsh
        obtain ⟨j, hj, -⟩ := pm_at E M ht hk
        have hent : pm_ent E M t k = .inl (E.2.2 0, n, .inl (M.1 t k)) := by unfold pm_ent; rw [hsh]
        rw [hent] at hj
        rw [List.map_cons, List.map_cons, pm_cv_r (by omega)]
        exact va_iald hx hb hK hW.1 j 0 hj rfl hc.1 hd kk
      · cases hv
      · split at hv
        · rename_i h51
          subst h51
          cases hv
          have hk0 : k = 0 := by have h1 : k < 1 := hk; omega
          subst hk0
          rw [List.map_cons, List.map_cons, pm_cv_r (by omega)]
          exact va_ti hx hb hSt.2.2.1 hW.2.2.1 hc.1 rfl hd kk
        · split at hv
          · rename_i h50
            obtain ⟨rfl, h7⟩ := h50
            cases hv
            have hk0 : k = 0 := by have h1 : k < 1 := hk; omega
            subst hk0
            obtain ⟨x1, x2, x3, x4⟩ := hX h7
            rw [List.map_cons, List.map_cons, pm_cv_r (by omega)]
            have hin : vp_in i L.toNatClampNeg := by have := hc.1; rw [hW.2.2.2.2] at this; exact this
            refine va_sld hx hb x1 x2 x3 hW.2.2.1 hin hd ?_
            rw [← hW.2.2.2.1]
            exact kk
          · cases hv
    · cases hs
  · cases hs
theorem pm_s_bald (C : pm_Cx mi p R s m args c cells slots D E A xs L) (hd : decode mi.2.2.1 pc = .ok (.baload, 1)) (hs : pm_step mi.1 .baload pc ls st M = some (cs, s')) (hc : pm_all cs) (kk : pm_J p l e R s m args below meth c cells slots Z D E A xs L nL s'.1 s'.2.1 s'.2.2.1 s'.2.2.2) : pm_J p l e R s m args below meth c cells slots Z D E A xs L nL pc ls st M := by
  obtain ⟨hx, hb, hml, hown, hts, hK, hSt, -, hA, hX⟩ := C
  simp only [pm_step] at hs
  split at hs
  · rename_i i t k r
    split at hs
    · rename_i q x hv
      cases hs
      intro H locs LS hW hF
      have hk : k < pm_cnt t := pm_ok_h (pm_ok_t hF.ok)
      have kk := kk H locs LS hW (hF.stk (pm_ok_c trivial (pm_ok_t (pm_ok_t hF.ok))))
      unfold pm_ba at hv
      split at hv
      · rename_i n hsh
        cases hv
        have ht := pm_sh_lt hsh
        obtain ⟨j, hj, -⟩ := pm_at E M ht hk
        have hent : pm_ent E M t k = .inl (E.2.2 1, n, .inl (M.1 t k)) := by unfold pm_ent; rw [hsh]
        rw [hent] at hj
        rw [List.map_cons, List.map_cons, pm_cv_r (by omega)]
        exact va_bald hx hb hK hW.1 j 1 hj rfl hc.1 hd kk
      · rename_i n hsh
        cases hv
        have ht := pm_sh_lt hsh
        obtain ⟨j, hj, -⟩ := pm_at E M ht hk
        have hent : pm_ent E M t k = .inl (E.2.2 2, n, .inl (M.1 t k)) := by unfold pm_ent; rw [hsh]
        rw [hent] at hj
        rw [List.map_cons, List.map_cons, pm_cv_r (by omega)]
        exact va_zald hx hb hK hW.1 j 2 hj rfl hc.1 hd kk
      · cases hv
      · split at hv
        · rename_i h53
          subst h53
          cases hv
          rw [List.map_cons, List.map_cons, pm_cv_r (by omega)]
          exact va_tb hx hb (hSt.2.2.2.2.2.2.1.1 k hk).2.2.2 hW.2.2.1 hc.1 rfl hd kk
        · cases hv
    · cases hs
  · cases hs
theorem pm_s_aald (C : pm_Cx mi p R s m args c cells slots D E A xs L) (hd : decode mi.2.2.1 pc = .ok (.aaload, 1)) (hs : pm_step mi.1 .aaload pc ls st M = some (cs, s')) (hc : pm_all cs) (kk : pm_J p l e R s m args below meth c cells slots Z D E A xs L nL s'.1 s'.2.1 s'.2.2.1 s'.2.2.2) : pm_J p l e R s m args below meth c cells slots Z D E A xs L nL pc ls st M := by
  obtain ⟨hx, hb, hml, hown, hts, hK, hSt, -, hA, hX⟩ := C
  simp only [pm_step] at hs
  split at hs
  · rename_i i t k r
    split at hs
    · rename_i ty n t' b hsh
      cases hs
      intro H locs LS hW hF
      have hk : k < pm_cnt t := pm_ok_h (pm_ok_t hF.ok)
      obtain ⟨h1, h2, h3⟩ := pm_arr hsh
      have hi := pm_in_lt hc.1
      have kk := kk H locs LS hW (hF.stk (pm_ok_c (show b + i.toNatClampNeg < pm_cnt t' by omega) (pm_ok_t (pm_ok_t hF.ok))))
      rw [List.map_cons, pm_cv_r (by omega)] at kk
      have ht := pm_sh_lt hsh
      obtain ⟨j, hj, -⟩ := pm_at E M ht hk
      have hent : pm_ent E M t k = .inl (E.2.2 ty, n, .inr (.inr (.inr (.inr (fun i => some (E.1 t' (b + i))))))) := by unfold pm_ent; rw [hsh]
      rw [hent] at hj
      rw [List.map_cons, List.map_cons, pm_cv_r (by omega)]
      rcases h3 with rfl | rfl
      · exact va_aldq hx hb hK hW.1 j 3 hj rfl hc.1 hd kk
      · exact va_aldq hx hb hK hW.1 j 4 hj rfl hc.1 hd kk
    · cases hs
  · cases hs
theorem pm_s_iast (C : pm_Cx mi p R s m args c cells slots D E A xs L) (hd : decode mi.2.2.1 pc = .ok (.iastore, 1)) (hs : pm_step mi.1 .iastore pc ls st M = some (cs, s')) (hc : pm_all cs) (kk : pm_J p l e R s m args below meth c cells slots Z D E A xs L nL s'.1 s'.2.1 s'.2.2.1 s'.2.2.2) : pm_J p l e R s m args below meth c cells slots Z D E A xs L nL pc ls st M := by
  obtain ⟨hx, hb, hml, hown, hts, hK, hSt, -, hA, hX⟩ := C
  simp only [pm_step] at hs
  split at hs
  · rename_i x i t k r
    split at hs
    · rename_i n hsh
      cases hs
      intro H locs LS hW hF
      have hk : k < pm_cnt t := pm_ok_h (pm_ok_t (pm_ok_t hF.ok))
      have ht := pm_sh_lt hsh
      obtain ⟨j, hj, hset⟩ := pm_at E M ht hk
      have hent : ∀ M : pm_M, pm_ent E M t k = .inl (E.2.2 0, n, .inl (M.1 t k)) := fun M => by unfold pm_ent; rw [hsh]
      rw [hent] at hj
      rw [List.map_cons, List.map_cons, List.map_cons, pm_cv_r (by omega)]
      refine va_iast hx hb hK hW.1 hW.2.1 hW.2.2.1 j 0 hj rfl hc.1 hd (fun H1 locs1 hP1 hD1 hS1 => ?_)
      have e1 := hset (pm_set M t k (upd (M.1 t k) i.toNatClampNeg x)) pm_ent_set
      rw [hent, pm_set_at] at e1
      rw [e1] at hP1
      exact kk H1 locs1 LS (hW.set hP1 hS1 (pm_set_ne _ _ (by omega)) (by rw [pm_set_ne _ _ (by omega)])) (hF.stk (pm_ok_t (pm_ok_t (pm_ok_t hF.ok))))
    · cases hs
  · cases hs
theorem pm_s_bast (C : pm_Cx mi p R s m args c cells slots D E A xs L) (hd : decode mi.2.2.1 pc = .ok (.bastore, 1)) (hs : pm_step mi.1 .bastore pc ls st M = some (cs, s')) (hc : pm_all cs) (kk : pm_J p l e R s m args below meth c cells slots Z D E A xs L nL s'.1 s'.2.1 s'.2.2.1 s'.2.2.2) : pm_J p l e R s m args below meth c cells slots Z D E A xs L nL pc ls st M := by
  obtain ⟨hx, hb, hml, hown, hts, hK, hSt, -, hA, hX⟩ := C
  simp only [pm_step] at hs
  split at hs
  · rename_i x i t k r
    split at hs
    · rename_i n hsh
      cases hs
      intro H locs LS hW hF
      have hk : k < pm_cnt t := pm_ok_h (pm_ok_t (pm_ok_t hF.ok))
      have ht := pm_sh_lt hsh
      obtain ⟨j, hj, hset⟩ := pm_at E M ht hk
      have hent : ∀ M : pm_M, pm_ent E M t k = .inl (E.2.2 1, n, .inl (M.1 t k)) := fun M => by unfold pm_ent; rw [hsh]
      rw [hent] at hj
      rw [List.map_cons, List.map_cons, List.map_cons, pm_cv_r (by omega)]
      refine va_bast hx hb hK hW.1 hW.2.1 hW.2.2.1 j 1 hj rfl hc.1 hd (fun H1 locs1 hP1 hD1 hS1 => ?_)
      have e1 := hset (pm_set M t k (upd (M.1 t k) i.toNatClampNeg (vp_nar .byte x))) pm_ent_set
      rw [hent, pm_set_at] at e1
      rw [e1] at hP1
      exact kk H1 locs1 LS (hW.set hP1 hS1 (pm_set_ne _ _ (by omega)) (by rw [pm_set_ne _ _ (by omega)])) (hF.stk (pm_ok_t (pm_ok_t (pm_ok_t hF.ok))))
    · rename_i n hsh
      cases hs
      intro H locs LS hW hF
      have hk : k < pm_cnt t := pm_ok_h (pm_ok_t (pm_ok_t hF.ok))
      have ht := pm_sh_lt hsh
      obtain ⟨j, hj, hset⟩ := pm_at E M ht hk
      have hent : ∀ M : pm_M, pm_ent E M t k = .inl (E.2.2 2, n, .inl (M.1 t k)) := fun M => by unfold pm_ent; rw [hsh]
      rw [hent] at hj
      rw [List.map_cons, List.map_cons, List.map_cons, pm_cv_r (by omega)]
      refine va_zast hx hb hK hW.1 hW.2.1 hW.2.2.1 j 2 hj rfl hc.1 hd (fun H1 locs1 hP1 hD1 hS1 => ?_)
      have e1 := hset (pm_set M t k (upd (M.1 t k) i.toNatClampNeg (vp_nar .boolean x))) pm_ent_set
      rw [hent, pm_set_at] at e1
      rw [e1] at hP1
      exact kk H1 locs1 LS (hW.set hP1 hS1 (pm_set_ne _ _ (by omega)) (by rw [pm_set_ne _ _ (by omega)])) (hF.stk (pm_ok_t (pm_ok_t (pm_ok_t hF.ok))))
    · cases hs
  · cases hs
theorem pm_s_alen (C : pm_Cx mi p R s m args c cells slots D E A xs L) (hd : decode mi.2.2.1 pc = .ok (.arraylength, 1)) (hs : pm_step mi.1 .arraylength pc ls st M = some (cs, s')) (kk : pm_J p l e R s m args below meth c cells slots Z D E A xs L nL s'.1 s'.2.1 s'.2.2.1 s'.2.2.2) : pm_J p l e R s m args below meth c cells slots Z D E A xs L nL pc ls st M := by
  obtain ⟨hx, hb, hml, hown, hts, hK, hSt, -, hA, hX⟩ := C
  simp only [pm_step] at hs
  split at hs
  · rename_i t k r
    split at hs
    · rename_i x hv
      cases hs
      intro H locs LS hW hF
      have hk : k < pm_cnt t := pm_ok_h hF.ok
      have kk := kk H locs LS hW (hF.stk (pm_ok_c trivial (pm_ok_t hF.ok)))
      unfold pm_al at hv
      split at hv
      · rename_i ty n hsh
        cases hv
        have ht := pm_sh_lt hsh
        obtain ⟨j, hj, -⟩ := pm_at E M ht hk
        have hent : pm_ent E M t k = .inl (E.2.2 ty, n, .inl (M.1 t k)) := by unfold pm_ent; rw [hsh]
        rw [hent] at hj
        rw [List.map_cons, pm_cv_r (by omega)]
        have h0 := pm_chks t ht
        unfold pm_chk at h0
        rw [hsh] at h0
        simp only [Bool.and_eq_true, decide_eq_true_eq] at h0
        have h3 : ty = 0 ∨ ty = 1 ∨ ty = 2 := by omega
        rcases h3 with rfl | rfl | rfl
        · exact va_alen hx hb hK hW.1 j 0 hj (ty := .int) rfl rfl hd kk
        · exact va_alen hx hb hK hW.1 j 1 hj (ty := .byte) rfl rfl hd kk
        · exact va_alen hx hb hK hW.1 j 2 hj (ty := .boolean) rfl rfl hd kk
      · rename_i ty n t' b hsh
        cases hv
        have ht := pm_sh_lt hsh
        obtain ⟨j, hj, -⟩ := pm_at E M ht hk
        have hent : pm_ent E M t k = .inl (E.2.2 ty, n, .inr (.inr (.inr (.inr (fun i => some (E.1 t' (b + i))))))) := by unfold pm_ent; rw [hsh]
        rw [hent] at hj
        rw [List.map_cons, pm_cv_r (by omega)]
        rcases (pm_arr hsh).2.2 with rfl | rfl
        · exact va_alen hx hb hK hW.1 j 3 hj (ty := .object "WheelTickets$Wheel") rfl rfl hd kk
        · exact va_alen hx hb hK hW.1 j 4 hj (ty := .object "WheelTickets$Sheet") rfl rfl hd kk
      · cases hv
      · split at hv
        · rename_i h51
          subst h51
          cases hv
          have hk0 : k = 0 := by have h1 : k < 1 := hk; omega
          subst hk0
          rw [List.map_cons, pm_cv_r (by omega)]
          exact va_tlen hx hb hSt.2.2.1 hW.2.2.1 rfl hd kk
        · split at hv
          · rename_i h53
            subst h53
            cases hv
            rw [List.map_cons, pm_cv_r (by omega)]
            exact va_tlen hx hb (hSt.2.2.2.2.2.2.1.1 k hk).2.2.2 hW.2.2.1 rfl hd kk
          · split at hv
            · rename_i h50
              obtain ⟨rfl, h7⟩ := h50
              cases hv
              have hk0 : k = 0 := by have h1 : k < 1 := hk; omega
              subst hk0
              obtain ⟨x1, x2, x3, x4⟩ := hX h7
              rw [List.map_cons, pm_cv_r (by omega)]
              refine va_slen hx hb x1 x2 x3 hW.2.2.1 hd ?_
              rw [x4, ← hW.2.2.2.2]
              exact kk
            · cases hv
    · cases hs
  · cases hs
theorem pm_s_gs (C : pm_Cx mi p R s m args c cells slots D E A xs L) {idx : Nat} (hd : decode mi.2.2.1 pc = .ok (.getstatic idx, 3)) (hs : pm_step mi.1 (.getstatic idx) pc ls st M = some (cs, s')) (kk : pm_J p l e R s m args below meth c cells slots Z D E A xs L nL s'.1 s'.2.1 s'.2.2.1 s'.2.2.2) : pm_J p l e R s m args below meth c cells slots Z D E A xs L nL pc ls st M := by
  obtain ⟨hx, hb, hml, hown, hts, hK, hSt, -, hA, hX⟩ := C
  refine pm_s_push (v := pm_gs mi.1 idx) (fun w hv H locs LS r hW hF => ?_) hs kk
  unfold pm_gs at hv
  split at hv
  · rename_i h0
    obtain ⟨h1, rfl⟩ := h0
    cases hv
    rw [h1] at hown
    refine ⟨show 0 < pm_cnt 51 from by decide, fun k => ?_⟩
    have hn := hSt.1 (.fieldLinkNest "WheelTickets$Rest" 87 "WheelTickets" "ORDERS" "[I" "WheelTickets") (by decide +kernel)
    exact va_getsN hx hb hSt.2.1 hW.2.2.1 hown (va_Nw.use rfl hn) (fun _ h => h) hd k
  · split at hv
    · rename_i h0
      obtain ⟨h1, rfl⟩ := h0
      cases hv
      rw [h1] at hown
      exact ⟨trivial, fun k => va_gets hx hb hSt.2.2.2.1 hW.2.2.1 hown (hts _ pm_w_cs) (fun _ h => h) hd k⟩
    · split at hv
      · rename_i h0
        obtain ⟨h1, rfl⟩ := h0
        cases hv
        rw [h1] at hown
        exact ⟨show 0 < pm_cnt 54 from by decide, fun k => va_gets hx hb hSt.2.2.2.2.1 hW.2.2.1 hown (hts _ pm_w_sf) (fun _ h => h) hd k⟩
      · cases hv
theorem pm_s_ldc (C : pm_Cx mi p R s m args c cells slots D E A xs L) {idx : Nat} (hd : decode mi.2.2.1 pc = .ok (.ldc idx, 2)) (hs : pm_step mi.1 (.ldc idx) pc ls st M = some (cs, s')) (kk : pm_J p l e R s m args below meth c cells slots Z D E A xs L nL s'.1 s'.2.1 s'.2.2.1 s'.2.2.2) : pm_J p l e R s m args below meth c cells slots Z D E A xs L nL pc ls st M := by
  obtain ⟨hx, hb, hml, hown, hts, hK, hSt, -, hA, hX⟩ := C
  refine pm_s_push (v := pm_ldc mi.1 idx) (fun w hv H locs LS r hW hF => ?_) hs kk
  unfold pm_ldc at hv
  split at hv
  · rename_i z hz
    cases hv
    exact ⟨trivial, fun k => lv_ldc hx hb hown (hts _ (pm_ic_ok hz)) hd k⟩
  · split at hv
    · rename_i h3
      obtain ⟨j, hj, rfl⟩ := Option.map_eq_some_iff.mp hv
      obtain ⟨h7, h8⟩ := pm_sixlt _ _ hj
      rw [h3] at hown
      refine ⟨h7, fun k => ?_⟩
      have hR := hSt.2.2.2.2.2.2.2 j h7
      rw [h8] at hR
      exact va_ldcS hx hb hown hR hd k
    · cases hv
/-- a step of the pure machine is a step of the machine -/
theorem pm_sound (hok : pm_ok mi) (C : pm_Cx mi p R s m args c cells slots D E A xs L) {i : Instr} (ht : pm_tab mi pc = some i) (hs : pm_step mi.1 i pc ls st M = some (cs, s')) (hc : pm_all cs) (kk : pm_J p l e R s m args below meth c cells slots Z D E A xs L nL s'.1 s'.2.1 s'.2.2.1 s'.2.2.2) : pm_J p l e R s m args below meth c cells slots Z D E A xs L nL pc ls st M := by
  have hd := pm_tab_ok hok ht
  have C0 := C
  obtain ⟨hx, hb, hml, hown, hts, hK, hSt, -, hA, hX⟩ := C
  have hE := hSt.cat
  cases i with
  | iconst z =>
    cases hs
    exact fun H locs LS hW hF => lv_iconst hx hb hd rfl (kk H locs LS hW (hF.stk (pm_ok_c trivial hF.ok)))
  | bipush z =>
    cases hs
    exact fun H locs LS hW hF => lv_bipush hx hb hd rfl (kk H locs LS hW (hF.stk (pm_ok_c trivial hF.ok)))
  | sipush z =>
    cases hs
    exact fun H locs LS hW hF => lv_sipush hx hb hd rfl (kk H locs LS hW (hF.stk (pm_ok_c trivial hF.ok)))
  | lconst z =>
    cases hs
    exact fun H locs LS hW hF => lv_lconst hx hb hd rfl (kk H locs LS hW (hF.stk (pm_ok_c trivial hF.ok)))
  | iload_n k =>
    refine pm_s_push (fun w hv H locs LS r hW hF => ?_) hs kk
    unfold pm_ldi at hv
    split at hv
    · rename_i x hx9
      cases hv
      exact ⟨trivial, fun k9 => lv_iload_n hx hb hd rfl (hF.2.2.2.1 _ _ hx9).1 k9⟩
    · cases hv
  | iload k =>
    refine pm_s_push (fun w hv H locs LS r hW hF => ?_) hs kk
    unfold pm_ldi at hv
    split at hv
    · rename_i x hx9
      cases hv
      exact ⟨trivial, fun k9 => lv_iload hx hb hd (hF.2.2.2.1 _ _ hx9).1 k9⟩
    · cases hv
  | lload_n k =>
    refine pm_s_push (fun w hv H locs LS r hW hF => ?_) hs kk
    unfold pm_ldl at hv
    split at hv
    · rename_i x hx9
      cases hv
      exact ⟨trivial, fun k9 => lv_lload_n hx hb hd rfl (hF.2.2.2.1 _ _ hx9).1 k9⟩
    · cases hv
  | lload k =>
    refine pm_s_push (fun w hv H locs LS r hW hF => ?_) hs kk
    unfold pm_ldl at hv
    split at hv
    · rename_i x hx9
      cases hv
      exact ⟨trivial, fun k9 => lv_lload hx hb hd (hF.2.2.2.1 _ _ hx9).1 k9⟩
    · cases hv
  | aload_n k =>
    refine pm_s_push (fun w hv H locs LS r hW hF => ?_) hs kk
    unfold pm_lda at hv
    split at hv
    · rename_i t j hx9
      split at hv
      · cases hv
      · rename_i h54
        cases hv
        have h9 := hF.2.2.2.1 _ _ hx9
        rw [pm_cv_r h54] at h9 ⊢
        exact ⟨h9.2, fun k9 => lv_aload_n hx hb hd rfl h9.1 k9⟩
    · cases hv
  | aload k =>
    refine pm_s_push (fun w hv H locs LS r hW hF => ?_) hs kk
    unfold pm_lda at hv
    split at hv
    · rename_i t j hx9
      split at hv
      · cases hv
      · rename_i h54
        cases hv
        have h9 := hF.2.2.2.1 _ _ hx9
        rw [pm_cv_r h54] at h9 ⊢
        exact ⟨h9.2, fun k9 => lv_aload hx hb hd h9.1 k9⟩
    · cases hv
  | istore_n k => exact pm_s_sti hE (fun H locs LS x r lv h1 h2 k9 => lv_istore_n hx hb hd rfl h1 h2 rfl k9) hs kk
  | istore k => exact pm_s_sti hE (fun H locs LS x r lv h1 h2 k9 => lv_istore hx hb hd h1 h2 rfl k9) hs kk
  | lstore_n k => exact pm_s_stl hE (fun H locs LS x r lv h1 h2 k9 => lv_lstore_n hx hb hd rfl h1 h2 rfl k9) hs kk
  | lstore k => exact pm_s_stl hE (fun H locs LS x r lv h1 h2 k9 => lv_lstore hx hb hd h1 h2 rfl k9) hs kk
  | astore_n k => exact pm_s_sta hE (fun H locs LS x r lv h1 h2 k9 => lv_astore_n hx hb hd rfl h1 h2 rfl k9) hs kk
  | astore k => exact pm_s_sta hE (fun H locs LS x r lv h1 h2 k9 => lv_astore hx hb hd h1 h2 rfl k9) hs kk
  | iinc k z =>
    simp only [pm_step] at hs
    split at hs
    · rename_i x hx9
      cases hs
      intro H locs LS hW hF
      have h9 : (k, Value.int x) ∈ pm_as E ls := pm_as_in (E := E) hx9
      obtain ⟨j, hj⟩ := List.getElem?_of_mem h9
      exact lv_iinc hx hb hd hF.has hj rfl (by rw [← hF.2.2.1]; exact (List.getElem?_eq_some_iff.mp hx9).1) rfl (fun LS' hl => kk H locs LS' hW (hF.st1 (v := pm_i (x + Int32.ofInt z)) hE trivial hl hF.ok))
    · cases hs
  | iadd => exact pm_s_bi (fun H locs LS x y r k9 => lv_iadd hx hb hd k9) hs kk
  | isub => exact pm_s_bi (fun H locs LS x y r k9 => lv_isub hx hb hd k9) hs kk
  | imul => exact pm_s_bi (fun H locs LS x y r k9 => lv_imul hx hb hd k9) hs kk
  | iand => exact pm_s_bi (fun H locs LS x y r k9 => lv_iand hx hb hd k9) hs kk
  | ior => exact pm_s_bi (fun H locs LS x y r k9 => lv_ior hx hb hd k9) hs kk
  | ishl => exact pm_s_bi (fun H locs LS x y r k9 => lv_ishl hx hb hd k9) hs kk
  | ishr => exact pm_s_bi (fun H locs LS x y r k9 => lv_ishr hx hb hd k9) hs kk
  | iushr => exact pm_s_bi (fun H locs LS x y r k9 => lv_iushr hx hb hd rfl k9) hs kk
  | idiv => exact pm_s_bd (fun H locs LS x y r hy k9 => lv_idiv hx hb hd hy k9) hs hc kk
  | irem => exact pm_s_bd (fun H locs LS x y r hy k9 => lv_irem hx hb hd hy k9) hs hc kk
  | ladd => exact pm_s_bl (fun H locs LS x y r k9 => lv_ladd hx hb hd k9) hs kk
  | lmul => exact pm_s_bl (fun H locs LS x y r k9 => lv_lmul hx hb hd k9) hs kk
  | ldiv => exact pm_s_bld (fun H locs LS x y r hy k9 => lv_ldiv hx hb hd hy k9) hs hc kk
  | lrem => exact pm_s_bld (fun H locs LS x y r hy k9 => lv_lrem hx hb hd hy k9) hs hc kk
  | lcmp => exact pm_s_lcmp (fun H locs LS x y r k9 => W.lcmp hx hb hd k9) hs kk
  | ineg => exact pm_s_ui (f := fun x => pm_i (-x)) (fun _ => trivial) (fun H locs LS x r k9 => lv_ineg hx hb hd k9) hs kk
  | i2l => exact pm_s_ui (f := fun x => pm_l x.toInt64) (fun _ => trivial) (fun H locs LS x r k9 => lv_i2l hx hb hd rfl k9) hs kk
  | i2b => exact pm_s_ui (f := fun x => pm_i x.toInt8.toInt32) (fun _ => trivial) (fun H locs LS x r k9 => lv_i2b hx hb hd rfl k9) hs kk
  | i2s => exact pm_s_ui (f := fun x => pm_i x.toInt16.toInt32) (fun _ => trivial) (fun H locs LS x r k9 => lv_i2s hx hb hd rfl k9) hs kk
  | i2c => exact pm_s_ui (f := fun x => pm_i (x.toUInt32 % 65536).toInt32) (fun _ => trivial) (fun H locs LS x r k9 => lv_i2c hx hb hd rfl k9) hs kk
  | lneg => exact pm_s_ul (f := fun x => pm_l (-x)) (fun _ => trivial) (fun H locs LS x r k9 => lv_lneg hx hb hd k9) hs kk
  | dup =>
    simp only [pm_step, pm_dup] at hs
    split at hs
    · split at hs
      · rename_i v r h1
        cases hs
        exact fun H locs LS hW hF => lv_dup hx hb hd (pm_cat hE h1) (kk H locs LS hW (hF.stk (pm_ok_c (pm_ok_h hF.ok) hF.ok)))
      · cases hs
    · cases hs
  | dup2 =>
    simp only [pm_step, pm_dup2] at hs
    split at hs
    · split at hs
      · rename_i v w r h1
        cases hs
        rw [Bool.and_eq_true] at h1
        exact fun H locs LS hW hF => lv_dup2_11 hx hb hd (pm_cat hE h1.1) (pm_cat hE h1.2) (kk H locs LS hW (hF.stk (pm_ok_c (pm_ok_h hF.ok) (pm_ok_c (pm_ok_h (pm_ok_t hF.ok)) hF.ok))))
      · cases hs
    · cases hs
  | pop =>
    simp only [pm_step, pm_pop] at hs
    split at hs
    · split at hs
      · rename_i v r h1
        cases hs
        exact fun H locs LS hW hF => lv_pop hx hb hd (pm_cat hE h1) (kk H locs LS hW (hF.stk (pm_ok_t hF.ok)))
      · cases hs
    · cases hs
  | goto off =>
    simp only [pm_step] at hs
    split at hs
    · rename_i h0
      cases hs
      exact fun H locs LS hW hF => lv_goto hx hb hd (pm_tgt h0) (kk H locs LS hW hF)
    · cases hs
  | ifCond q off =>
    cases q with
    | eq => exact pm_s_if (fun H locs LS x r tgt h9 k9 => lv_if_eq hx hb hd h9 (fun h => by rw [if_pos h] at k9; exact k9) (fun h => by rw [if_neg h] at k9; exact k9)) hs kk
    | ne => exact pm_s_if (f := fun x a b => if x = 0 then b else a) (fun H locs LS x r tgt h9 k9 => lv_if_ne hx hb hd h9 (fun h => by rw [if_neg h] at k9; exact k9) (fun h => by rw [if_pos h] at k9; exact k9)) hs kk
    | lt => exact pm_s_if (fun H locs LS x r tgt h9 k9 => lv_if_lt hx hb hd h9 (fun h => by rw [if_pos h] at k9; exact k9) (fun h => by rw [if_neg h] at k9; exact k9)) hs kk
    | ge => exact pm_s_if (fun H locs LS x r tgt h9 k9 => lv_if_ge hx hb hd h9 (fun h => by rw [if_pos h] at k9; exact k9) (fun h => by rw [if_neg h] at k9; exact k9)) hs kk
    | gt => exact pm_s_if (fun H locs LS x r tgt h9 k9 => lv_if_gt hx hb hd h9 (fun h => by rw [if_pos h] at k9; exact k9) (fun h => by rw [if_neg h] at k9; exact k9)) hs kk
    | le => exact pm_s_if (fun H locs LS x r tgt h9 k9 => lv_if_le hx hb hd h9 (fun h => by rw [if_pos h] at k9; exact k9) (fun h => by rw [if_neg h] at k9; exact k9)) hs kk
  | if_icmp q off =>
    cases q with
    | eq => exact pm_s_ic2 (fun H locs LS x y r tgt h9 k9 => lv_icmp_eq hx hb hd h9 (fun h => by rw [if_pos h] at k9; exact k9) (fun h => by rw [if_neg h] at k9; exact k9)) hs kk
    | ne => exact pm_s_ic2 (f := fun x y a b => if x = y then b else a) (fun H locs LS x y r tgt h9 k9 => lv_icmp_ne hx hb hd h9 (fun h => by rw [if_neg h] at k9; exact k9) (fun h => by rw [if_pos h] at k9; exact k9)) hs kk
    | lt => exact pm_s_ic2 (fun H locs LS x y r tgt h9 k9 => lv_icmp_lt hx hb hd h9 (fun h => by rw [if_pos h] at k9; exact k9) (fun h => by rw [if_neg h] at k9; exact k9)) hs kk
    | ge => exact pm_s_ic2 (fun H locs LS x y r tgt h9 k9 => lv_icmp_ge hx hb hd h9 (fun h => by rw [if_pos h] at k9; exact k9) (fun h => by rw [if_neg h] at k9; exact k9)) hs kk
    | gt => exact pm_s_ic2 (fun H locs LS x y r tgt h9 k9 => lv_icmp_gt hx hb hd h9 (fun h => by rw [if_pos h] at k9; exact k9) (fun h => by rw [if_neg h] at k9; exact k9)) hs kk
    | le => exact pm_s_ic2 (fun H locs LS x y r tgt h9 k9 => lv_icmp_le hx hb hd h9 (fun h => by rw [if_pos h] at k9; exact k9) (fun h => by rw [if_neg h] at k9; exact k9)) hs kk
  | getfield idx => exact pm_s_gf C0 hd hs kk
  | putfield idx => exact pm_s_pf C0 hd hs kk
  | getstatic idx => exact pm_s_gs C0 hd hs kk
  | ldc idx => exact pm_s_ldc C0 hd hs kk
  | ldc_w idx =>
    refine pm_s_push (fun w hv H locs LS r hW hF => ?_) hs kk
    obtain ⟨z, hz, rfl⟩ := Option.map_eq_some_iff.mp hv
    exact ⟨trivial, fun k9 => lv_ldcw hx hb hown (hts _ (pm_ic_ok hz)) hd k9⟩
  | ldc2_w idx =>
    refine pm_s_push (fun w hv H locs LS r hW hF => ?_) hs kk
    obtain ⟨z, hz, rfl⟩ := Option.map_eq_some_iff.mp hv
    exact ⟨trivial, fun k9 => lv_ldc2 hx hb hown (hts _ (pm_lc_ok hz)) hd k9⟩
  | iaload => exact pm_s_iald C0 hd hs hc kk
  | baload => exact pm_s_bald C0 hd hs hc kk
  | aaload => exact pm_s_aald C0 hd hs hc kk
  | iastore => exact pm_s_iast C0 hd hs hc kk
  | bastore => exact pm_s_bast C0 hd hs hc kk
  | arraylength => exact pm_s_alen C0 hd hs kk
  | _ => cases hs
theorem pm_runs (hok : pm_ok mi) (C : pm_Cx mi p R s m args c cells slots D E A xs L) : ∀ (n : Nat) {pc : Nat} {ls : pm_L} {st : List pm_V} {M : pm_M} {cs : List Prop} {s' : pm_S}, pm_run mi n pc ls st M = some (cs, s') → pm_all cs → pm_J p l e R s m args below meth c cells slots Z D E A xs L nL s'.1 s'.2.1 s'.2.2.1 s'.2.2.2 → pm_J p l e R s m args below meth c cells slots Z D E A xs L nL pc ls st M := by
  intro n
  induction n with
  | zero =>
    intro pc ls st M cs s' h _ kk
    cases h
    exact kk
  | succ n ih =>
    intro pc ls st M cs s' h hc kk
    rw [pm_run] at h
    split at h
    · rename_i i hi
      split at h
      · rename_i c1 pc1 ls1 st1 M1 h1
        split at h
        · rename_i c2 s2 h2
          cases h
          obtain ⟨a, b⟩ := pm_all_app hc
          exact pm_sound hok C hi h1 a (ih h2 b kk)
        · cases h
      · cases h
    · cases h
end PmU
end
section
/-! the judgements: pm_G within a method, pm_Sem of a whole call -/
def pm_rt (ret : Option FieldType) (i : Instr) (st : List pm_V) (v : Option pm_V) : Prop := match i with
  | .return_ => ret = none ∧ st = [] ∧ v = none
  | .ireturn => ∃ (ty : FieldType) (x : Int32), ret = some ty ∧ st = [pm_i x] ∧ v = some (pm_i x) ∧ narrow ty (.int x) = .int x
  | .lreturn => ∃ x : Int64, ret = some .long ∧ st = [pm_l x] ∧ v = some (pm_l x)
  | .areturn => ∃ (t k : Nat) (n : String), ret = some (.object n) ∧ st = [pm_r t k] ∧ v = some (pm_r t k) ∧ t ≠ 54
  | _ => False
def pm_G (mi : pm_MI) (pc : Nat) (ls : pm_L) (st : List pm_V) (M : pm_M) (Q : Option pm_V → pm_M → Prop) : Prop :=
  ∀ (p : Program) (l : Launch) (e : Env) (R : Room) (s : State) (m : MethodId) (args : Array Value) (below : List Frame) (meth : Method) (c : Code) (cells slots : Nat) (Z : State → Prop) (D : va_G) (E : pm_E) (A : Nat → Prop) (xs : Nat → Int32) (L : Int32),
    pm_ok mi → pm_Cx mi p R s m args c cells slots D E A xs L →
    (∀ (pc' : Nat) (i : Instr) (st' : List pm_V) (v : Option pm_V) (M' : pm_M) (H' : Heap) (locs' : List Loc) (LS' : Array Slot), Q v M' → pm_tab mi pc' = some i → pm_rt mi.2.2.2.2.1 i st' v → pm_Wd D E A s xs L M' H' locs' → (∀ w ∈ st', pm_okv w) → W p l e R s m args below meth c H' locs' cells slots Z (F0 m pc' LS' (st'.map (pm_cv E)))) →
    pm_J p l e R s m args below meth c cells slots Z D E A xs L mi.2.2.2.1 pc ls st M
def pm_ws (mi : pm_MI) : List Cond := Cond.code mi.2.1 mi.2.2.1 mi.2.2.2.1 mi.2.2.2.2.1 :: pm_gw
def pm_rm (mi : pm_MI) : Room := { frames := mi.2.2.2.2.2.2.1, cells := 0, slots := 0, locals := mi.2.2.2.2.2.2.2 }
def pm_B (D : va_G) (E : pm_E) (sz : Nat) (M : pm_M) (U : State) : Prop := U.heap.size = sz ∧ va_P D pm_cl (pm_wl E M) U.heap ∧ va_D (pm_A E sz) (pm_wl E M) ∧ va_K D pm_cl (pm_tys E) U ∧ pm_St E (pm_A E sz) U U.heap
def pm_Q (D : va_G) (E : pm_E) (sz : Nat) (xs : Nat → Int32) (L : Int32) (Q : Option pm_V → pm_M → Prop) : Array Value → State → Outcome → State → Prop := fun _ st oc t =>
  (∃ (v : Option pm_V) (M' : pm_M), oc = .returned (v.map (pm_cv E)) ∧ Q v M' ∧ (∀ w, v = some w → pm_okv w) ∧ va_P D pm_cl (pm_wl E M') t.heap ∧ M'.1 50 0 = xs ∧ M'.1 49 0 0 = L) ∧ va_F (pm_A E sz) st t
def pm_Sem (mi : pm_MI) (as : List pm_V) (M : pm_M) (Q : Option pm_V → pm_M → Prop) : Prop :=
  ∀ (l : Launch) (D : va_G) (E : pm_E) (sz : Nat) (xs : Nat → Int32) (L : Int32), (∀ v ∈ as, pm_okv v) → M.1 50 0 = xs → M.1 49 0 0 = L → Met l mi.2.1 (pm_ws mi) (pm_rm mi) (va_Pc (as.map (pm_cv E)) (pm_B D E sz M)) (pm_Q D E sz xs L Q) 0 0 (pm_A E sz)
theorem pm_G_run {mi : pm_MI} {pc : Nat} {ls : pm_L} {st : List pm_V} {M : pm_M} {Q : Option pm_V → pm_M → Prop} (n : Nat) {cs : List Prop} {pc' : Nat} {ls' : pm_L} {st' : List pm_V} {M' : pm_M} (h : pm_run mi n pc ls st M = some (cs, pc', ls', st', M')) (hc : pm_all cs) (k : pm_G mi pc' ls' st' M' Q) : pm_G mi pc ls st M Q := by
  intro p l e R s m args below meth c cells slots Z D E A xs L hok C hZ
  exact pm_runs hok C n h hc (k p l e R s m args below meth c cells slots Z D E A xs L hok C hZ)
theorem pm_G_ret {mi : pm_MI} {pc : Nat} {ls : pm_L} {st : List pm_V} {M : pm_M} {Q : Option pm_V → pm_M → Prop} {i : Instr} {v : Option pm_V} (ht : pm_tab mi pc = some i) (hr : pm_rt mi.2.2.2.2.1 i st v) (hq : Q v M) : pm_G mi pc ls st M Q := by
  intro p l e R s m args below meth c cells slots Z D E A xs L hok C hZ H locs LS hW hF
  exact hZ pc i st v M H locs LS hq ht hr hW hF.ok
theorem pm_G_imp {mi : pm_MI} {pc : Nat} {ls : pm_L} {st : List pm_V} {M : pm_M} {Q Q' : Option pm_V → pm_M → Prop} (h : pm_G mi pc ls st M Q) (hq : ∀ v M', Q v M' → Q' v M') : pm_G mi pc ls st M Q' := by
  intro p l e R s m args below meth c cells slots Z D E A xs L hok C hZ
  exact h p l e R s m args below meth c cells slots Z D E A xs L hok C (fun pc' i st' v M' H' locs' LS' q => hZ pc' i st' v M' H' locs' LS' (hq v M' q))
/-- fewer locals -/
theorem pm_G_sub {mi : pm_MI} {pc : Nat} {ls ls' : pm_L} {st : List pm_V} {M : pm_M} {Q : Option pm_V → pm_M → Prop} (hl : ls'.length = ls.length) (h : ∀ (i : Nat) (v : pm_V), ls'[i]? = some (some v) → ls[i]? = some (some v)) (k : pm_G mi pc ls' st M Q) : pm_G mi pc ls st M Q := by
  intro p l e R s m args below meth c cells slots Z D E A xs L hok C hZ H locs LS hW hF
  exact k p l e R s m args below meth c cells slots Z D E A xs L hok C hZ H locs LS hW ⟨hF.1, hF.2.1, hl.trans hF.2.2.1, fun i v hv => hF.2.2.2.1 i v (h i v hv), hF.2.2.2.2⟩
theorem pm_Sem_imp {mi : pm_MI} {as : List pm_V} {M : pm_M} {Q Q' : Option pm_V → pm_M → Prop} (h : pm_Sem mi as M Q) (hq : ∀ v M', Q v M' → Q' v M') : pm_Sem mi as M Q' := by
  intro l D E sz xs L h1 h2 h3
  intro p e ha hc hk s m args below hf happ hP hK
  obtain ⟨n, o, a1, a2, a3, ⟨⟨v, M', q1, q2, q3⟩, q4⟩, q5⟩ := h l D E sz xs L h1 h2 h3 p e ha hc hk s m args below hf happ hP hK
  exact ⟨n, o, a1, a2, a3, ⟨⟨v, M', q1, hq v M' q2, q3⟩, q4⟩, q5⟩
-- the entry
def pm_en : List pm_V → pm_L
  | [] => []
  | v :: vs => if pm_is1 v = true then some v :: pm_en vs else some v :: none :: pm_en vs
theorem pm_cat2 {E : pm_E} {v : pm_V} (h : ¬ pm_is1 v = true) : (pm_cv E v).category = 2 := by
  rcases v with x | x | ⟨t, k⟩
  · exact absurd rfl h
  · rfl
  · exact absurd rfl h
theorem pm_en_len {E : pm_E} (hE : E.2.1.category = 1) : ∀ as : List pm_V, (lg_sl (as.map (pm_cv E))).length = (pm_en as).length
  | [] => rfl
  | v :: vs => by
    have ih := pm_en_len hE vs
    unfold lg_sl at ih ⊢
    rw [List.map_cons, List.flatMap_cons, List.length_append, ih]
    by_cases h : pm_is1 v = true
    · rw [pm_en, if_pos h, pm_cat hE h]
      simp
      omega
    · rw [pm_en, if_neg h, pm_cat2 h]
      simp
      omega
theorem pm_en_in {E : pm_E} (hE : E.2.1.category = 1) : ∀ (as : List pm_V) (off i : Nat) (v : pm_V), (pm_en as)[i]? = some (some v) → (off + i, pm_cv E v) ∈ lv_args off (as.map (pm_cv E)) ∧ v ∈ as
  | [], off, i, v, h => by simp [pm_en] at h
  | w :: ws, off, i, v, h => by
    rw [List.map_cons, lv_args]
    by_cases h1 : pm_is1 w = true
    · rw [pm_en, if_pos h1] at h
      rw [pm_cat hE h1]
      rcases i with _ | i
      · simp at h
        subst h
        exact ⟨List.mem_cons_self, List.mem_cons_self⟩
      · have := pm_en_in hE ws (off + 1) i v (by simpa using h)
        refine ⟨List.mem_cons_of_mem _ ?_, List.mem_cons_of_mem _ this.2⟩
        rw [if_neg (by decide)]
        rw [show off + (i + 1) = off + 1 + i by omega]
        exact this.1
    · rw [pm_en, if_neg h1] at h
      rw [pm_cat2 h1]
      rcases i with _ | _ | i
      · simp at h
        subst h
        exact ⟨List.mem_cons_self, List.mem_cons_self⟩
      · simp at h
      · have := pm_en_in hE ws (off + 2) i v (by simpa using h)
        refine ⟨List.mem_cons_of_mem _ ?_, List.mem_cons_of_mem _ this.2⟩
        rw [if_pos rfl]
        rw [show off + (i + 1 + 1) = off + 2 + i by omega]
        exact this.1
set_option maxHeartbeats 4000000 in
/-- a method's contract out of its walk -/
theorem pm_Sem_of {mi : pm_MI} {as : List pm_V} {ls : pm_L} {M : pm_M} {Q : Option pm_V → pm_M → Prop} (hok : pm_ok mi) (hpl : plainName mi.2.1.cls = true) (hcl : mi.2.1.cls = pm_RN mi.1) (h7 : mi.1 ≠ 7) (hln : (pm_en as).length ≤ mi.2.2.2.1) (hls : pm_en as ++ List.replicate (mi.2.2.2.1 - (pm_en as).length) none = ls) (h : pm_G mi 0 ls [] M Q) : pm_Sem mi as M Q := by
  intro l D E sz xs L hv h50 h49
  refine Met.ofW (cc := mi.2.2.1) (maxL := mi.2.2.2.1) (ret := mi.2.2.2.2.1) hpl rfl ?_
  intro p e s m args below meth c s₁ B hml hP
  obtain ⟨rfl, hsz, hP, hD, hK, hSt⟩ := hP
  have hE := hSt.cat
  have hx := B.exec
  have hb := B.bytes
  have hr := B.returns
  have hts := atoms_spec (ws := pm_ws mi) B.pre
  have hown : s.vm.findClass mi.2.1.cls = some m.cls := findClass_of_methodNamed B.named
  have hlocks := B.notSynchronized
  subst hsz
  have hl := lv_entry (as.map (pm_cv E)) (n := mi.2.2.2.1) (by rw [pm_en_len hE]; exact hln)
  rw [lg_entry_eq]
  generalize (lg_sl (as.map (pm_cv E)) ++ List.replicate (mi.2.2.2.1 - (lg_sl (as.map (pm_cv E))).length) Slot.unset).toArray = LS at hl ⊢
  refine h p l e (headSpec (pm_ws mi) (pm_rm mi)).room s m _ below meth c 0 0 _ D E (pm_A E s.heap.size) xs L hok ⟨hx, hb, hml, by rw [← hcl]; exact hown, fun w hw => hts w (List.mem_cons_of_mem _ hw), hK, hSt, ⟨Nat.le_refl _, Nat.le_refl _, Nat.zero_le _, Nat.zero_le _⟩, fun q hq => Or.inr hq, fun q => absurd q h7⟩ ?_ s.heap [] LS ⟨hP, hD, va_S.rf, h50, h49⟩ ?_
  · intro pc' i st' v M' H' locs' LS' hq ht hrt hW hst
    have hd := pm_tab_ok hok ht
    have post : ∀ (t : State), t.heap = H' → s.WarmedH t.vm → (∀ w, v = some w → pm_okv w) → pm_Q D E s.heap.size xs L Q (as.map (pm_cv E)).toArray s (.returned (v.map (pm_cv E))) t := fun t ht hWm hw => ⟨⟨v, M', rfl, hq, hw, by rw [ht]; exact hW.1, hW.2.2.2.1, hW.2.2.2.2⟩, hW.2.2.1.F ht⟩
    cases i with
    | return_ =>
      obtain ⟨r1, rfl, rfl⟩ := hrt
      rw [r1] at hr
      exact W.vret hx hb hr (fun t ht hWm => post t ht hWm (fun w h => by cases h)) hW.2.2.1.2.2 hd
    | ireturn =>
      obtain ⟨ty, x, r1, rfl, rfl, r4⟩ := hrt
      rw [r1] at hr
      exact W.zret hx hb hr r4 (fun t ht hWm => post t ht hWm (fun w h => by cases h; trivial)) hW.2.2.1.2.2 hd
    | lreturn =>
      obtain ⟨x, r1, rfl, rfl⟩ := hrt
      rw [r1] at hr
      exact W.lret hx hb hr (fun t ht hWm => post t ht hWm (fun w h => by cases h; trivial)) hW.2.2.1.2.2 hd
    | areturn =>
      obtain ⟨t, k, n, r1, rfl, rfl, r4⟩ := hrt
      rw [r1] at hr
      exact W.aret (v := pm_cv E (pm_r t k)) hx hb hr (Or.inl ⟨n, rfl⟩) (Or.inr ⟨E.1 t k, pm_cv_r r4⟩) (fun t' ht hWm => post t' ht hWm (fun w h => by cases h; exact hst _ List.mem_cons_self)) hW.2.2.1.2.2 hd
    | _ => exact hrt.elim
  · refine ⟨hl.1, hl.2.1, ?_, fun i v hi => ?_, fun v hv => by cases hv⟩
    · rw [← hls]
      simp
      omega
    · rw [← hls, List.getElem?_append] at hi
      split at hi
      · have := pm_en_in hE as 0 i v hi
        rw [Nat.zero_add] at this
        exact ⟨hl.2.2 _ this.1, hv v this.2⟩
      · rw [List.getElem?_replicate] at hi
        split at hi <;> cases hi
end
section
/-! calls -/
def pm_ct (v : pm_V) : Nat := if pm_is1 v = true then 1 else 2
theorem pm_cts {E : pm_E} (hE : E.2.1.category = 1) (st : List pm_V) : ((st.map (pm_cv E)).map fun v => v.category) = st.map pm_ct := by
  rw [List.map_map]
  apply List.map_congr_left
  intro v _
  unfold pm_ct
  by_cases h : pm_is1 v = true
  · simp [h, pm_cat hE h]
  · simp [h, pm_cat2 h]
theorem pm_A_sub {E : pm_E} {M : pm_M} {A : Nat → Prop} {s : State} {H : Heap} {locs : List Loc} (hA : ∀ q, s.heap.size ≤ q → A q) (hD : va_D A (pm_wl E M)) (hS : va_S A s.heap H locs) : ∀ q, pm_A E H.size q → A q := by
  intro q hq
  rcases hq with ⟨c, hc, rfl⟩ | h
  · exact pm_A_in hD hc
  · exact hA q (Nat.le_trans hS.1 h)
theorem pm_blind {D : va_G} {E : pm_E} {sz : Nat} {M : pm_M} {av : List Value} : FrameBlind (va_Pc av (pm_B D E sz M)) := by
  intro a U g mk q
  obtain ⟨q0, q1, qP, qD, qK, qS⟩ := q
  exact ⟨q0, q1, qP, qD, va_K.moved (u := U) (U := U.calling g mk a) (Vm.Alike.refl U.vm) qK, qS.blind g mk a⟩
section PmC
variable {p : Program} {l : Launch} {e : Env} {R : Room} {s : State} {m : MethodId} {args : Array Value} {below : List Frame} {meth : Method} {c : Code} {cells slots : Nat} {Z : State → Prop} {D : va_G} {E : pm_E} {A : Nat → Prop} {xs : Nat → Int32} {L : Int32} {M : pm_M} {H : Heap} {locs : List Loc} {pc : Nat} {LS : Array Slot} {st0 rest : List Value} {Q : Option pm_V → pm_M → Prop} {a : Array Value}
theorem pm_atU (hA : ∀ q, s.heap.size ≤ q → A q) (hK : va_K D pm_cl (pm_tys E) s) (hSt : pm_St E A s s.heap) (hW : pm_Wd D E A s xs L M H locs) {U : State} (hU : U.heap = H) (hWm : s.WarmedH U.vm) : pm_B D E H.size M U := by
  refine ⟨by rw [hU], by rw [hU]; exact hW.1, pm_D_A hW.2.1, va_K.moved hWm.alike hK, ?_⟩
  rw [hU]
  exact ((hSt.warm hWm).kept hW.2.2.1.2.1).narrow (pm_A_sub hA hW.2.1 hW.2.2.1)
theorem pm_back (hA : ∀ q, s.heap.size ≤ q → A q) (hW : pm_Wd D E A s xs L M H locs) (hr : va_Run p l e R s m args below meth c H locs cells slots 0 0 (F0 m pc LS st0) rest (pm_Q D E H.size xs L Q a) (pm_A E H.size))
    (kk : ∀ (v : Option pm_V) (M' : pm_M) (H' : Heap) (locs' : List Loc), Q v M' → (∀ w, v = some w → pm_okv w) → pm_Wd D E A s xs L M' H' locs' → W p l e R s m args below meth c H' locs' cells slots Z (F0 m (pc + 3) LS ((v.map (pm_cv E)).toList ++ rest))) : W p l e R s m args below meth c H locs cells slots Z (F0 m pc LS st0) := by
  intro T hT X
  obtain ⟨v9, st₀, t, T', L9, h0, X', hL, e1, e2, ⟨⟨v, M', hv, hq, hw, hP, x1, x2⟩, hz, hk⟩, st⟩ := hr T hT X
  cases hv
  rw [h0] at hz hk
  have hAs := pm_A_sub hA hW.2.1 hW.2.2.1
  have hS := hW.2.2.1
  obtain ⟨t2, a1, b1⟩ := kk v M' T'.heap (locs ++ L9) hq hw ⟨by rw [e1]; exact hP, pm_D_any hW.2.1, ⟨Nat.le_trans hS.1 (by rw [e1]; exact hz), fun q h1 h2 => by rw [e1, hk q (Nat.lt_of_lt_of_le h1 hS.1) (fun z => h2 (hAs q z))]; exact hS.2.1 q h1 h2, fun q hq => by
      rcases List.mem_append.mp hq with h | h
      · exact hS.2.2 q h
      · exact hAs _ (hL q h)⟩, x1, x2⟩ T' rfl X'
  exact ⟨t2, st t2 a1, b1⟩
end PmC
/-- a link to an instance method -/
def pm_LV (o idx : Nat) (mc : pm_MI) (n : Nat) : Prop := (Cond.methodLink (pm_RN o) idx mc.2.1 ∈ pm_gw ∧ Cond.instanceMethod mc.2.1 ∈ pm_gw ∧ Cond.selects mc.2.1.cls mc.2.1 mc.2.1 ∈ pm_gw ∧ Cond.initialized mc.2.1.cls ∈ pm_gw) ∧ (mc.2.1.cls ≠ "java/lang/invoke/MethodHandle" ∧ mc.2.1.cls ≠ "java/lang/invoke/VarHandle" ∧ (parseMethodDescriptor mc.2.1.desc).map (fun d => d.parameters.length) = some n) ∧ mc.2.1.cls = pm_RN mc.1 ∧ pm_ok mc
def pm_LS (o idx : Nat) (mc : pm_MI) (n : Nat) : Prop := (Cond.methodLink (pm_RN o) idx mc.2.1 ∈ pm_gw ∧ Cond.static mc.2.1 ∈ pm_gw ∧ Cond.initialized mc.2.1.cls ∈ pm_gw) ∧ (mc.2.1.cls ≠ "java/lang/invoke/MethodHandle" ∧ mc.2.1.cls ≠ "java/lang/invoke/VarHandle" ∧ (parseMethodDescriptor mc.2.1.desc).map (fun d => d.parameters.length) = some n) ∧ pm_ok mc
def pm_LN (o idx : Nat) (mc : pm_MI) (n : Nat) : Prop := (Cond.methodLinkNest (pm_RN o) idx mc.2.1 "WheelTickets" ∈ pm_nw ∧ Cond.static mc.2.1 ∈ pm_gw ∧ Cond.initialized mc.2.1.cls ∈ pm_gw) ∧ (mc.2.1.cls ≠ "java/lang/invoke/MethodHandle" ∧ mc.2.1.cls ≠ "java/lang/invoke/VarHandle" ∧ (parseMethodDescriptor mc.2.1.desc).map (fun d => d.parameters.length) = some n) ∧ pm_ok mc
def pm_rcv (t : Nat) (mc : pm_MI) : Bool := match pm_sh t with
  | some (.inl (ci, _)) => ci == mc.1
  | some _ => false
  | none => t == 52 && mc.1 == 8
theorem pm_gws {mc : pm_MI} (h : pm_ok mc) : GoodIn pm_gw (pm_ws mc) := by
  intro w hw
  rcases List.mem_cons.mp hw with rfl | h1
  · exact pm_gg _ h.2
  · exact pm_gg _ h1
/-- there is room for the call -/
def pm_fit (mi mc : pm_MI) : Bool := decide (mc.2.2.2.2.2.2.1 + 1 ≤ mi.2.2.2.2.2.2.1) && decide (8 + (mc.2.2.2.1 + 11) + mc.2.2.2.2.2.2.2 ≤ mi.2.2.2.2.2.2.2)
section PmD
variable {mi mc : pm_MI} {pc idx n : Nat} {ls : pm_L} {as st stk : List pm_V} {M : pm_M} {Q Qc : Option pm_V → pm_M → Prop} {t k : Nat}
set_option maxHeartbeats 4000000 in
theorem pm_G_callV (hl : pm_LV mi.1 idx mc n) (ht : pm_tab mi pc = some (.invokevirtual idx)) (hs : stk = as.reverse ++ pm_r t k :: st) (hn : as.length = n) (hrc : pm_rcv t mc = true) (hct : (st.map pm_ct).sum ≤ 8) (hR : pm_fit mi mc = true) (h : pm_Sem mc (pm_r t k :: as) M Qc) (kk : ∀ v M', Qc v M' → pm_G mi (pc + 3) ls (v.toList ++ st) M' Q) : pm_G mi pc ls stk M Q := by
  subst hs
  intro p l e R s m args below meth c cells slots Z D E A xs L hok C hZ H locs LS hW hF
  have hd := pm_tab_ok hok ht
  have C0 := C
  obtain ⟨hx, hb, hml, hown, hts, hK, hSt, ⟨r1, r2, r3, r4⟩, hA, hX⟩ := C
  have hE := hSt.cat
  obtain ⟨⟨w1, w2, w3, w4⟩, hnm, hcl, hokc⟩ := hl
  simp only [pm_fit, Bool.and_eq_true, decide_eq_true_eq] at hR
  have okst : ∀ v ∈ pm_r t k :: as, pm_okv v := by
    intro v hv
    refine hF.ok v ?_
    rcases List.mem_cons.mp hv with rfl | h9
    · exact List.mem_append_right _ List.mem_cons_self
    · exact List.mem_append_left _ (List.mem_reverse.mpr h9)
  have hk : k < pm_cnt t := okst _ List.mem_cons_self
  have h54 : t ≠ 54 := by
    rintro rfl
    simp [pm_rcv, pm_sh] at hrc
  have hM := h l D E H.size xs L okst hW.2.2.2.1 hW.2.2.2.2
  rw [List.map_cons, pm_cv_r h54] at hM
  have hG : GoodIn pm_gw (wsV (pm_RN mi.1) idx mc.2.1.cls mc.2.1 (pm_ws mc)) := by
    intro w hw
    unfold wsV at hw
    rcases List.mem_append.mp hw with h1 | h1
    · simp only [List.mem_cons, List.not_mem_nil, or_false] at h1
      rcases h1 with rfl | rfl | rfl | rfl
      · exact pm_gg _ w1
      · exact pm_gg _ w2
      · exact pm_gg _ w3
      · exact pm_gg _ w4
    · exact pm_gws hokc w h1
  have hrecv : ∃ cellB : Cell, H[E.1 t k]? = some cellB ∧ cellB.vm.isStatics = false ∧ s.vm.findClass mc.2.1.cls = some cellB.cls := by
    unfold pm_rcv at hrc
    split at hrc
    · rename_i ci fs hsh
      have hci : ci = mc.1 := by simpa using hrc
      obtain ⟨j, hj, -⟩ := pm_at E M (pm_sh_lt hsh) hk
      have hent : pm_ent E M t k = .inr (ci, fs.mapIdx (fun i f => pm_fv E M t k i f)) := by unfold pm_ent; rw [hsh]
      rw [hent] at hj
      have := va_recv hK hW.1 (pm_clat ci (pm_obj hsh).1) hj
      rw [hcl, ← hci]
      exact this
    · cases hrc
    · have h52 : t = 52 ∧ mc.1 = 8 := by simpa using hrc
      obtain ⟨rfl, h8⟩ := h52
      rw [hcl, h8]
      exact vk_recv hSt.2.2.2.2.2.2.1 hk hW.2.2.1
  have hrun := va_runV (p := p) (l := l) (e := e) (R := R) (s := s) (m := m) (args := args) (below := below) (meth := meth) (c := c) (H := H) (locs := locs) (cells := cells) (slots := slots) (b := E.1 t k) (As := as.map (pm_cv E)) (rest := st.map (pm_cv E)) (g := F0 m pc LS ((as.reverse ++ pm_r t k :: st).map (pm_cv E))) (Ts := pm_gw) ⟨hx, hb, hml, hown, hts⟩ hM (cwV (ws' := pm_gw) n hts hG rfl rfl rfl ⟨rfl, hnm.1, hnm.2.1, hnm.2.2⟩ ⟨Nat.le_trans hR.1 r1, Nat.le_trans hR.2 r2⟩) ⟨pm_blind, hrecv, fun U hU hWm => ⟨rfl, pm_atU hA hK hSt hW hU hWm⟩⟩ rfl (by simp [hn]) hF.1 (by simp [pm_cv, h54]) (lv_room (by rw [pm_cts hE]; exact hct)) hd ⟨r3, r4⟩
  refine pm_back hA hW hrun (fun v M' H' locs' hq hw hW' => ?_)
  have := kk v M' hq p l e R s m args below meth c cells slots Z D E A xs L hok C0 hZ H' locs' LS hW' (hF.stk ?_)
  · rw [List.map_append] at this
    cases v <;> exact this
  · intro w hw9
    rcases List.mem_append.mp hw9 with h1 | h1
    · cases v with
      | none => cases h1
      | some v => simp at h1; subst h1; exact hw _ rfl
    · exact hF.ok w (List.mem_append_right _ (List.mem_cons_of_mem _ h1))
set_option maxHeartbeats 4000000 in
theorem pm_G_callS (hl : pm_LS mi.1 idx mc n) (ht : pm_tab mi pc = some (.invokestatic idx)) (hs : stk = as.reverse ++ st) (hn : as.length = n) (hct : (st.map pm_ct).sum ≤ 8) (hR : pm_fit mi mc = true) (h : pm_Sem mc as M Qc) (kk : ∀ v M', Qc v M' → pm_G mi (pc + 3) ls (v.toList ++ st) M' Q) : pm_G mi pc ls stk M Q := by
  subst hs
  intro p l e R s m args below meth c cells slots Z D E A xs L hok C hZ H locs LS hW hF
  have hd := pm_tab_ok hok ht
  have C0 := C
  obtain ⟨hx, hb, hml, hown, hts, hK, hSt, ⟨r1, r2, r3, r4⟩, hA, hX⟩ := C
  have hE := hSt.cat
  obtain ⟨⟨w1, w2, w4⟩, hnm, hokc⟩ := hl
  simp only [pm_fit, Bool.and_eq_true, decide_eq_true_eq] at hR
  have okst : ∀ v ∈ as, pm_okv v := fun v hv => hF.ok v (List.mem_append_left _ (List.mem_reverse.mpr hv))
  have hM := h l D E H.size xs L okst hW.2.2.2.1 hW.2.2.2.2
  have hG : GoodIn pm_gw (va_wsS (pm_RN mi.1) idx mc.2.1 (pm_ws mc)) := by
    intro w hw
    unfold va_wsS at hw
    rcases List.mem_append.mp hw with h1 | h1
    · simp only [List.mem_cons, List.not_mem_nil, or_false] at h1
      rcases h1 with rfl | rfl | rfl
      · exact pm_gg _ w1
      · exact pm_gg _ w2
      · exact pm_gg _ w4
    · exact pm_gws hokc w h1
  have hrun := va_runS (p := p) (l := l) (e := e) (R := R) (s := s) (m := m) (args := args) (below := below) (meth := meth) (c := c) (H := H) (locs := locs) (cells := cells) (slots := slots) (As := as.map (pm_cv E)) (rest := st.map (pm_cv E)) (g := F0 m pc LS ((as.reverse ++ st).map (pm_cv E))) (Ts := pm_gw) ⟨hx, hb, hml, hown, hts⟩ hM (va_cwS (ws' := pm_gw) n hts hG rfl rfl rfl hnm ⟨Nat.le_trans hR.1 r1, Nat.le_trans hR.2 r2⟩) ⟨pm_blind, fun U hU hWm => ⟨rfl, pm_atU hA hK hSt hW hU hWm⟩⟩ rfl (by simp [hn]) hF.1 (by simp) (lv_room (by rw [pm_cts hE]; exact hct)) hd ⟨r3, r4⟩
  refine pm_back hA hW hrun (fun v M' H' locs' hq hw hW' => ?_)
  have := kk v M' hq p l e R s m args below meth c cells slots Z D E A xs L hok C0 hZ H' locs' LS hW' (hF.stk ?_)
  · rw [List.map_append] at this
    cases v <;> exact this
  · intro w hw9
    rcases List.mem_append.mp hw9 with h1 | h1
    · cases v with
      | none => cases h1
      | some v => simp at h1; subst h1; exact hw _ rfl
    · exact hF.ok w (List.mem_append_right _ h1)
set_option maxHeartbeats 4000000 in
theorem pm_G_callN (hl : pm_LN mi.1 idx mc n) (ht : pm_tab mi pc = some (.invokestatic idx)) (hs : stk = as.reverse ++ st) (hn : as.length = n) (hct : (st.map pm_ct).sum ≤ 8) (hR : pm_fit mi mc = true) (h : pm_Sem mc as M Qc) (kk : ∀ v M', Qc v M' → pm_G mi (pc + 3) ls (v.toList ++ st) M' Q) : pm_G mi pc ls stk M Q := by
  subst hs
  intro p l e R s m args below meth c cells slots Z D E A xs L hok C hZ H locs LS hW hF
  have hd := pm_tab_ok hok ht
  have C0 := C
  obtain ⟨hx, hb, hml, hown, hts, hK, hSt, ⟨r1, r2, r3, r4⟩, hA, hX⟩ := C
  have hE := hSt.cat
  obtain ⟨⟨w1, w2, w4⟩, hnm, hokc⟩ := hl
  simp only [pm_fit, Bool.and_eq_true, decide_eq_true_eq] at hR
  have okst : ∀ v ∈ as, pm_okv v := fun v hv => hF.ok v (List.mem_append_left _ (List.mem_reverse.mpr hv))
  have hM := h l D E H.size xs L okst hW.2.2.2.1 hW.2.2.2.2
  have hrun := va_runSN (p := p) (l := l) (e := e) (R := R) (s := s) (m := m) (args := args) (below := below) (meth := meth) (c := c) (H := H) (locs := locs) (cells := cells) (slots := slots) (As := as.map (pm_cv E)) (rest := st.map (pm_cv E)) (g := F0 m pc LS ((as.reverse ++ st).map (pm_cv E))) (Ts := pm_gw) ⟨hx, hb, hml, hown, hts⟩ hM ⟨va_cnB (ws' := pm_gw) n hts (pm_gws hokc) rfl rfl rfl (hSt.1 _ w1) (hts _ w4) hnm ⟨Nat.le_trans hR.1 r1, Nat.le_trans hR.2 r2⟩, hts _ w2, trivial⟩ ⟨pm_blind, fun U hU hWm => ⟨rfl, pm_atU hA hK hSt hW hU hWm⟩⟩ rfl (by simp [hn]) hF.1 (by simp) (lv_room (by rw [pm_cts hE]; exact hct)) hd ⟨r3, r4⟩
  refine pm_back hA hW hrun (fun v M' H' locs' hq hw hW' => ?_)
  have := kk v M' hq p l e R s m args below meth c cells slots Z D E A xs L hok C0 hZ H' locs' LS hW' (hF.stk ?_)
  · rw [List.map_append] at this
    cases v <;> exact this
  · intro w hw9
    rcases List.mem_append.mp hw9 with h1 | h1
    · cases v with
      | none => cases h1
      | some v => simp at h1; subst h1; exact hw _ rfl
    · exact hF.ok w (List.mem_append_right _ h1)
theorem pm_w_acl : Cond.methodLink "WheelTickets$Wheel" 49 arraycopyName ∈ pm_gw := pm_in (List.mem_of_getElem? (i := 441) (by decide +kernel)) (by decide +kernel)
theorem pm_w_acs : Cond.static arraycopyName ∈ pm_gw := pm_in (List.mem_of_getElem? (i := 442) (by decide +kernel)) (by decide +kernel)
theorem pm_w_acn : Cond.native arraycopyName ∈ pm_gw := pm_in (List.mem_of_getElem? (i := 443) (by decide +kernel)) (by decide +kernel)
theorem pm_w_sys : Cond.initialized "java/lang/System" ∈ pm_gw := pm_in (List.mem_of_getElem? (i := 13) (by decide +kernel)) (by decide +kernel)
set_option maxHeartbeats 4000000 in
/-- System.arraycopy of ints, from the start -/
theorem pm_G_copy {t0 k0 t1 k1 n0 n1 : Nat} {z : Int32} (h4 : mi.1 = 4) (ht : pm_tab mi pc = some (.invokestatic 49)) (hs0 : pm_sh t0 = some (.inr (.inl (0, n0)))) (hs1 : pm_sh t1 = some (.inr (.inl (0, n1)))) (hz : ¬ z < 0) (hn0 : z.toNatClampNeg ≤ n0) (hn1 : z.toNatClampNeg ≤ n1) (hct : (st.map pm_ct).sum ≤ 8) (hR : 1 ≤ mi.2.2.2.2.2.2.1 ∧ 8 + 18 ≤ mi.2.2.2.2.2.2.2) (kk : pm_G mi (pc + 3) ls st (pm_set M t1 k1 (va_cpy (M.1 t0 k0) (M.1 t1 k1) 0 0 z.toNatClampNeg)) Q) : pm_G mi pc ls (pm_i z :: pm_i 0 :: pm_r t1 k1 :: pm_i 0 :: pm_r t0 k0 :: st) M Q := by
  intro p l e R s m args below meth c cells slots Z D E A xs L hok C hZ H locs LS hW hF
  have hd := pm_tab_ok hok ht
  have C0 := C
  obtain ⟨hx, hb, hml, hown, hts, hK, hSt, ⟨r1, r2, r3, r4⟩, hA, hX⟩ := C
  have hE := hSt.cat
  have l0 := pm_sh_lt hs0
  have l1 := pm_sh_lt hs1
  have ok := hF.ok
  have hk1 : k1 < pm_cnt t1 := pm_ok_h (pm_ok_t (pm_ok_t ok))
  have hk0 : k0 < pm_cnt t0 := pm_ok_h (pm_ok_t (pm_ok_t (pm_ok_t (pm_ok_t ok))))
  obtain ⟨j0, hj0, -⟩ := pm_at E M l0 hk0
  obtain ⟨j1, hj1, hset⟩ := pm_at E M l1 hk1
  have e0 : pm_ent E M t0 k0 = .inl (E.2.2 0, n0, .inl (M.1 t0 k0)) := by unfold pm_ent; rw [hs0]
  have e1 : ∀ M : pm_M, pm_ent E M t1 k1 = .inl (E.2.2 0, n1, .inl (M.1 t1 k1)) := fun M => by unfold pm_ent; rw [hs1]
  rw [e0] at hj0
  rw [e1] at hj1
  rw [h4] at hown
  simp only [List.map_cons]
  rw [pm_cv_r (show t1 ≠ 54 by omega), pm_cv_r (show t0 ≠ 54 by omega)]
  refine va_copyi hx hb (hml.trans hF.1.symm) hown (hts _ pm_w_acl) (hts _ pm_w_acn) (hts _ pm_w_acs) (hts _ pm_w_sys) hK hW.1 hW.2.1 hW.2.2.1 j0 j1 0 0 hj0 hj1 (ty := .int) rfl rfl rfl (by decide) (by decide) hz (by simpa using hn0) (by simpa using hn1) (fun _ _ => rfl) (Nat.le_trans hR.1 r1) ?_ hd (fun H1 locs1 hP1 hD1 hS1 => ?_)
  · rw [pm_cts hE]
    have h18 : nativeFrameWords "java/lang/System" "arraycopy" 5 + 11 = 18 := by decide +kernel
    rw [h18]
    exact Nat.le_trans (Nat.add_le_add_right hct 18) (Nat.le_trans hR.2 r2)
  · have q1 := hset (pm_set M t1 k1 (va_cpy (M.1 t0 k0) (M.1 t1 k1) 0 0 z.toNatClampNeg)) pm_ent_set
    rw [e1, pm_set_at] at q1
    have z0 : (0 : Int32).toNatClampNeg = 0 := by decide
    rw [z0, q1] at hP1
    exact kk p l e R s m args below meth c cells slots Z D E A xs L hok C0 hZ H1 locs1 LS (hW.set hP1 hS1 (pm_set_ne _ _ (by omega)) (by rw [pm_set_ne _ _ (by omega)])) (hF.stk (pm_ok_t (pm_ok_t (pm_ok_t (pm_ok_t (pm_ok_t ok))))))
/-- where a switch goes -/
def pm_tsw (pc : Nat) (d lo hi : Int) (offs : Array Int) (x : Int32) : Nat := if x.toInt < lo ∨ hi < x.toInt then pm_tg pc d else pm_tg pc (offs.getD (x.toInt - lo).toNat 0)
theorem pm_G_tsw {d lo hi : Int} {offs : Array Int} {x : Int32} (ht : pm_tab mi pc = some (.tableswitch d lo hi offs)) (hsz : (hi - lo + 1).toNat = offs.size) (h0 : 0 ≤ (pc : Int) + d) (h1 : offs.all (fun o => decide (0 ≤ (pc : Int) + o)) = true) (kk : pm_G mi (pm_tsw pc d lo hi offs x) ls st M Q) : pm_G mi pc ls (pm_i x :: st) M Q := by
  intro p l e R s m args below meth c cells slots Z D E A xs L hok C hZ H locs LS hW hF
  have hd := pm_tab_ok hok ht
  have kk := kk p l e R s m args below meth c cells slots Z D E A xs L hok C hZ H locs LS hW (hF.stk (pm_ok_t hF.ok))
  obtain ⟨hx, hb, -⟩ := C
  unfold pm_tsw at kk
  by_cases h : x.toInt < lo ∨ hi < x.toInt
  · rw [if_pos h] at kk
    exact lv_tableOut hx hb hd h (pm_tgt h0) kk
  · rw [if_neg h] at kk
    have hlt : (x.toInt - lo).toNat < offs.size := by omega
    rw [Array.getD_eq_getD_getElem?, Array.getElem?_eq_getElem hlt] at kk
    have ha := Array.all_eq_true.mp h1 _ hlt
    simp only [decide_eq_true_eq] at ha
    exact lv_tableIn hx hb hd (fun q => h (Or.inl q)) (fun q => h (Or.inr q)) (Array.getElem?_eq_getElem hlt) (pm_tgt ha) kk
theorem pm_G_lsw {d : Int} {ps : Array (Int × Int)} {x : Int32} (ht : pm_tab mi pc = some (.lookupswitch d ps)) (hp : (ps.toList.zip (ps.toList.drop 1)).all (fun (a, next) => a.1 < next.1) = true) (h0 : 0 ≤ (pc : Int) + Op.lookupswitch.offset ps.toList d x.toInt) (kk : pm_G mi (pm_tg pc (Op.lookupswitch.offset ps.toList d x.toInt)) ls st M Q) : pm_G mi pc ls (pm_i x :: st) M Q := by
  intro p l e R s m args below meth c cells slots Z D E A xs L hok C hZ H locs LS hW hF
  have hd := pm_tab_ok hok ht
  have kk := kk p l e R s m args below meth c cells slots Z D E A xs L hok C hZ H locs LS hW (hF.stk (pm_ok_t hF.ok))
  obtain ⟨hx, hb, -⟩ := C
  exact lv_lookup hx hb hd hp rfl (pm_tgt h0) kk
end PmD
end
section
theorem pm_mkok {mi : pm_MI} (h : mi.2.2.2.2.2.1.all (fun e => decide (decode mi.2.2.1 e.1 = .ok (e.2, pm_len e.1 e.2))) = true) (hc : Cond.code mi.2.1 mi.2.2.1 mi.2.2.2.1 mi.2.2.2.2.1 ∈ pm_gw) : pm_ok mi :=
  ⟨fun e he => by simpa using List.all_eq_true.mp h e he, hc⟩
def tmWt_within : List (Nat × Instr) := [(0, .iload_n 0), (1, .iload_n 1), (2, .if_icmp .lt 12), (5, .iload_n 0), (6, .iload_n 2), (7, .if_icmp .gt 7), (10, .iconst 1), (11, .goto 4), (14, .iconst 0), (15, .ireturn)]
def mWt_within : pm_MI := (5, ⟨"WheelTickets", "within", "(III)Z"⟩, prog_1_method_36_code, 3, (Option.some Jvm.ClassFile.FieldType.boolean), tmWt_within, 0, 0)
set_option maxRecDepth 20000 in
theorem ok_mWt_within : pm_ok mWt_within := pm_mkok (by decide +kernel) (pm_in (List.mem_of_getElem? (i := 233) (by decide +kernel)) (by decide +kernel))
def tmTa_put : List (Nat × Instr) := [(0, .aload_n 0), (1, .getfield 15), (4, .sipush 160), (7, .if_icmp .lt 5), (10, .iconst 0), (11, .ireturn), (12, .aload_n 0), (13, .getfield 9), (16, .aload_n 0), (17, .getfield 15), (20, .iload_n 1), (21, .i2b), (22, .bastore), (23, .aload_n 0), (24, .dup), (25, .getfield 15), (28, .iconst 1), (29, .iadd), (30, .putfield 15), (33, .iconst 1), (34, .ireturn)]
def mTa_put : pm_MI := (2, ⟨"WheelTickets$Tape", "put", "(I)Z"⟩, prog_4_method_2_code, 2, (Option.some Jvm.ClassFile.FieldType.boolean), tmTa_put, 0, 0)
set_option maxRecDepth 20000 in
theorem ok_mTa_put : pm_ok mTa_put := pm_mkok (by decide +kernel) (pm_in (List.mem_of_getElem? (i := 237) (by decide +kernel)) (by decide +kernel))
def tmWt_feed : List (Nat × Instr) := [(0, .iload_n 1), (1, .iconst 0), (2, .bipush 127), (4, .invokestatic 59), (7, .ifCond .ne 5), (10, .iconst (-1)), (11, .ireturn), (12, .aload_n 0), (13, .getfield 37), (16, .iload_n 1), (17, .invokevirtual 63), (20, .ifCond .eq 13), (23, .aload_n 0), (24, .getfield 37), (27, .getfield 67), (30, .goto 5), (33, .bipush (-3)), (35, .ireturn)]
def mWt_feed : pm_MI := (5, ⟨"WheelTickets", "feed", "(I)I"⟩, prog_1_method_2_code, 2, (Option.some Jvm.ClassFile.FieldType.int), tmWt_feed, 1, 22)
set_option maxRecDepth 20000 in
theorem ok_mWt_feed : pm_ok mWt_feed := pm_mkok (by decide +kernel) (pm_in (List.mem_of_getElem? (i := 230) (by decide +kernel)) (by decide +kernel))
def tmWt_end : List (Nat × Instr) := [(0, .iload_n 1), (1, .iconst 0), (2, .aload_n 0), (3, .getfield 37), (6, .getfield 67), (9, .invokestatic 59), (12, .ifCond .ne 5), (15, .iconst (-1)), (16, .ireturn), (17, .aload_n 0), (18, .getfield 37), (21, .getfield 67), (24, .istore_n 2), (25, .aload_n 0), (26, .getfield 37), (29, .iload_n 1), (30, .putfield 67), (33, .iload_n 2), (34, .ireturn)]
def mWt_end : pm_MI := (5, ⟨"WheelTickets", "end", "(I)I"⟩, prog_1_method_3_code, 3, (Option.some Jvm.ClassFile.FieldType.int), tmWt_end, 1, 22)
set_option maxRecDepth 20000 in
theorem ok_mWt_end : pm_ok mWt_end := pm_mkok (by decide +kernel) (pm_in (List.mem_of_getElem? (i := 241) (by decide +kernel)) (by decide +kernel))
def tmTa_rewind : List (Nat × Instr) := [(0, .aload_n 0), (1, .iconst 0), (2, .putfield 19), (5, .return_)]
def mTa_rewind : pm_MI := (2, ⟨"WheelTickets$Tape", "rewind", "()V"⟩, prog_4_method_3_code, 1, (Option.none : Option Jvm.ClassFile.FieldType), tmTa_rewind, 0, 0)
set_option maxRecDepth 20000 in
theorem ok_mTa_rewind : pm_ok mTa_rewind := pm_mkok (by decide +kernel) (pm_in (List.mem_of_getElem? (i := 253) (by decide +kernel)) (by decide +kernel))
def tmAr_fill : List (Nat × Instr) := [(0, .iconst 0), (1, .istore_n 2), (2, .aload_n 0), (3, .arraylength), (4, .istore_n 3), (5, .iload_n 2), (6, .iload_n 3), (7, .if_icmp .ge 13), (10, .aload_n 0), (11, .iload_n 2), (12, .iload_n 1), (13, .iastore), (14, .iinc 2 1), (17, .goto (-12)), (20, .return_)]
def mAr_fill : pm_MI := (10, ⟨"java/util/Arrays", "fill", "([II)V"⟩, prog_15_method_103_code, 4, (Option.none : Option Jvm.ClassFile.FieldType), tmAr_fill, 0, 0)
set_option maxRecDepth 20000 in
theorem ok_mAr_fill : pm_ok mAr_fill := pm_mkok (by decide +kernel) (pm_in (List.mem_of_getElem? (i := 260) (by decide +kernel)) (by decide +kernel))
def tmWh_clear : List (Nat × Instr) := [(0, .aload_n 0), (1, .iconst 0), (2, .putfield 9), (5, .aload_n 0), (6, .iconst 0), (7, .putfield 15), (10, .aload_n 0), (11, .iconst 0), (12, .putfield 18), (15, .aload_n 0), (16, .getfield 31), (19, .iconst 0), (20, .invokestatic 43), (23, .aload_n 0), (24, .getfield 28), (27, .bipush (-4)), (29, .invokestatic 43), (32, .aload_n 0), (33, .getfield 34), (36, .bipush (-4)), (38, .invokestatic 43), (41, .return_)]
def mWh_clear : pm_MI := (4, ⟨"WheelTickets$Wheel", "clear", "()V"⟩, prog_6_method_2_code, 1, (Option.none : Option Jvm.ClassFile.FieldType), tmWh_clear, 1, 23)
set_option maxRecDepth 20000 in
theorem ok_mWh_clear : pm_ok mWh_clear := pm_mkok (by decide +kernel) (pm_in (List.mem_of_getElem? (i := 257) (by decide +kernel)) (by decide +kernel))
def tmTa_passBlanks : List (Nat × Instr) := [(0, .aload_n 0), (1, .getfield 19), (4, .aload_n 0), (5, .getfield 15), (8, .if_icmp .ge 30), (11, .aload_n 0), (12, .getfield 9), (15, .aload_n 0), (16, .getfield 19), (19, .baload), (20, .bipush 32), (22, .if_icmp .ne 16), (25, .aload_n 0), (26, .dup), (27, .getfield 19), (30, .iconst 1), (31, .iadd), (32, .putfield 19), (35, .goto (-35)), (38, .return_)]
def mTa_passBlanks : pm_MI := (2, ⟨"WheelTickets$Tape", "passBlanks", "()V"⟩, prog_4_method_5_code, 1, (Option.none : Option Jvm.ClassFile.FieldType), tmTa_passBlanks, 0, 0)
set_option maxRecDepth 20000 in
theorem ok_mTa_passBlanks : pm_ok mTa_passBlanks := pm_mkok (by decide +kernel) (pm_in (List.mem_of_getElem? (i := 272) (by decide +kernel)) (by decide +kernel))
def tmTa_passLetters : List (Nat × Instr) := [(0, .aload_n 0), (1, .getfield 19), (4, .aload_n 0), (5, .getfield 15), (8, .if_icmp .ge 44), (11, .aload_n 0), (12, .getfield 9), (15, .aload_n 0), (16, .getfield 19), (19, .baload), (20, .bipush 97), (22, .if_icmp .lt 30), (25, .aload_n 0), (26, .getfield 9), (29, .aload_n 0), (30, .getfield 19), (33, .baload), (34, .bipush 122), (36, .if_icmp .gt 16), (39, .aload_n 0), (40, .dup), (41, .getfield 19), (44, .iconst 1), (45, .iadd), (46, .putfield 19), (49, .goto (-49)), (52, .return_)]
def mTa_passLetters : pm_MI := (2, ⟨"WheelTickets$Tape", "passLetters", "()V"⟩, prog_4_method_6_code, 1, (Option.none : Option Jvm.ClassFile.FieldType), tmTa_passLetters, 0, 0)
set_option maxRecDepth 20000 in
theorem ok_mTa_passLetters : pm_ok mTa_passLetters := pm_mkok (by decide +kernel) (pm_in (List.mem_of_getElem? (i := 276) (by decide +kernel)) (by decide +kernel))
def tmTa_numberToken : List (Nat × Instr) := [(0, .aload_n 0), (1, .iconst 0), (2, .putfield 28), (5, .aload_n 0), (6, .getfield 19), (9, .aload_n 0), (10, .getfield 15), (13, .if_icmp .ge 68), (16, .aload_n 0), (17, .getfield 9), (20, .aload_n 0), (21, .getfield 19), (24, .baload), (25, .bipush 48), (27, .if_icmp .lt 54), (30, .aload_n 0), (31, .getfield 9), (34, .aload_n 0), (35, .getfield 19), (38, .baload), (39, .bipush 57), (41, .if_icmp .gt 40), (44, .aload_n 0), (45, .aload_n 0), (46, .getfield 28), (49, .bipush 10), (51, .imul), (52, .aload_n 0), (53, .getfield 9), (56, .aload_n 0), (57, .getfield 19), (60, .baload), (61, .iadd), (62, .bipush 48), (64, .isub), (65, .putfield 28), (68, .aload_n 0), (69, .dup), (70, .getfield 19), (73, .iconst 1), (74, .iadd), (75, .putfield 19), (78, .goto (-73)), (81, .aload_n 0), (82, .getfield 19), (85, .aload_n 0), (86, .getfield 25), (89, .isub), (90, .istore_n 1), (91, .iload_n 1), (92, .iconst 1), (93, .if_icmp .eq 8), (96, .iload_n 1), (97, .iconst 2), (98, .if_icmp .ne 7), (101, .iconst 2), (102, .goto 4), (105, .iconst 4), (106, .ireturn)]
def mTa_numberToken : pm_MI := (2, ⟨"WheelTickets$Tape", "numberToken", "()I"⟩, prog_4_method_7_code, 2, (Option.some Jvm.ClassFile.FieldType.int), tmTa_numberToken, 0, 0)
set_option maxRecDepth 20000 in
theorem ok_mTa_numberToken : pm_ok mTa_numberToken := pm_mkok (by decide +kernel) (pm_in (List.mem_of_getElem? (i := 280) (by decide +kernel)) (by decide +kernel))
def tmTa_step : List (Nat × Instr) := [(0, .aload_n 0), (1, .invokevirtual 31), (4, .aload_n 0), (5, .aload_n 0), (6, .getfield 19), (9, .putfield 25), (12, .aload_n 0), (13, .getfield 19), (16, .aload_n 0), (17, .getfield 15), (20, .if_icmp .lt 11), (23, .aload_n 0), (24, .iconst 0), (25, .putfield 22), (28, .goto 62), (31, .aload_n 0), (32, .getfield 9), (35, .aload_n 0), (36, .getfield 19), (39, .baload), (40, .bipush 59), (42, .if_icmp .ne 21), (45, .aload_n 0), (46, .iconst 3), (47, .putfield 22), (50, .aload_n 0), (51, .dup), (52, .getfield 19), (55, .iconst 1), (56, .iadd), (57, .putfield 19), (60, .goto 30), (63, .aload_n 0), (64, .invokevirtual 34), (67, .aload_n 0), (68, .aload_n 0), (69, .getfield 19), (72, .aload_n 0), (73, .getfield 25), (76, .if_icmp .le 7), (79, .iconst 1), (80, .goto 7), (83, .aload_n 0), (84, .invokevirtual 37), (87, .putfield 22), (90, .return_)]
def mTa_step : pm_MI := (2, ⟨"WheelTickets$Tape", "step", "()V"⟩, prog_4_method_4_code, 1, (Option.none : Option Jvm.ClassFile.FieldType), tmTa_step, 1, 21)
set_option maxRecDepth 20000 in
theorem ok_mTa_step : pm_ok mTa_step := pm_mkok (by decide +kernel) (pm_in (List.mem_of_getElem? (i := 268) (by decide +kernel)) (by decide +kernel))
def tmTe_blame : List (Nat × Instr) := [(0, .aload_n 0), (1, .iload_n 1), (2, .putfield 9), (5, .aload_n 0), (6, .iload_n 2), (7, .putfield 15), (10, .iconst 0), (11, .ireturn)]
def mTe_blame : pm_MI := (3, ⟨"WheelTickets$Teller", "blame", "(II)Z"⟩, prog_5_method_3_code, 3, (Option.some Jvm.ClassFile.FieldType.boolean), tmTe_blame, 0, 0)
set_option maxRecDepth 20000 in
theorem ok_mTe_blame : pm_ok mTe_blame := pm_mkok (by decide +kernel) (pm_in (List.mem_of_getElem? (i := 284) (by decide +kernel)) (by decide +kernel))
def tmTe_wordOf : List (Nat × Instr) := [(0, .iload_n 0), (1, .tableswitch 57 0 5 #[39, 42, 45, 48, 51, 54]), (40, .ldc 138), (42, .areturn), (43, .ldc 140), (45, .areturn), (46, .ldc 142), (48, .areturn), (49, .ldc 144), (51, .areturn), (52, .ldc 146), (54, .areturn), (55, .ldc 148), (57, .areturn), (58, .ldc 150), (60, .areturn)]
def mTe_wordOf : pm_MI := (3, ⟨"WheelTickets$Teller", "wordOf", "(I)Ljava/lang/String;"⟩, prog_5_method_11_code, 1, (Option.some (Jvm.ClassFile.FieldType.object "java/lang/String")), tmTe_wordOf, 0, 0)
set_option maxRecDepth 20000 in
theorem ok_mTe_wordOf : pm_ok mTe_wordOf := pm_mkok (by decide +kernel) (pm_in (List.mem_of_getElem? (i := 290) (by decide +kernel)) (by decide +kernel))
def tmSt_coder : List (Nat × Instr) := [(0, .getstatic 38), (3, .ifCond .eq 10), (6, .aload_n 0), (7, .getfield 15), (10, .goto 4), (13, .iconst 1), (14, .ireturn)]
def mSt_coder : pm_MI := (8, ⟨"java/lang/String", "coder", "()B"⟩, prog_11_method_152_code, 1, (Option.some Jvm.ClassFile.FieldType.byte), tmSt_coder, 0, 0)
set_option maxRecDepth 20000 in
theorem ok_mSt_coder : pm_ok mSt_coder := pm_mkok (by decide +kernel) (pm_in (List.mem_of_getElem? (i := 309) (by decide +kernel)) (by decide +kernel))
def tmSt_length : List (Nat × Instr) := [(0, .aload_n 0), (1, .getfield 9), (4, .arraylength), (5, .aload_n 0), (6, .invokevirtual 335), (9, .ishr), (10, .ireturn)]
def mSt_length : pm_MI := (8, ⟨"java/lang/String", "length", "()I"⟩, prog_11_method_54_code, 1, (Option.some Jvm.ClassFile.FieldType.int), tmSt_length, 1, 20)
set_option maxRecDepth 20000 in
theorem ok_mSt_length : pm_ok mSt_length := pm_mkok (by decide +kernel) (pm_in (List.mem_of_getElem? (i := 305) (by decide +kernel)) (by decide +kernel))
def tmSt_isLatin1 : List (Nat × Instr) := [(0, .getstatic 38), (3, .ifCond .eq 14), (6, .aload_n 0), (7, .getfield 15), (10, .ifCond .ne 7), (13, .iconst 1), (14, .goto 4), (17, .iconst 0), (18, .ireturn)]
def mSt_isLatin1 : pm_MI := (8, ⟨"java/lang/String", "isLatin1", "()Z"⟩, prog_11_method_154_code, 1, (Option.some Jvm.ClassFile.FieldType.boolean), tmSt_isLatin1, 0, 0)
set_option maxRecDepth 20000 in
theorem ok_mSt_isLatin1 : pm_ok mSt_isLatin1 := pm_mkok (by decide +kernel) (pm_in (List.mem_of_getElem? (i := 319) (by decide +kernel)) (by decide +kernel))
def tmPr_checkIndex : List (Nat × Instr) := [(0, .iload_n 0), (1, .ifCond .lt 8), (4, .iload_n 0), (5, .iload_n 1), (6, .if_icmp .lt 10), (9, .aload_n 2), (10, .iload_n 0), (11, .iload_n 1), (12, .invokestatic 95), (15, .athrow), (16, .iload_n 0), (17, .ireturn)]
def mPr_checkIndex : pm_MI := (13, ⟨"jdk/internal/util/Preconditions", "checkIndex", "(IILjava/util/function/BiFunction;)I"⟩, prog_16_method_11_code, 3, (Option.some Jvm.ClassFile.FieldType.int), tmPr_checkIndex, 0, 0)
set_option maxRecDepth 20000 in
theorem ok_mPr_checkIndex : pm_ok mPr_checkIndex := pm_mkok (by decide +kernel) (pm_in (List.mem_of_getElem? (i := 330) (by decide +kernel)) (by decide +kernel))
def tmSt_checkIndex : List (Nat × Instr) := [(0, .iload_n 0), (1, .iload_n 1), (2, .getstatic 1053), (5, .invokestatic 1059), (8, .pop), (9, .return_)]
def mSt_checkIndex : pm_MI := (8, ⟨"java/lang/String", "checkIndex", "(II)V"⟩, prog_11_method_155_code, 2, (Option.none : Option Jvm.ClassFile.FieldType), tmSt_checkIndex, 1, 22)
set_option maxRecDepth 20000 in
theorem ok_mSt_checkIndex : pm_ok mSt_checkIndex := pm_mkok (by decide +kernel) (pm_in (List.mem_of_getElem? (i := 325) (by decide +kernel)) (by decide +kernel))
def tmSl_charAt : List (Nat × Instr) := [(0, .iload_n 1), (1, .aload_n 0), (2, .arraylength), (3, .invokestatic 9), (6, .aload_n 0), (7, .iload_n 1), (8, .baload), (9, .sipush 255), (12, .iand), (13, .i2c), (14, .ireturn)]
def mSl_charAt : pm_MI := (9, ⟨"java/lang/StringLatin1", "charAt", "([BI)C"⟩, prog_12_method_2_code, 2, (Option.some Jvm.ClassFile.FieldType.char), tmSl_charAt, 2, 43)
set_option maxRecDepth 20000 in
theorem ok_mSl_charAt : pm_ok mSl_charAt := pm_mkok (by decide +kernel) (pm_in (List.mem_of_getElem? (i := 322) (by decide +kernel)) (by decide +kernel))
def tmSt_charAt : List (Nat × Instr) := [(0, .aload_n 0), (1, .invokevirtual 492), (4, .ifCond .eq 12), (7, .aload_n 0), (8, .getfield 9), (11, .iload_n 1), (12, .invokestatic 495), (15, .ireturn), (16, .aload_n 0), (17, .getfield 9), (20, .iload_n 1), (21, .invokestatic 498), (24, .ireturn)]
def mSt_charAt : pm_MI := (8, ⟨"java/lang/String", "charAt", "(I)C"⟩, prog_11_method_56_code, 2, (Option.some Jvm.ClassFile.FieldType.char), tmSt_charAt, 3, 64)
set_option maxRecDepth 20000 in
theorem ok_mSt_charAt : pm_ok mSt_charAt := pm_mkok (by decide +kernel) (pm_in (List.mem_of_getElem? (i := 315) (by decide +kernel)) (by decide +kernel))
def tmTa_isWord : List (Nat × Instr) := [(0, .aload_n 0), (1, .getfield 19), (4, .aload_n 0), (5, .getfield 25), (8, .isub), (9, .aload_n 1), (10, .invokevirtual 41), (13, .if_icmp .eq 5), (16, .iconst 0), (17, .ireturn), (18, .iconst 0), (19, .istore_n 2), (20, .iload_n 2), (21, .aload_n 1), (22, .invokevirtual 41), (25, .if_icmp .ge 30), (28, .aload_n 0), (29, .getfield 9), (32, .aload_n 0), (33, .getfield 25), (36, .iload_n 2), (37, .iadd), (38, .baload), (39, .aload_n 1), (40, .iload_n 2), (41, .invokevirtual 45), (44, .if_icmp .eq 5), (47, .iconst 0), (48, .ireturn), (49, .iinc 2 1), (52, .goto (-32)), (55, .iconst 1), (56, .ireturn)]
def mTa_isWord : pm_MI := (2, ⟨"WheelTickets$Tape", "isWord", "(Ljava/lang/String;)Z"⟩, prog_4_method_8_code, 3, (Option.some Jvm.ClassFile.FieldType.boolean), tmTa_isWord, 4, 85)
set_option maxRecDepth 20000 in
theorem ok_mTa_isWord : pm_ok mTa_isWord := pm_mkok (by decide +kernel) (pm_in (List.mem_of_getElem? (i := 301) (by decide +kernel)) (by decide +kernel))
def tmTe_lineOf : List (Nat × Instr) := [(0, .iconst 0), (1, .istore_n 1), (2, .iload_n 1), (3, .bipush 7), (5, .if_icmp .ge 22), (8, .aload_n 0), (9, .iload_n 1), (10, .invokestatic 130), (13, .invokevirtual 134), (16, .ifCond .eq 5), (19, .iload_n 1), (20, .ireturn), (21, .iinc 1 1), (24, .goto (-22)), (27, .bipush (-4)), (29, .ireturn)]
def mTe_lineOf : pm_MI := (3, ⟨"WheelTickets$Teller", "lineOf", "(LWheelTickets$Tape;)I"⟩, prog_5_method_10_code, 2, (Option.some Jvm.ClassFile.FieldType.int), tmTe_lineOf, 5, 107)
set_option maxRecDepth 20000 in
theorem ok_mTe_lineOf : pm_ok mTe_lineOf := pm_mkok (by decide +kernel) (pm_in (List.mem_of_getElem? (i := 287) (by decide +kernel)) (by decide +kernel))
def tmTe_toldAlready : List (Nat × Instr) := [(0, .iload_n 1), (1, .tableswitch 42 4 6 #[27, 32, 37]), (28, .aload_n 2), (29, .getfield 98), (32, .ireturn), (33, .aload_n 0), (34, .getfield 22), (37, .ireturn), (38, .aload_n 0), (39, .getfield 25), (42, .ireturn), (43, .aload_n 2), (44, .getfield 101), (47, .ireturn)]
def mTe_toldAlready : pm_MI := (3, ⟨"WheelTickets$Teller", "toldAlready", "(ILWheelTickets$Wheel;)I"⟩, prog_5_method_7_code, 3, (Option.some Jvm.ClassFile.FieldType.int), tmTe_toldAlready, 0, 0)
set_option maxRecDepth 20000 in
theorem ok_mTe_toldAlready : pm_ok mTe_toldAlready := pm_mkok (by decide +kernel) (pm_in (List.mem_of_getElem? (i := 353) (by decide +kernel)) (by decide +kernel))
def tmTe_howManyNumbers : List (Nat × Instr) := [(0, .iload_n 0), (1, .tableswitch 33 4 6 #[27, 29, 31]), (28, .iconst 1), (29, .ireturn), (30, .iconst 1), (31, .ireturn), (32, .iconst 2), (33, .ireturn), (34, .iconst 3), (35, .ireturn)]
def mTe_howManyNumbers : pm_MI := (3, ⟨"WheelTickets$Teller", "howManyNumbers", "(I)I"⟩, prog_5_method_12_code, 1, (Option.some Jvm.ClassFile.FieldType.int), tmTe_howManyNumbers, 0, 0)
set_option maxRecDepth 20000 in
theorem ok_mTe_howManyNumbers : pm_ok mTe_howManyNumbers := pm_mkok (by decide +kernel) (pm_in (List.mem_of_getElem? (i := 360) (by decide +kernel)) (by decide +kernel))
def tmTe_take : List (Nat × Instr) := [(0, .aload_n 1), (1, .invokevirtual 55), (4, .aload_n 1), (5, .getfield 58), (8, .iconst 4), (9, .if_icmp .ne 13), (12, .aload_n 0), (13, .iconst 1), (14, .aload_n 1), (15, .getfield 61), (18, .invokevirtual 64), (21, .ireturn), (22, .aload_n 1), (23, .getfield 58), (26, .iload_n 2), (27, .if_icmp .eq 15), (30, .aload_n 0), (31, .iconst 2), (32, .aload_n 1), (33, .getfield 61), (36, .invokevirtual 64), (39, .ifCond .eq 7), (42, .iconst 1), (43, .goto 4), (46, .iconst 0), (47, .ireturn)]
def mTe_take : pm_MI := (3, ⟨"WheelTickets$Teller", "take", "(LWheelTickets$Tape;I)Z"⟩, prog_5_method_6_code, 3, (Option.some Jvm.ClassFile.FieldType.boolean), tmTe_take, 2, 41)
set_option maxRecDepth 20000 in
theorem ok_mTe_take : pm_ok mTe_take := pm_mkok (by decide +kernel) (pm_in (List.mem_of_getElem? (i := 364) (by decide +kernel)) (by decide +kernel))
def tmTe_boundOf : List (Nat × Instr) := [(0, .iload_n 0), (1, .tableswitch 35 4 6 #[27, 30, 33]), (28, .bipush 99), (30, .ireturn), (31, .bipush 99), (33, .ireturn), (34, .iconst 3), (35, .ireturn), (36, .iload_n 1), (37, .iconst 2), (38, .if_icmp .ne 8), (41, .bipush 9), (43, .goto 4), (46, .iconst 3), (47, .ireturn)]
def mTe_boundOf : pm_MI := (3, ⟨"WheelTickets$Teller", "boundOf", "(II)I"⟩, prog_5_method_13_code, 2, (Option.some Jvm.ClassFile.FieldType.int), tmTe_boundOf, 0, 0)
set_option maxRecDepth 20000 in
theorem ok_mTe_boundOf : pm_ok mTe_boundOf := pm_mkok (by decide +kernel) (pm_in (List.mem_of_getElem? (i := 367) (by decide +kernel)) (by decide +kernel))
def tmTe_takeNumbers : List (Nat × Instr) := [(0, .iconst 0), (1, .istore_n 3), (2, .iload_n 3), (3, .iload_n 2), (4, .invokestatic 87), (7, .if_icmp .ge 52), (10, .aload_n 0), (11, .aload_n 1), (12, .iconst 2), (13, .invokevirtual 80), (16, .ifCond .ne 5), (19, .iconst 0), (20, .ireturn), (21, .aload_n 1), (22, .getfield 91), (25, .iload_n 2), (26, .iload_n 3), (27, .invokestatic 94), (30, .if_icmp .le 13), (33, .aload_n 0), (34, .iconst 3), (35, .aload_n 1), (36, .getfield 61), (39, .invokevirtual 64), (42, .ireturn), (43, .aload_n 0), (44, .getfield 18), (47, .iload_n 3), (48, .aload_n 1), (49, .getfield 91), (52, .iastore), (53, .iinc 3 1), (56, .goto (-54)), (59, .iconst 1), (60, .ireturn)]
def mTe_takeNumbers : pm_MI := (3, ⟨"WheelTickets$Teller", "takeNumbers", "(LWheelTickets$Tape;I)Z"⟩, prog_5_method_5_code, 4, (Option.some Jvm.ClassFile.FieldType.boolean), tmTe_takeNumbers, 3, 63)
set_option maxRecDepth 20000 in
theorem ok_mTe_takeNumbers : pm_ok mTe_takeNumbers := pm_mkok (by decide +kernel) (pm_in (List.mem_of_getElem? (i := 357) (by decide +kernel)) (by decide +kernel))
def tmWh_addPerson : List (Nat × Instr) := [(0, .aload_n 0), (1, .getfield 9), (4, .iconst 4), (5, .if_icmp .ge 23), (8, .aload_n 0), (9, .getfield 21), (12, .aload_n 0), (13, .getfield 9), (16, .iload_n 1), (17, .iastore), (18, .aload_n 0), (19, .dup), (20, .getfield 9), (23, .iconst 1), (24, .iadd), (25, .putfield 9), (28, .return_)]
def mWh_addPerson : pm_MI := (4, ⟨"WheelTickets$Wheel", "addPerson", "(I)V"⟩, prog_6_method_4_code, 2, (Option.none : Option Jvm.ClassFile.FieldType), tmWh_addPerson, 0, 0)
set_option maxRecDepth 20000 in
theorem ok_mWh_addPerson : pm_ok mWh_addPerson := pm_mkok (by decide +kernel) (pm_in (List.mem_of_getElem? (i := 375) (by decide +kernel)) (by decide +kernel))
def tmWh_setTrait : List (Nat × Instr) := [(0, .aload_n 0), (1, .getfield 25), (4, .iconst 4), (5, .iload_n 1), (6, .imul), (7, .iload_n 2), (8, .iadd), (9, .iload_n 3), (10, .iastore), (11, .return_)]
def mWh_setTrait : pm_MI := (4, ⟨"WheelTickets$Wheel", "setTrait", "(III)V"⟩, prog_6_method_13_code, 4, (Option.none : Option Jvm.ClassFile.FieldType), tmWh_setTrait, 0, 0)
set_option maxRecDepth 20000 in
theorem ok_mWh_setTrait : pm_ok mWh_setTrait := pm_mkok (by decide +kernel) (pm_in (List.mem_of_getElem? (i := 384) (by decide +kernel)) (by decide +kernel))
def tmWh_addTicket : List (Nat × Instr) := [(0, .aload_n 0), (1, .getfield 15), (4, .iconst 4), (5, .if_icmp .ge 54), (8, .aload_n 0), (9, .aload_n 0), (10, .getfield 15), (13, .iconst 0), (14, .iload_n 1), (15, .invokevirtual 55), (18, .aload_n 0), (19, .aload_n 0), (20, .getfield 15), (23, .iconst 1), (24, .iload_n 2), (25, .invokevirtual 55), (28, .aload_n 0), (29, .aload_n 0), (30, .getfield 15), (33, .iconst 2), (34, .iload_n 3), (35, .invokevirtual 55), (38, .aload_n 0), (39, .aload_n 0), (40, .getfield 15), (43, .iconst 3), (44, .iload 4), (46, .invokevirtual 55), (49, .aload_n 0), (50, .dup), (51, .getfield 15), (54, .iconst 1), (55, .iadd), (56, .putfield 15), (59, .return_)]
def mWh_addTicket : pm_MI := (4, ⟨"WheelTickets$Wheel", "addTicket", "(IIII)V"⟩, prog_6_method_5_code, 5, (Option.none : Option Jvm.ClassFile.FieldType), tmWh_addTicket, 1, 23)
set_option maxRecDepth 20000 in
theorem ok_mWh_addTicket : pm_ok mWh_addTicket := pm_mkok (by decide +kernel) (pm_in (List.mem_of_getElem? (i := 380) (by decide +kernel)) (by decide +kernel))
def tmTe_put : List (Nat × Instr) := [(0, .iload_n 1), (1, .iconst 4), (2, .if_icmp .ne 16), (5, .aload_n 2), (6, .aload_n 0), (7, .getfield 18), (10, .iconst 0), (11, .iaload), (12, .invokevirtual 104), (15, .goto 133), (18, .iload_n 1), (19, .iconst 5), (20, .if_icmp .ne 39), (23, .aload_n 0), (24, .getfield 22), (27, .iconst 4), (28, .if_icmp .ge 31), (31, .aload_n 2), (32, .getfield 108), (35, .aload_n 0), (36, .getfield 22), (39, .aload_n 0), (40, .getfield 18), (43, .iconst 0), (44, .iaload), (45, .iastore), (46, .aload_n 0), (47, .dup), (48, .getfield 22), (51, .iconst 1), (52, .iadd), (53, .putfield 22), (56, .goto 92), (59, .iload_n 1), (60, .bipush 6), (62, .if_icmp .ne 54), (65, .aload_n 0), (66, .getfield 25), (69, .iconst 4), (70, .if_icmp .ge 46), (73, .aload_n 0), (74, .getfield 28), (77, .aload_n 0), (78, .getfield 25), (81, .aload_n 0), (82, .getfield 18), (85, .iconst 0), (86, .iaload), (87, .iastore), (88, .aload_n 0), (89, .getfield 31), (92, .aload_n 0), (93, .getfield 25), (96, .aload_n 0), (97, .getfield 18), (100, .iconst 1), (101, .iaload), (102, .iastore), (103, .aload_n 0), (104, .dup), (105, .getfield 25), (108, .iconst 1), (109, .iadd), (110, .putfield 25), (113, .goto 35), (116, .iload_n 1), (117, .iconst 0), (118, .iconst 3), (119, .invokestatic 111), (122, .ifCond .eq 26), (125, .aload_n 2), (126, .iload_n 1), (127, .aload_n 0), (128, .getfield 18), (131, .iconst 0), (132, .iaload), (133, .aload_n 0), (134, .getfield 18), (137, .iconst 1), (138, .iaload), (139, .aload_n 0), (140, .getfield 18), (143, .iconst 2), (144, .iaload), (145, .invokevirtual 115), (148, .return_)]
def mTe_put : pm_MI := (3, ⟨"WheelTickets$Teller", "put", "(ILWheelTickets$Wheel;)V"⟩, prog_5_method_8_code, 3, (Option.none : Option Jvm.ClassFile.FieldType), tmTe_put, 2, 47)
set_option maxRecDepth 20000 in
theorem ok_mTe_put : pm_ok mTe_put := pm_mkok (by decide +kernel) (pm_in (List.mem_of_getElem? (i := 371) (by decide +kernel)) (by decide +kernel))
def tmTe_takeLine : List (Nat × Instr) := [(0, .aload_n 1), (1, .invokevirtual 55), (4, .aload_n 1), (5, .getfield 58), (8, .ifCond .ne 5), (11, .iconst 0), (12, .ireturn), (13, .aload_n 1), (14, .getfield 58), (17, .iconst 4), (18, .if_icmp .ne 13), (21, .aload_n 0), (22, .iconst 1), (23, .aload_n 1), (24, .getfield 61), (27, .invokevirtual 64), (30, .ireturn), (31, .aload_n 1), (32, .getfield 58), (35, .iconst 1), (36, .if_icmp .ne 10), (39, .aload_n 1), (40, .invokestatic 68), (43, .goto 5), (46, .bipush (-4)), (48, .istore_n 3), (49, .iload_n 3), (50, .bipush (-4)), (52, .if_icmp .ne 13), (55, .aload_n 0), (56, .iconst 2), (57, .aload_n 1), (58, .getfield 61), (61, .invokevirtual 64), (64, .ireturn), (65, .aload_n 0), (66, .iload_n 3), (67, .aload_n 2), (68, .invokevirtual 72), (71, .iconst 4), (72, .if_icmp .lt 13), (75, .aload_n 0), (76, .iconst 5), (77, .aload_n 1), (78, .getfield 61), (81, .invokevirtual 64), (84, .ireturn), (85, .aload_n 0), (86, .aload_n 1), (87, .iload_n 3), (88, .invokevirtual 76), (91, .ifCond .eq 12), (94, .aload_n 0), (95, .aload_n 1), (96, .iconst 3), (97, .invokevirtual 80), (100, .ifCond .ne 5), (103, .iconst 0), (104, .ireturn), (105, .aload_n 0), (106, .iload_n 3), (107, .aload_n 2), (108, .invokevirtual 83), (111, .iconst 1), (112, .ireturn)]
def mTe_takeLine : pm_MI := (3, ⟨"WheelTickets$Teller", "takeLine", "(LWheelTickets$Tape;LWheelTickets$Wheel;)Z"⟩, prog_5_method_4_code, 4, (Option.some Jvm.ClassFile.FieldType.boolean), tmTe_takeLine, 6, 128)
set_option maxRecDepth 20000 in
theorem ok_mTe_takeLine : pm_ok mTe_takeLine := pm_mkok (by decide +kernel) (pm_in (List.mem_of_getElem? (i := 264) (by decide +kernel)) (by decide +kernel))
def tmWh_trait : List (Nat × Instr) := [(0, .aload_n 0), (1, .getfield 25), (4, .iconst 4), (5, .iload_n 1), (6, .imul), (7, .iload_n 2), (8, .iadd), (9, .iaload), (10, .ireturn)]
def mWh_trait : pm_MI := (4, ⟨"WheelTickets$Wheel", "trait", "(II)I"⟩, prog_6_method_12_code, 3, (Option.some Jvm.ClassFile.FieldType.int), tmWh_trait, 0, 0)
set_option maxRecDepth 20000 in
theorem ok_mWh_trait : pm_ok mWh_trait := pm_mkok (by decide +kernel) (pm_in (List.mem_of_getElem? (i := 396) (by decide +kernel)) (by decide +kernel))
def tmWh_hasPerson : List (Nat × Instr) := [(0, .iload_n 1), (1, .ifCond .lt 15), (4, .iload_n 1), (5, .aload_n 0), (6, .getfield 9), (9, .if_icmp .ge 7), (12, .iconst 1), (13, .goto 4), (16, .iconst 0), (17, .ireturn)]
def mWh_hasPerson : pm_MI := (4, ⟨"WheelTickets$Wheel", "hasPerson", "(I)Z"⟩, prog_6_method_7_code, 2, (Option.some Jvm.ClassFile.FieldType.boolean), tmWh_hasPerson, 0, 0)
set_option maxRecDepth 20000 in
theorem ok_mWh_hasPerson : pm_ok mWh_hasPerson := pm_mkok (by decide +kernel) (pm_in (List.mem_of_getElem? (i := 400) (by decide +kernel)) (by decide +kernel))
def tmWh_lacksPeople : List (Nat × Instr) := [(0, .iconst 0), (1, .istore_n 1), (2, .iload_n 1), (3, .aload_n 0), (4, .getfield 15), (7, .if_icmp .ge 37), (10, .aload_n 0), (11, .aload_n 0), (12, .iload_n 1), (13, .iconst 1), (14, .invokevirtual 73), (17, .invokevirtual 70), (20, .ifCond .eq 16), (23, .aload_n 0), (24, .aload_n 0), (25, .iload_n 1), (26, .iconst 2), (27, .invokevirtual 73), (30, .invokevirtual 70), (33, .ifCond .ne 5), (36, .iconst 1), (37, .ireturn), (38, .iinc 1 1), (41, .goto (-39)), (44, .iconst 0), (45, .ireturn)]
def mWh_lacksPeople : pm_MI := (4, ⟨"WheelTickets$Wheel", "lacksPeople", "()Z"⟩, prog_6_method_15_code, 2, (Option.some Jvm.ClassFile.FieldType.boolean), tmWh_lacksPeople, 1, 22)
set_option maxRecDepth 20000 in
theorem ok_mWh_lacksPeople : pm_ok mWh_lacksPeople := pm_mkok (by decide +kernel) (pm_in (List.mem_of_getElem? (i := 392) (by decide +kernel)) (by decide +kernel))
def tmWh_hasTicket : List (Nat × Instr) := [(0, .iload_n 1), (1, .ifCond .lt 15), (4, .iload_n 1), (5, .aload_n 0), (6, .getfield 15), (9, .if_icmp .ge 7), (12, .iconst 1), (13, .goto 4), (16, .iconst 0), (17, .ireturn)]
def mWh_hasTicket : pm_MI := (4, ⟨"WheelTickets$Wheel", "hasTicket", "(I)Z"⟩, prog_6_method_8_code, 2, (Option.some Jvm.ClassFile.FieldType.boolean), tmWh_hasTicket, 0, 0)
set_option maxRecDepth 20000 in
theorem ok_mWh_hasTicket : pm_ok mWh_hasTicket := pm_mkok (by decide +kernel) (pm_in (List.mem_of_getElem? (i := 408) (by decide +kernel)) (by decide +kernel))
def tmWh_hasPrize : List (Nat × Instr) := [(0, .iload_n 1), (1, .ifCond .lt 15), (4, .iload_n 1), (5, .aload_n 0), (6, .getfield 15), (9, .if_icmp .ge 7), (12, .iconst 1), (13, .goto 4), (16, .iconst 0), (17, .ireturn)]
def mWh_hasPrize : pm_MI := (4, ⟨"WheelTickets$Wheel", "hasPrize", "(I)Z"⟩, prog_6_method_9_code, 2, (Option.some Jvm.ClassFile.FieldType.boolean), tmWh_hasPrize, 0, 0)
set_option maxRecDepth 20000 in
theorem ok_mWh_hasPrize : pm_ok mWh_hasPrize := pm_mkok (by decide +kernel) (pm_in (List.mem_of_getElem? (i := 412) (by decide +kernel)) (by decide +kernel))
def tmWh_isTicketIn : List (Nat × Instr) := [(0, .aload_n 0), (1, .iload_n 1), (2, .invokevirtual 59), (5, .ifCond .eq 18), (8, .aload_n 0), (9, .getfield 28), (12, .iload_n 1), (13, .iaload), (14, .bipush (-4)), (16, .if_icmp .ne 7), (19, .iconst 1), (20, .goto 4), (23, .iconst 0), (24, .ireturn)]
def mWh_isTicketIn : pm_MI := (4, ⟨"WheelTickets$Wheel", "isTicketIn", "(I)Z"⟩, prog_6_method_10_code, 2, (Option.some Jvm.ClassFile.FieldType.boolean), tmWh_isTicketIn, 1, 21)
set_option maxRecDepth 20000 in
theorem ok_mWh_isTicketIn : pm_ok mWh_isTicketIn := pm_mkok (by decide +kernel) (pm_in (List.mem_of_getElem? (i := 416) (by decide +kernel)) (by decide +kernel))
def tmWh_isPrizeIn : List (Nat × Instr) := [(0, .aload_n 0), (1, .iload_n 1), (2, .invokevirtual 63), (5, .ifCond .eq 18), (8, .aload_n 0), (9, .getfield 34), (12, .iload_n 1), (13, .iaload), (14, .bipush (-4)), (16, .if_icmp .ne 7), (19, .iconst 1), (20, .goto 4), (23, .iconst 0), (24, .ireturn)]
def mWh_isPrizeIn : pm_MI := (4, ⟨"WheelTickets$Wheel", "isPrizeIn", "(I)Z"⟩, prog_6_method_11_code, 2, (Option.some Jvm.ClassFile.FieldType.boolean), tmWh_isPrizeIn, 1, 21)
set_option maxRecDepth 20000 in
theorem ok_mWh_isPrizeIn : pm_ok mWh_isPrizeIn := pm_mkok (by decide +kernel) (pm_in (List.mem_of_getElem? (i := 420) (by decide +kernel)) (by decide +kernel))
def tmWh_refusal : List (Nat × Instr) := [(0, .aload_n 0), (1, .iload_n 1), (2, .invokevirtual 59), (5, .ifCond .eq 11), (8, .aload_n 0), (9, .iload_n 2), (10, .invokevirtual 63), (13, .ifCond .ne 5), (16, .iconst (-1)), (17, .ireturn), (18, .aload_n 0), (19, .iload_n 1), (20, .invokevirtual 77), (23, .ifCond .eq 15), (26, .aload_n 0), (27, .iload_n 2), (28, .invokevirtual 80), (31, .ifCond .eq 7), (34, .iconst 0), (35, .goto 5), (38, .bipush (-2)), (40, .ireturn)]
def mWh_refusal : pm_MI := (4, ⟨"WheelTickets$Wheel", "refusal", "(II)I"⟩, prog_6_method_22_code, 3, (Option.some Jvm.ClassFile.FieldType.int), tmWh_refusal, 2, 42)
set_option maxRecDepth 20000 in
theorem ok_mWh_refusal : pm_ok mWh_refusal := pm_mkok (by decide +kernel) (pm_in (List.mem_of_getElem? (i := 404) (by decide +kernel)) (by decide +kernel))
def tmWh_sharedOut : List (Nat × Instr) := [(0, .aload_n 0), (1, .iload_n 1), (2, .iconst 1), (3, .invokevirtual 73), (6, .iload_n 2), (7, .if_icmp .ne 7), (10, .iload_n 3), (11, .goto 4), (14, .iconst 0), (15, .aload_n 0), (16, .iload_n 1), (17, .iconst 2), (18, .invokevirtual 73), (21, .iload_n 2), (22, .if_icmp .ne 8), (25, .iload 4), (27, .goto 4), (30, .iconst 0), (31, .iadd), (32, .ireturn)]
def mWh_sharedOut : pm_MI := (4, ⟨"WheelTickets$Wheel", "sharedOut", "(IIII)I"⟩, prog_6_method_26_code, 5, (Option.some Jvm.ClassFile.FieldType.int), tmWh_sharedOut, 1, 22)
set_option maxRecDepth 20000 in
theorem ok_mWh_sharedOut : pm_ok mWh_sharedOut := pm_mkok (by decide +kernel) (pm_in (List.mem_of_getElem? (i := 432) (by decide +kernel)) (by decide +kernel))
def tmWh_feeFor : List (Nat × Instr) := [(0, .aload_n 0), (1, .iload_n 1), (2, .iconst 0), (3, .invokevirtual 73), (6, .istore_n 3), (7, .iload_n 3), (8, .iconst 1), (9, .if_icmp .ne 12), (12, .aload_n 0), (13, .iload_n 1), (14, .iconst 3), (15, .invokevirtual 73), (18, .goto 19), (21, .iload_n 3), (22, .iconst 3), (23, .if_icmp .ne 13), (26, .aload_n 0), (27, .iload_n 1), (28, .iconst 3), (29, .invokevirtual 73), (32, .ineg), (33, .goto 4), (36, .iconst 0), (37, .istore 4), (39, .aload_n 0), (40, .iload_n 1), (41, .iload_n 2), (42, .iload 4), (44, .iload 4), (46, .ineg), (47, .invokevirtual 100), (50, .ireturn)]
def mWh_feeFor : pm_MI := (4, ⟨"WheelTickets$Wheel", "feeFor", "(II)I"⟩, prog_6_method_24_code, 5, (Option.some Jvm.ClassFile.FieldType.int), tmWh_feeFor, 2, 46)
set_option maxRecDepth 20000 in
theorem ok_mWh_feeFor : pm_ok mWh_feeFor := pm_mkok (by decide +kernel) (pm_in (List.mem_of_getElem? (i := 428) (by decide +kernel)) (by decide +kernel))
def tmWh_shareFor : List (Nat × Instr) := [(0, .iload_n 2), (1, .ifCond .ne 14), (4, .iconst 5), (5, .aload_n 0), (6, .iload_n 1), (7, .iconst 3), (8, .invokevirtual 73), (11, .imul), (12, .goto 4), (15, .iconst 0), (16, .istore 4), (18, .aload_n 0), (19, .iload_n 1), (20, .iconst 0), (21, .invokevirtual 73), (24, .tableswitch 66 1 3 #[28, 37, 52]), (52, .aload_n 0), (53, .iload_n 1), (54, .iload_n 3), (55, .iconst 0), (56, .iload_n 2), (57, .invokevirtual 100), (60, .ireturn), (61, .aload_n 0), (62, .iload_n 1), (63, .iload_n 3), (64, .iload_n 2), (65, .iload_n 2), (66, .iconst 2), (67, .idiv), (68, .isub), (69, .iload_n 2), (70, .iconst 2), (71, .idiv), (72, .invokevirtual 100), (75, .ireturn), (76, .aload_n 0), (77, .iload_n 1), (78, .iload_n 3), (79, .iload_n 2), (80, .iload 4), (82, .iadd), (83, .iload 4), (85, .ineg), (86, .invokevirtual 100), (89, .ireturn), (90, .aload_n 0), (91, .iload_n 1), (92, .iload_n 3), (93, .iload_n 2), (94, .iconst 0), (95, .invokevirtual 100), (98, .ireturn)]
def mWh_shareFor : pm_MI := (4, ⟨"WheelTickets$Wheel", "shareFor", "(III)I"⟩, prog_6_method_25_code, 5, (Option.some Jvm.ClassFile.FieldType.int), tmWh_shareFor, 2, 46)
set_option maxRecDepth 20000 in
theorem ok_mWh_shareFor : pm_ok mWh_shareFor := pm_mkok (by decide +kernel) (pm_in (List.mem_of_getElem? (i := 436) (by decide +kernel)) (by decide +kernel))
def tmWh_pull : List (Nat × Instr) := [(0, .iconst 0), (1, .istore_n 3), (2, .iload_n 3), (3, .aload_n 0), (4, .getfield 9), (7, .if_icmp .ge 73), (10, .iconst 0), (11, .istore 4), (13, .iload 4), (15, .aload_n 0), (16, .getfield 15), (19, .if_icmp .ge 34), (22, .aload_n 0), (23, .iload 4), (25, .invokevirtual 77), (28, .ifCond .eq 19), (31, .aload_n 0), (32, .getfield 21), (35, .iload_n 3), (36, .dup2), (37, .iaload), (38, .aload_n 0), (39, .iload 4), (41, .iload_n 3), (42, .invokevirtual 93), (45, .iadd), (46, .iastore), (47, .iinc 4 1), (50, .goto (-37)), (53, .aload_n 0), (54, .getfield 21), (57, .iload_n 3), (58, .dup2), (59, .iaload), (60, .aload_n 0), (61, .iload_n 1), (62, .aload_n 0), (63, .getfield 31), (66, .iload_n 2), (67, .iaload), (68, .iload_n 3), (69, .invokevirtual 96), (72, .iadd), (73, .iastore), (74, .iinc 3 1), (77, .goto (-75)), (80, .aload_n 0), (81, .getfield 28), (84, .iload_n 1), (85, .iload_n 2), (86, .iastore), (87, .aload_n 0), (88, .getfield 34), (91, .iload_n 2), (92, .iload_n 1), (93, .iastore), (94, .return_)]
def mWh_pull : pm_MI := (4, ⟨"WheelTickets$Wheel", "pull", "(II)V"⟩, prog_6_method_23_code, 5, (Option.none : Option Jvm.ClassFile.FieldType), tmWh_pull, 3, 70)
set_option maxRecDepth 20000 in
theorem ok_mWh_pull : pm_ok mWh_pull := pm_mkok (by decide +kernel) (pm_in (List.mem_of_getElem? (i := 424) (by decide +kernel)) (by decide +kernel))
def tmTe_tellBehindAll : List (Nat × Instr) := [(0, .aload_n 2), (1, .invokevirtual 119), (4, .ifCond .eq 11), (7, .aload_n 0), (8, .bipush 6), (10, .iload_n 1), (11, .invokevirtual 64), (14, .ireturn), (15, .aload_n 0), (16, .getfield 22), (19, .aload_n 2), (20, .getfield 101), (23, .if_icmp .le 11), (26, .aload_n 0), (27, .bipush 7), (29, .iload_n 1), (30, .invokevirtual 64), (33, .ireturn), (34, .iconst 0), (35, .istore_n 3), (36, .iload_n 3), (37, .aload_n 0), (38, .getfield 25), (41, .if_icmp .ge 52), (44, .aload_n 2), (45, .aload_n 0), (46, .getfield 28), (49, .iload_n 3), (50, .iaload), (51, .aload_n 0), (52, .getfield 31), (55, .iload_n 3), (56, .iaload), (57, .invokevirtual 123), (60, .ifCond .eq 11), (63, .aload_n 0), (64, .bipush 8), (66, .iload_n 1), (67, .invokevirtual 64), (70, .ireturn), (71, .aload_n 2), (72, .aload_n 0), (73, .getfield 28), (76, .iload_n 3), (77, .iaload), (78, .aload_n 0), (79, .getfield 31), (82, .iload_n 3), (83, .iaload), (84, .invokevirtual 126), (87, .iinc 3 1), (90, .goto (-54)), (93, .iconst 1), (94, .ireturn)]
def mTe_tellBehindAll : pm_MI := (3, ⟨"WheelTickets$Teller", "tellBehindAll", "(ILWheelTickets$Wheel;)Z"⟩, prog_5_method_9_code, 4, (Option.some Jvm.ClassFile.FieldType.boolean), tmTe_tellBehindAll, 4, 94)
set_option maxRecDepth 20000 in
theorem ok_mTe_tellBehindAll : pm_ok mTe_tellBehindAll := pm_mkok (by decide +kernel) (pm_in (List.mem_of_getElem? (i := 388) (by decide +kernel)) (by decide +kernel))
def tmTe_tell : List (Nat × Instr) := [(0, .aload_n 1), (1, .invokevirtual 34), (4, .aload_n 2), (5, .invokevirtual 39), (8, .aload_n 0), (9, .iconst 0), (10, .putfield 9), (13, .aload_n 0), (14, .iconst 0), (15, .putfield 22), (18, .aload_n 0), (19, .iconst 0), (20, .putfield 25), (23, .iconst 0), (24, .istore_n 3), (25, .iload_n 3), (26, .sipush 160), (29, .if_icmp .ge 18), (32, .aload_n 0), (33, .aload_n 1), (34, .aload_n 2), (35, .invokevirtual 44), (38, .ifCond .eq 9), (41, .iinc 3 1), (44, .goto (-19)), (47, .aload_n 0), (48, .getfield 9), (51, .ifCond .ne 19), (54, .aload_n 0), (55, .aload_n 1), (56, .getfield 48), (59, .aload_n 2), (60, .invokevirtual 51), (63, .ifCond .eq 7), (66, .iconst 1), (67, .goto 4), (70, .iconst 0), (71, .istore 4), (73, .iload 4), (75, .ifCond .eq 7), (78, .iload_n 3), (79, .goto 10), (82, .bipush (-10)), (84, .aload_n 0), (85, .getfield 15), (88, .isub), (89, .ireturn)]
def mTe_tell : pm_MI := (3, ⟨"WheelTickets$Teller", "tell", "(LWheelTickets$Tape;LWheelTickets$Wheel;)I"⟩, prog_5_method_2_code, 5, (Option.some Jvm.ClassFile.FieldType.int), tmTe_tell, 7, 151)
set_option maxRecDepth 20000 in
theorem ok_mTe_tell : pm_ok mTe_tell := pm_mkok (by decide +kernel) (pm_in (List.mem_of_getElem? (i := 249) (by decide +kernel)) (by decide +kernel))
def tmWh_copy : List (Nat × Instr) := [(0, .aload_n 0), (1, .aload_n 1), (2, .getfield 9), (5, .putfield 9), (8, .aload_n 0), (9, .aload_n 1), (10, .getfield 15), (13, .putfield 15), (16, .aload_n 0), (17, .aload_n 1), (18, .getfield 18), (21, .putfield 18), (24, .aload_n 1), (25, .getfield 21), (28, .iconst 0), (29, .aload_n 0), (30, .getfield 21), (33, .iconst 0), (34, .iconst 4), (35, .invokestatic 49), (38, .aload_n 1), (39, .getfield 25), (42, .iconst 0), (43, .aload_n 0), (44, .getfield 25), (47, .iconst 0), (48, .bipush 16), (50, .invokestatic 49), (53, .aload_n 1), (54, .getfield 28), (57, .iconst 0), (58, .aload_n 0), (59, .getfield 28), (62, .iconst 0), (63, .iconst 4), (64, .invokestatic 49), (67, .aload_n 1), (68, .getfield 31), (71, .iconst 0), (72, .aload_n 0), (73, .getfield 31), (76, .iconst 0), (77, .iconst 4), (78, .invokestatic 49), (81, .aload_n 1), (82, .getfield 34), (85, .iconst 0), (86, .aload_n 0), (87, .getfield 34), (90, .iconst 0), (91, .iconst 4), (92, .invokestatic 49), (95, .aload_n 1), (96, .getfield 37), (99, .iconst 0), (100, .aload_n 0), (101, .getfield 37), (104, .iconst 0), (105, .bipush 6), (107, .invokestatic 49), (110, .aload_n 1), (111, .getfield 40), (114, .iconst 0), (115, .aload_n 0), (116, .getfield 40), (119, .iconst 0), (120, .bipush 6), (122, .invokestatic 49), (125, .return_)]
def mWh_copy : pm_MI := (4, ⟨"WheelTickets$Wheel", "copy", "(LWheelTickets$Wheel;)V"⟩, prog_6_method_3_code, 2, (Option.none : Option Jvm.ClassFile.FieldType), tmWh_copy, 1, 26)
set_option maxRecDepth 20000 in
theorem ok_mWh_copy : pm_ok mWh_copy := pm_mkok (by decide +kernel) (pm_in (List.mem_of_getElem? (i := 440) (by decide +kernel)) (by decide +kernel))
def tmWt_text : List (Nat × Instr) := [(0, .aload_n 0), (1, .getfield 44), (4, .aload_n 0), (5, .getfield 37), (8, .aload_n 0), (9, .getfield 16), (12, .invokevirtual 70), (15, .istore_n 1), (16, .aload_n 0), (17, .getfield 37), (20, .iconst 0), (21, .putfield 67), (24, .aload_n 0), (25, .getfield 44), (28, .getfield 74), (31, .ifCond .ne 22), (34, .aload_n 0), (35, .getfield 10), (38, .aload_n 0), (39, .getfield 16), (42, .invokevirtual 77), (45, .aload_n 0), (46, .getfield 23), (49, .iconst 0), (50, .invokestatic 81), (53, .iload_n 1), (54, .ireturn)]
def mWt_text : pm_MI := (5, ⟨"WheelTickets", "text", "()I"⟩, prog_1_method_4_code, 2, (Option.some Jvm.ClassFile.FieldType.int), tmWt_text, 8, 175)
set_option maxRecDepth 20000 in
theorem ok_mWt_text : pm_ok mWt_text := pm_mkok (by decide +kernel) (pm_in (List.mem_of_getElem? (i := 245) (by decide +kernel)) (by decide +kernel))
def tmWt_fault : List (Nat × Instr) := [(0, .aload_n 0), (1, .getfield 44), (4, .getfield 74), (7, .ireturn)]
def mWt_fault : pm_MI := (5, ⟨"WheelTickets", "fault", "()I"⟩, prog_1_method_5_code, 1, (Option.some Jvm.ClassFile.FieldType.int), tmWt_fault, 0, 0)
set_option maxRecDepth 20000 in
theorem ok_mWt_fault : pm_ok mWt_fault := pm_mkok (by decide +kernel) (pm_in (List.mem_of_getElem? (i := 448) (by decide +kernel)) (by decide +kernel))
def tmWh_ticketsIn : List (Nat × Instr) := [(0, .iconst 0), (1, .istore_n 1), (2, .iconst 0), (3, .istore_n 2), (4, .iload_n 2), (5, .aload_n 0), (6, .getfield 15), (9, .if_icmp .ge 23), (12, .aload_n 0), (13, .iload_n 2), (14, .invokevirtual 77), (17, .ifCond .eq 9), (20, .iload_n 1), (21, .iconst 1), (22, .iload_n 2), (23, .ishl), (24, .ior), (25, .istore_n 1), (26, .iinc 2 1), (29, .goto (-25)), (32, .iload_n 1), (33, .ireturn)]
def mWh_ticketsIn : pm_MI := (4, ⟨"WheelTickets$Wheel", "ticketsIn", "()I"⟩, prog_6_method_17_code, 3, (Option.some Jvm.ClassFile.FieldType.int), tmWh_ticketsIn, 2, 42)
set_option maxRecDepth 20000 in
theorem ok_mWh_ticketsIn : pm_ok mWh_ticketsIn := pm_mkok (by decide +kernel) (pm_in (List.mem_of_getElem? (i := 460) (by decide +kernel)) (by decide +kernel))
def tmIn_bitCount : List (Nat × Instr) := [(0, .iload_n 0), (1, .iload_n 0), (2, .iconst 1), (3, .iushr), (4, .ldc_w 265), (7, .iand), (8, .isub), (9, .istore_n 0), (10, .iload_n 0), (11, .ldc_w 266), (14, .iand), (15, .iload_n 0), (16, .iconst 2), (17, .iushr), (18, .ldc_w 266), (21, .iand), (22, .iadd), (23, .istore_n 0), (24, .iload_n 0), (25, .iload_n 0), (26, .iconst 4), (27, .iushr), (28, .iadd), (29, .ldc_w 267), (32, .iand), (33, .istore_n 0), (34, .iload_n 0), (35, .iload_n 0), (36, .bipush 8), (38, .iushr), (39, .iadd), (40, .istore_n 0), (41, .iload_n 0), (42, .iload_n 0), (43, .bipush 16), (45, .iushr), (46, .iadd), (47, .istore_n 0), (48, .iload_n 0), (49, .bipush 63), (51, .iand), (52, .ireturn)]
def mIn_bitCount : pm_MI := (11, ⟨"java/lang/Integer", "bitCount", "(I)I"⟩, prog_9_method_49_code, 1, (Option.some Jvm.ClassFile.FieldType.int), tmIn_bitCount, 0, 0)
set_option maxRecDepth 20000 in
theorem ok_mIn_bitCount : pm_ok mIn_bitCount := pm_mkok (by decide +kernel) (pm_in (List.mem_of_getElem? (i := 463) (by decide +kernel)) (by decide +kernel))
def tmWh_daysGone : List (Nat × Instr) := [(0, .aload_n 0), (1, .getfield 15), (4, .aload_n 0), (5, .invokevirtual 83), (8, .invokestatic 87), (11, .isub), (12, .ireturn)]
def mWh_daysGone : pm_MI := (4, ⟨"WheelTickets$Wheel", "daysGone", "()I"⟩, prog_6_method_19_code, 1, (Option.some Jvm.ClassFile.FieldType.int), tmWh_daysGone, 3, 64)
set_option maxRecDepth 20000 in
theorem ok_mWh_daysGone : pm_ok mWh_daysGone := pm_mkok (by decide +kernel) (pm_in (List.mem_of_getElem? (i := 456) (by decide +kernel)) (by decide +kernel))
def tmWh_prizesIn : List (Nat × Instr) := [(0, .iconst 0), (1, .istore_n 1), (2, .iconst 0), (3, .istore_n 2), (4, .iload_n 2), (5, .aload_n 0), (6, .getfield 15), (9, .if_icmp .ge 23), (12, .aload_n 0), (13, .iload_n 2), (14, .invokevirtual 80), (17, .ifCond .eq 9), (20, .iload_n 1), (21, .iconst 1), (22, .iload_n 2), (23, .ishl), (24, .ior), (25, .istore_n 1), (26, .iinc 2 1), (29, .goto (-25)), (32, .iload_n 1), (33, .ireturn)]
def mWh_prizesIn : pm_MI := (4, ⟨"WheelTickets$Wheel", "prizesIn", "()I"⟩, prog_6_method_18_code, 3, (Option.some Jvm.ClassFile.FieldType.int), tmWh_prizesIn, 2, 42)
set_option maxRecDepth 20000 in
theorem ok_mWh_prizesIn : pm_ok mWh_prizesIn := pm_mkok (by decide +kernel) (pm_in (List.mem_of_getElem? (i := 471) (by decide +kernel)) (by decide +kernel))
def tmWh_amountIn : List (Nat × Instr) := [(0, .iconst 0), (1, .istore_n 1), (2, .iconst 0), (3, .istore_n 2), (4, .iload_n 2), (5, .aload_n 0), (6, .getfield 15), (9, .if_icmp .ge 26), (12, .aload_n 0), (13, .iload_n 2), (14, .invokevirtual 80), (17, .ifCond .eq 12), (20, .iload_n 1), (21, .aload_n 0), (22, .getfield 31), (25, .iload_n 2), (26, .iaload), (27, .iadd), (28, .istore_n 1), (29, .iinc 2 1), (32, .goto (-28)), (35, .iload_n 1), (36, .ireturn)]
def mWh_amountIn : pm_MI := (4, ⟨"WheelTickets$Wheel", "amountIn", "()I"⟩, prog_6_method_20_code, 3, (Option.some Jvm.ClassFile.FieldType.int), tmWh_amountIn, 2, 42)
set_option maxRecDepth 20000 in
theorem ok_mWh_amountIn : pm_ok mWh_amountIn := pm_mkok (by decide +kernel) (pm_in (List.mem_of_getElem? (i := 475) (by decide +kernel)) (by decide +kernel))
def tmWt_rule : List (Nat × Instr) := [(0, .iload_n 1), (1, .tableswitch 87 0 5 #[39, 47, 55, 63, 71, 79]), (40, .aload_n 0), (41, .getfield 10), (44, .getfield 87), (47, .ireturn), (48, .aload_n 0), (49, .getfield 10), (52, .getfield 90), (55, .ireturn), (56, .aload_n 0), (57, .getfield 10), (60, .invokevirtual 93), (63, .ireturn), (64, .aload_n 0), (65, .getfield 10), (68, .invokevirtual 97), (71, .ireturn), (72, .aload_n 0), (73, .getfield 10), (76, .invokevirtual 100), (79, .ireturn), (80, .aload_n 0), (81, .getfield 10), (84, .invokevirtual 103), (87, .ireturn), (88, .iconst (-1)), (89, .ireturn)]
def mWt_rule : pm_MI := (5, ⟨"WheelTickets", "rule", "(I)I"⟩, prog_1_method_6_code, 2, (Option.some Jvm.ClassFile.FieldType.int), tmWt_rule, 4, 84)
set_option maxRecDepth 20000 in
theorem ok_mWt_rule : pm_ok mWt_rule := pm_mkok (by decide +kernel) (pm_in (List.mem_of_getElem? (i := 452) (by decide +kernel)) (by decide +kernel))
def tmWh_ticketsWith : List (Nat × Instr) := [(0, .iconst 0), (1, .istore_n 3), (2, .iconst 0), (3, .istore 4), (5, .iload 4), (7, .aload_n 0), (8, .getfield 15), (11, .if_icmp .ge 27), (14, .aload_n 0), (15, .iload 4), (17, .iload_n 1), (18, .invokevirtual 73), (21, .iload_n 2), (22, .if_icmp .ne 10), (25, .iload_n 3), (26, .iconst 1), (27, .iload 4), (29, .ishl), (30, .ior), (31, .istore_n 3), (32, .iinc 4 1), (35, .goto (-30)), (38, .iload_n 3), (39, .ireturn)]
def mWh_ticketsWith : pm_MI := (4, ⟨"WheelTickets$Wheel", "ticketsWith", "(II)I"⟩, prog_6_method_16_code, 5, (Option.some Jvm.ClassFile.FieldType.int), tmWh_ticketsWith, 1, 22)
set_option maxRecDepth 20000 in
theorem ok_mWh_ticketsWith : pm_ok mWh_ticketsWith := pm_mkok (by decide +kernel) (pm_in (List.mem_of_getElem? (i := 484) (by decide +kernel)) (by decide +kernel))
def tmWt_person : List (Nat × Instr) := [(0, .aload_n 0), (1, .getfield 10), (4, .iload_n 1), (5, .invokevirtual 106), (8, .ifCond .ne 5), (11, .iconst (-1)), (12, .ireturn), (13, .iload_n 2), (14, .tableswitch 60 0 2 #[26, 40, 50]), (40, .sipush 10000), (43, .aload_n 0), (44, .getfield 10), (47, .getfield 109), (50, .iload_n 1), (51, .iaload), (52, .iadd), (53, .ireturn), (54, .aload_n 0), (55, .getfield 10), (58, .iconst 1), (59, .iload_n 1), (60, .invokevirtual 112), (63, .ireturn), (64, .aload_n 0), (65, .getfield 10), (68, .iconst 2), (69, .iload_n 1), (70, .invokevirtual 112), (73, .ireturn), (74, .iconst (-1)), (75, .ireturn)]
def mWt_person : pm_MI := (5, ⟨"WheelTickets", "person", "(II)I"⟩, prog_1_method_7_code, 3, (Option.some Jvm.ClassFile.FieldType.int), tmWt_person, 2, 46)
set_option maxRecDepth 20000 in
theorem ok_mWt_person : pm_ok mWt_person := pm_mkok (by decide +kernel) (pm_in (List.mem_of_getElem? (i := 479) (by decide +kernel)) (by decide +kernel))
def tmWt_ticket : List (Nat × Instr) := [(0, .aload_n 0), (1, .getfield 10), (4, .iload_n 1), (5, .invokevirtual 116), (8, .ifCond .eq 12), (11, .iload_n 2), (12, .iconst 0), (13, .iconst 4), (14, .invokestatic 59), (17, .ifCond .ne 5), (20, .iconst (-1)), (21, .ireturn), (22, .iload_n 2), (23, .iconst 4), (24, .if_icmp .ge 15), (27, .aload_n 0), (28, .getfield 10), (31, .iload_n 1), (32, .iload_n 2), (33, .invokevirtual 119), (36, .goto 12), (39, .aload_n 0), (40, .getfield 10), (43, .getfield 122), (46, .iload_n 1), (47, .iaload), (48, .ireturn)]
def mWt_ticket : pm_MI := (5, ⟨"WheelTickets", "ticket", "(II)I"⟩, prog_1_method_8_code, 3, (Option.some Jvm.ClassFile.FieldType.int), tmWt_ticket, 1, 22)
set_option maxRecDepth 20000 in
theorem ok_mWt_ticket : pm_ok mWt_ticket := pm_mkok (by decide +kernel) (pm_in (List.mem_of_getElem? (i := 488) (by decide +kernel)) (by decide +kernel))
def tmWt_prize : List (Nat × Instr) := [(0, .aload_n 0), (1, .getfield 10), (4, .iload_n 1), (5, .invokevirtual 125), (8, .ifCond .eq 12), (11, .iload_n 2), (12, .iconst 0), (13, .iconst 1), (14, .invokestatic 59), (17, .ifCond .ne 5), (20, .iconst (-1)), (21, .ireturn), (22, .iload_n 2), (23, .ifCond .ne 15), (26, .aload_n 0), (27, .getfield 10), (30, .getfield 128), (33, .iload_n 1), (34, .iaload), (35, .goto 12), (38, .aload_n 0), (39, .getfield 10), (42, .getfield 131), (45, .iload_n 1), (46, .iaload), (47, .ireturn)]
def mWt_prize : pm_MI := (5, ⟨"WheelTickets", "prize", "(II)I"⟩, prog_1_method_9_code, 3, (Option.some Jvm.ClassFile.FieldType.int), tmWt_prize, 1, 22)
set_option maxRecDepth 20000 in
theorem ok_mWt_prize : pm_ok mWt_prize := pm_mkok (by decide +kernel) (pm_in (List.mem_of_getElem? (i := 494) (by decide +kernel)) (by decide +kernel))
def tmWh_takesTrait : List (Nat × Instr) := [(0, .iload_n 1), (1, .tableswitch 58 0 3 #[31, 38, 44, 50]), (32, .iload_n 2), (33, .iconst 0), (34, .iconst 3), (35, .invokestatic 66), (38, .ireturn), (39, .aload_n 0), (40, .iload_n 2), (41, .invokevirtual 70), (44, .ireturn), (45, .aload_n 0), (46, .iload_n 2), (47, .invokevirtual 70), (50, .ireturn), (51, .iload_n 2), (52, .iconst 0), (53, .bipush 9), (55, .invokestatic 66), (58, .ireturn), (59, .iconst 0), (60, .ireturn)]
def mWh_takesTrait : pm_MI := (4, ⟨"WheelTickets$Wheel", "takesTrait", "(II)Z"⟩, prog_6_method_14_code, 3, (Option.some Jvm.ClassFile.FieldType.boolean), tmWh_takesTrait, 1, 22)
set_option maxRecDepth 20000 in
theorem ok_mWh_takesTrait : pm_ok mWh_takesTrait := pm_mkok (by decide +kernel) (pm_in (List.mem_of_getElem? (i := 503) (by decide +kernel)) (by decide +kernel))
def tmWt_sign : List (Nat × Instr) := [(0, .aload_n 0), (1, .getfield 10), (4, .iload_n 1), (5, .invokevirtual 116), (8, .ifCond .eq 15), (11, .aload_n 0), (12, .getfield 10), (15, .iload_n 2), (16, .iload_n 3), (17, .invokevirtual 134), (20, .ifCond .ne 5), (23, .iconst (-1)), (24, .ireturn), (25, .aload_n 0), (26, .getfield 10), (29, .iload_n 1), (30, .invokevirtual 138), (33, .ifCond .ne 6), (36, .bipush (-2)), (38, .ireturn), (39, .aload_n 0), (40, .getfield 10), (43, .iload_n 1), (44, .iload_n 2), (45, .invokevirtual 119), (48, .istore 4), (50, .aload_n 0), (51, .getfield 10), (54, .iload_n 1), (55, .iload_n 2), (56, .iload_n 3), (57, .invokevirtual 141), (60, .iload 4), (62, .ireturn)]
def mWt_sign : pm_MI := (5, ⟨"WheelTickets", "sign", "(III)I"⟩, prog_1_method_10_code, 5, (Option.some Jvm.ClassFile.FieldType.int), tmWt_sign, 2, 44)
set_option maxRecDepth 20000 in
theorem ok_mWt_sign : pm_ok mWt_sign := pm_mkok (by decide +kernel) (pm_in (List.mem_of_getElem? (i := 499) (by decide +kernel)) (by decide +kernel))
def tmWt_fill : List (Nat × Instr) := [(0, .aload_n 0), (1, .getfield 10), (4, .iload_n 1), (5, .invokevirtual 106), (8, .ifCond .eq 13), (11, .iload_n 2), (12, .iconst 0), (13, .bipush 99), (15, .invokestatic 59), (18, .ifCond .ne 5), (21, .iconst (-1)), (22, .ireturn), (23, .aload_n 0), (24, .getfield 10), (27, .getfield 109), (30, .iload_n 1), (31, .iaload), (32, .istore_n 3), (33, .aload_n 0), (34, .getfield 10), (37, .getfield 109), (40, .iload_n 1), (41, .iload_n 2), (42, .iastore), (43, .sipush 10000), (46, .iload_n 3), (47, .iadd), (48, .ireturn)]
def mWt_fill : pm_MI := (5, ⟨"WheelTickets", "fill", "(II)I"⟩, prog_1_method_11_code, 4, (Option.some Jvm.ClassFile.FieldType.int), tmWt_fill, 1, 22)
set_option maxRecDepth 20000 in
theorem ok_mWt_fill : pm_ok mWt_fill := pm_mkok (by decide +kernel) (pm_in (List.mem_of_getElem? (i := 510) (by decide +kernel)) (by decide +kernel))
def tmWt_promise : List (Nat × Instr) := [(0, .aload_n 0), (1, .getfield 10), (4, .iload_n 1), (5, .invokevirtual 125), (8, .ifCond .eq 13), (11, .iload_n 2), (12, .iconst 0), (13, .bipush 99), (15, .invokestatic 59), (18, .ifCond .ne 5), (21, .iconst (-1)), (22, .ireturn), (23, .aload_n 0), (24, .getfield 10), (27, .iload_n 1), (28, .invokevirtual 145), (31, .ifCond .ne 6), (34, .bipush (-2)), (36, .ireturn), (37, .aload_n 0), (38, .getfield 10), (41, .getfield 128), (44, .iload_n 1), (45, .iaload), (46, .istore_n 3), (47, .aload_n 0), (48, .getfield 10), (51, .getfield 128), (54, .iload_n 1), (55, .iload_n 2), (56, .iastore), (57, .iload_n 3), (58, .ireturn)]
def mWt_promise : pm_MI := (5, ⟨"WheelTickets", "promise", "(II)I"⟩, prog_1_method_12_code, 4, (Option.some Jvm.ClassFile.FieldType.int), tmWt_promise, 2, 42)
set_option maxRecDepth 20000 in
theorem ok_mWt_promise : pm_ok mWt_promise := pm_mkok (by decide +kernel) (pm_in (List.mem_of_getElem? (i := 514) (by decide +kernel)) (by decide +kernel))
def tmWt_draw : List (Nat × Instr) := [(0, .aload_n 0), (1, .getfield 10), (4, .iload_n 1), (5, .iload_n 2), (6, .invokevirtual 148), (9, .istore_n 3), (10, .iload_n 3), (11, .ifCond .eq 5), (14, .iload_n 3), (15, .ireturn), (16, .aload_n 0), (17, .getfield 10), (20, .iload_n 1), (21, .iload_n 2), (22, .invokevirtual 151), (25, .aload_n 0), (26, .getfield 10), (29, .getfield 128), (32, .iload_n 2), (33, .iaload), (34, .ireturn)]
def mWt_draw : pm_MI := (5, ⟨"WheelTickets", "draw", "(II)I"⟩, prog_1_method_13_code, 4, (Option.some Jvm.ClassFile.FieldType.int), tmWt_draw, 4, 94)
set_option maxRecDepth 20000 in
theorem ok_mWt_draw : pm_ok mWt_draw := pm_mkok (by decide +kernel) (pm_in (List.mem_of_getElem? (i := 519) (by decide +kernel)) (by decide +kernel))
def tmWt_isPart : List (Nat × Instr) := [(0, .iload_n 0), (1, .iconst 0), (2, .iconst 1), (3, .invokestatic 59), (6, .ireturn)]
def mWt_isPart : pm_MI := (5, ⟨"WheelTickets", "isPart", "(I)Z"⟩, prog_1_method_38_code, 1, (Option.some Jvm.ClassFile.FieldType.boolean), tmWt_isPart, 1, 22)
set_option maxRecDepth 20000 in
theorem ok_mWt_isPart : pm_ok mWt_isPart := pm_mkok (by decide +kernel) (pm_in (List.mem_of_getElem? (i := 528) (by decide +kernel)) (by decide +kernel))
def tmMa_abs : List (Nat × Instr) := [(0, .iload_n 0), (1, .ifCond .ge 8), (4, .iload_n 0), (5, .ineg), (6, .goto 4), (9, .iload_n 0), (10, .ireturn)]
def mMa_abs : pm_MI := (12, ⟨"java/lang/Math", "abs", "(I)I"⟩, prog_10_method_59_code, 1, (Option.some Jvm.ClassFile.FieldType.int), tmMa_abs, 0, 0)
set_option maxRecDepth 20000 in
theorem ok_mMa_abs : pm_ok mMa_abs := pm_mkok (by decide +kernel) (pm_in (List.mem_of_getElem? (i := 537) (by decide +kernel)) (by decide +kernel))
def tmWt_commonDivisor : List (Nat × Instr) := [(0, .iload_n 0), (1, .istore_n 2), (2, .iload_n 1), (3, .istore_n 3), (4, .iconst 0), (5, .istore 4), (7, .iload 4), (9, .bipush 64), (11, .if_icmp .ge 23), (14, .iload_n 3), (15, .ifCond .eq 19), (18, .iload_n 2), (19, .iload_n 3), (20, .irem), (21, .istore 5), (23, .iload_n 3), (24, .istore_n 2), (25, .iload 5), (27, .istore_n 3), (28, .iinc 4 1), (31, .goto (-24)), (34, .iload_n 2), (35, .ireturn)]
def mWt_commonDivisor : pm_MI := (5, ⟨"WheelTickets", "commonDivisor", "(II)I"⟩, prog_1_method_41_code, 6, (Option.some Jvm.ClassFile.FieldType.int), tmWt_commonDivisor, 0, 0)
set_option maxRecDepth 20000 in
theorem ok_mWt_commonDivisor : pm_ok mWt_commonDivisor := pm_mkok (by decide +kernel) (pm_in (List.mem_of_getElem? (i := 540) (by decide +kernel)) (by decide +kernel))
def tmWt_part : List (Nat × Instr) := [(0, .iload_n 0), (1, .invokestatic 275), (4, .iload_n 1), (5, .invokestatic 280), (8, .istore_n 3), (9, .iload_n 3), (10, .ifCond .ne 5), (13, .lconst 0), (14, .lreturn), (15, .iload_n 2), (16, .ifCond .ne 7), (19, .iload_n 0), (20, .goto 4), (23, .iload_n 1), (24, .iload_n 3), (25, .idiv), (26, .i2l), (27, .lreturn)]
def mWt_part : pm_MI := (5, ⟨"WheelTickets", "part", "(III)J"⟩, prog_1_method_40_code, 4, (Option.some Jvm.ClassFile.FieldType.long), tmWt_part, 1, 25)
set_option maxRecDepth 20000 in
theorem ok_mWt_part : pm_ok mWt_part := pm_mkok (by decide +kernel) (pm_in (List.mem_of_getElem? (i := 534) (by decide +kernel)) (by decide +kernel))
def tmWt_worth : List (Nat × Instr) := [(0, .iload_n 1), (1, .invokestatic 155), (4, .ifCond .ne 7), (7, .ldc2_w 158), (10, .lreturn), (11, .aload_n 0), (12, .getfield 10), (15, .invokevirtual 100), (18, .invokestatic 160), (21, .istore_n 2), (22, .iload_n 2), (23, .ifCond .ne 9), (26, .ldc2_w 166), (29, .goto 15), (32, .aload_n 0), (33, .getfield 10), (36, .invokevirtual 103), (39, .iload_n 2), (40, .iload_n 1), (41, .invokestatic 168), (44, .lreturn)]
def mWt_worth : pm_MI := (5, ⟨"WheelTickets", "worth", "(I)J"⟩, prog_1_method_14_code, 3, (Option.some Jvm.ClassFile.FieldType.long), tmWt_worth, 3, 64)
set_option maxRecDepth 20000 in
theorem ok_mWt_worth : pm_ok mWt_worth := pm_mkok (by decide +kernel) (pm_in (List.mem_of_getElem? (i := 525) (by decide +kernel)) (by decide +kernel))
def tmWt_day : List (Nat × Instr) := [(0, .aload_n 0), (1, .getfield 10), (4, .iload_n 1), (5, .invokevirtual 116), (8, .ifCond .eq 10), (11, .iload_n 2), (12, .invokestatic 155), (15, .ifCond .ne 7), (18, .ldc2_w 158), (21, .lreturn), (22, .aload_n 0), (23, .getfield 10), (26, .iload_n 1), (27, .invokevirtual 138), (30, .ifCond .ne 7), (33, .ldc2_w 172), (36, .lreturn), (37, .aload_n 0), (38, .getfield 10), (41, .invokevirtual 97), (44, .invokestatic 160), (47, .istore_n 3), (48, .aload_n 0), (49, .getfield 10), (52, .invokevirtual 103), (55, .iload_n 3), (56, .iload_n 3), (57, .imul), (58, .iload_n 2), (59, .invokestatic 168), (62, .lreturn)]
def mWt_day : pm_MI := (5, ⟨"WheelTickets", "day", "(II)J"⟩, prog_1_method_15_code, 4, (Option.some Jvm.ClassFile.FieldType.long), tmWt_day, 3, 64)
set_option maxRecDepth 20000 in
theorem ok_mWt_day : pm_ok mWt_day := pm_mkok (by decide +kernel) (pm_in (List.mem_of_getElem? (i := 544) (by decide +kernel)) (by decide +kernel))
def tmRe_look : List (Nat × Instr) := [(0, .aload_n 0), (1, .iconst 0), (2, .putfield 9), (5, .iconst 0), (6, .istore_n 2), (7, .iconst 0), (8, .istore_n 3), (9, .iload_n 3), (10, .iconst 4), (11, .if_icmp .ge 55), (14, .aload_n 1), (15, .iload_n 3), (16, .invokevirtual 46), (19, .ifCond .eq 23), (22, .aload_n 0), (23, .getfield 18), (26, .aload_n 0), (27, .getfield 9), (30, .iload_n 3), (31, .iastore), (32, .aload_n 0), (33, .dup), (34, .getfield 9), (37, .iconst 1), (38, .iadd), (39, .putfield 9), (42, .aload_n 1), (43, .iload_n 3), (44, .invokevirtual 52), (47, .ifCond .eq 13), (50, .aload_n 0), (51, .getfield 22), (54, .iload_n 2), (55, .iload_n 3), (56, .iastore), (57, .iinc 2 1), (60, .iinc 3 1), (63, .goto (-54)), (66, .aload_n 0), (67, .iconst 1), (68, .putfield 15), (71, .iconst 2), (72, .istore_n 3), (73, .iload_n 3), (74, .aload_n 0), (75, .getfield 9), (78, .if_icmp .gt 19), (81, .aload_n 0), (82, .dup), (83, .getfield 15), (86, .iload_n 3), (87, .imul), (88, .putfield 15), (91, .iinc 3 1), (94, .goto (-21)), (97, .return_)]
def mRe_look : pm_MI := (0, ⟨"WheelTickets$Rest", "look", "(LWheelTickets$Wheel;)V"⟩, prog_2_method_3_code, 4, (Option.none : Option Jvm.ClassFile.FieldType), tmRe_look, 2, 42)
set_option maxRecDepth 20000 in
theorem ok_mRe_look : pm_ok mRe_look := pm_mkok (by decide +kernel) (pm_in (List.mem_of_getElem? (i := 561) (by decide +kernel)) (by decide +kernel))
def tmRe_weigh : List (Nat × Instr) := [(0, .aload_n 0), (1, .aload_n 1), (2, .invokevirtual 55), (5, .iconst 0), (6, .istore_n 3), (7, .iload_n 3), (8, .aload_n 0), (9, .getfield 9), (12, .if_icmp .ge 78), (15, .aload_n 0), (16, .getfield 25), (19, .iload_n 3), (20, .aload_n 1), (21, .aload_n 0), (22, .getfield 18), (25, .iload_n 3), (26, .iaload), (27, .iload_n 2), (28, .invokevirtual 59), (31, .iastore), (32, .iconst 0), (33, .istore 4), (35, .iload 4), (37, .aload_n 0), (38, .getfield 9), (41, .if_icmp .ge 43), (44, .aload_n 0), (45, .getfield 28), (48, .iconst 4), (49, .iload_n 3), (50, .imul), (51, .iload 4), (53, .iadd), (54, .aload_n 1), (55, .aload_n 0), (56, .getfield 18), (59, .iload_n 3), (60, .iaload), (61, .aload_n 1), (62, .getfield 63), (65, .aload_n 0), (66, .getfield 22), (69, .iload 4), (71, .iaload), (72, .iaload), (73, .iload_n 2), (74, .invokevirtual 66), (77, .iastore), (78, .iinc 4 1), (81, .goto (-46)), (84, .iinc 3 1), (87, .goto (-80)), (90, .return_)]
def mRe_weigh : pm_MI := (0, ⟨"WheelTickets$Rest", "weigh", "(LWheelTickets$Wheel;I)V"⟩, prog_2_method_4_code, 5, (Option.none : Option Jvm.ClassFile.FieldType), tmRe_weigh, 3, 70)
set_option maxRecDepth 20000 in
theorem ok_mRe_weigh : pm_ok mRe_weigh := pm_mkok (by decide +kernel) (pm_in (List.mem_of_getElem? (i := 557) (by decide +kernel)) (by decide +kernel))
def tmRe_meanParts : List (Nat × Instr) := [(0, .aload_n 0), (1, .getfield 9), (4, .ifCond .ne 7), (7, .iconst 1), (8, .goto 9), (11, .iconst 2), (12, .aload_n 0), (13, .getfield 9), (16, .imul), (17, .ireturn)]
def mRe_meanParts : pm_MI := (0, ⟨"WheelTickets$Rest", "meanParts", "()I"⟩, prog_2_method_6_code, 1, (Option.some Jvm.ClassFile.FieldType.int), tmRe_meanParts, 0, 0)
set_option maxRecDepth 20000 in
theorem ok_mRe_meanParts : pm_ok mRe_meanParts := pm_mkok (by decide +kernel) (pm_in (List.mem_of_getElem? (i := 569) (by decide +kernel)) (by decide +kernel))
def tmRe_meanSum : List (Nat × Instr) := [(0, .aload_n 0), (1, .aload_n 1), (2, .iload_n 2), (3, .invokevirtual 70), (6, .aload_n 1), (7, .getfield 74), (10, .iload_n 2), (11, .iaload), (12, .aload_n 0), (13, .invokevirtual 77), (16, .imul), (17, .istore_n 3), (18, .iconst 0), (19, .istore 4), (21, .iload 4), (23, .aload_n 0), (24, .getfield 9), (27, .if_icmp .ge 66), (30, .iload_n 3), (31, .aload_n 0), (32, .getfield 25), (35, .iload 4), (37, .iaload), (38, .aload_n 0), (39, .getfield 9), (42, .imul), (43, .aload_n 0), (44, .getfield 9), (47, .iconst 1), (48, .iadd), (49, .imul), (50, .iadd), (51, .istore_n 3), (52, .iconst 0), (53, .istore 5), (55, .iload 5), (57, .aload_n 0), (58, .getfield 9), (61, .if_icmp .ge 26), (64, .iload_n 3), (65, .iconst 2), (66, .aload_n 0), (67, .getfield 28), (70, .iconst 4), (71, .iload 4), (73, .imul), (74, .iload 5), (76, .iadd), (77, .iaload), (78, .imul), (79, .iadd), (80, .istore_n 3), (81, .iinc 5 1), (84, .goto (-29)), (87, .iinc 4 1), (90, .goto (-69)), (93, .iload_n 3), (94, .ireturn)]
def mRe_meanSum : pm_MI := (0, ⟨"WheelTickets$Rest", "meanSum", "(LWheelTickets$Wheel;I)I"⟩, prog_2_method_5_code, 6, (Option.some Jvm.ClassFile.FieldType.int), tmRe_meanSum, 4, 94)
set_option maxRecDepth 20000 in
theorem ok_mRe_meanSum : pm_ok mRe_meanSum := pm_mkok (by decide +kernel) (pm_in (List.mem_of_getElem? (i := 553) (by decide +kernel)) (by decide +kernel))
def tmWt_mean : List (Nat × Instr) := [(0, .aload_n 0), (1, .getfield 10), (4, .iload_n 1), (5, .invokevirtual 106), (8, .ifCond .eq 10), (11, .iload_n 2), (12, .invokestatic 155), (15, .ifCond .ne 7), (18, .ldc2_w 158), (21, .lreturn), (22, .aload_n 0), (23, .getfield 30), (26, .aload_n 0), (27, .getfield 10), (30, .iload_n 1), (31, .invokevirtual 174), (34, .istore_n 3), (35, .iload_n 3), (36, .aload_n 0), (37, .getfield 30), (40, .invokevirtual 178), (43, .iload_n 2), (44, .invokestatic 168), (47, .lreturn)]
def mWt_mean : pm_MI := (5, ⟨"WheelTickets", "mean", "(II)J"⟩, prog_1_method_16_code, 4, (Option.some Jvm.ClassFile.FieldType.long), tmWt_mean, 5, 119)
set_option maxRecDepth 20000 in
theorem ok_mWt_mean : pm_ok mWt_mean := pm_mkok (by decide +kernel) (pm_in (List.mem_of_getElem? (i := 549) (by decide +kernel)) (by decide +kernel))
def tmWt_isEnd : List (Nat × Instr) := [(0, .iload_n 0), (1, .sipush (-999)), (4, .sipush 999), (7, .invokestatic 59), (10, .ireturn)]
def mWt_isEnd : pm_MI := (5, ⟨"WheelTickets", "isEnd", "(I)Z"⟩, prog_1_method_37_code, 1, (Option.some Jvm.ClassFile.FieldType.boolean), tmWt_isEnd, 1, 22)
set_option maxRecDepth 20000 in
theorem ok_mWt_isEnd : pm_ok mWt_isEnd := pm_mkok (by decide +kernel) (pm_in (List.mem_of_getElem? (i := 577) (by decide +kernel)) (by decide +kernel))
def tmRe_spread : List (Nat × Instr) := [(0, .aload_n 0), (1, .aload_n 1), (2, .iload_n 2), (3, .invokevirtual 70), (6, .iconst 0), (7, .istore_n 3), (8, .iload_n 3), (9, .aload_n 0), (10, .getfield 15), (13, .if_icmp .ge 105), (16, .iconst 0), (17, .istore 4), (19, .iconst 0), (20, .istore 5), (22, .iconst 0), (23, .istore 6), (25, .iload 6), (27, .aload_n 0), (28, .getfield 9), (31, .if_icmp .ge 55), (34, .getstatic 87), (37, .iconst 4), (38, .iload_n 3), (39, .imul), (40, .iload 6), (42, .iadd), (43, .iaload), (44, .istore 7), (46, .iload 4), (48, .iload 6), (50, .iconst 1), (51, .iadd), (52, .aload_n 0), (53, .getfield 25), (56, .iload 7), (58, .iaload), (59, .imul), (60, .iadd), (61, .istore 4), (63, .iload 5), (65, .aload_n 0), (66, .getfield 28), (69, .iconst 4), (70, .iload 6), (72, .imul), (73, .iload 7), (75, .iadd), (76, .iaload), (77, .iadd), (78, .istore 5), (80, .iinc 6 1), (83, .goto (-58)), (86, .aload_n 0), (87, .getfield 31), (90, .bipush 24), (92, .iload_n 2), (93, .imul), (94, .iload_n 3), (95, .iadd), (96, .iload 4), (98, .iastore), (99, .aload_n 0), (100, .getfield 34), (103, .bipush 24), (105, .iload_n 2), (106, .imul), (107, .iload_n 3), (108, .iadd), (109, .iload 5), (111, .iastore), (112, .iinc 3 1), (115, .goto (-107)), (118, .return_)]
def mRe_spread : pm_MI := (0, ⟨"WheelTickets$Rest", "spread", "(LWheelTickets$Wheel;I)V"⟩, prog_2_method_8_code, 8, (Option.none : Option Jvm.ClassFile.FieldType), tmRe_spread, 4, 94)
set_option maxRecDepth 20000 in
theorem ok_mRe_spread : pm_ok mRe_spread := pm_mkok (by decide +kernel) (pm_in (List.mem_of_getElem? (i := 581) (by decide +kernel)) (by decide +kernel))
def tmRe_gain : List (Nat × Instr) := [(0, .aload_n 0), (1, .getfield 31), (4, .bipush 24), (6, .iload_n 1), (7, .imul), (8, .iload_n 2), (9, .iadd), (10, .iaload), (11, .aload_n 0), (12, .getfield 34), (15, .bipush 24), (17, .iload_n 1), (18, .imul), (19, .iload_n 3), (20, .iadd), (21, .iaload), (22, .iadd), (23, .ireturn)]
def mRe_gain : pm_MI := (0, ⟨"WheelTickets$Rest", "gain", "(III)I"⟩, prog_2_method_9_code, 4, (Option.some Jvm.ClassFile.FieldType.int), tmRe_gain, 0, 0)
set_option maxRecDepth 20000 in
theorem ok_mRe_gain : pm_ok mRe_gain := pm_mkok (by decide +kernel) (pm_in (List.mem_of_getElem? (i := 591) (by decide +kernel)) (by decide +kernel))
def tmRe_waysNoLess : List (Nat × Instr) := [(0, .iconst 0), (1, .istore_n 3), (2, .iconst 0), (3, .istore 4), (5, .iload 4), (7, .aload_n 0), (8, .getfield 15), (11, .if_icmp .ge 43), (14, .iconst 0), (15, .istore 5), (17, .iload 5), (19, .aload_n 0), (20, .getfield 15), (23, .if_icmp .ge 25), (26, .aload_n 0), (27, .iload_n 1), (28, .iload 4), (30, .iload 5), (32, .invokevirtual 90), (35, .iload_n 2), (36, .if_icmp .lt 6), (39, .iinc 3 1), (42, .iinc 5 1), (45, .goto (-28)), (48, .iinc 4 1), (51, .goto (-46)), (54, .iload_n 3), (55, .ireturn)]
def mRe_waysNoLess : pm_MI := (0, ⟨"WheelTickets$Rest", "waysNoLess", "(II)I"⟩, prog_2_method_10_code, 6, (Option.some Jvm.ClassFile.FieldType.int), tmRe_waysNoLess, 1, 23)
set_option maxRecDepth 20000 in
theorem ok_mRe_waysNoLess : pm_ok mRe_waysNoLess := pm_mkok (by decide +kernel) (pm_in (List.mem_of_getElem? (i := 587) (by decide +kernel)) (by decide +kernel))
def tmRe_allWays : List (Nat × Instr) := [(0, .aload_n 0), (1, .getfield 15), (4, .aload_n 0), (5, .getfield 15), (8, .imul), (9, .ireturn)]
def mRe_allWays : pm_MI := (0, ⟨"WheelTickets$Rest", "allWays", "()I"⟩, prog_2_method_2_code, 1, (Option.some Jvm.ClassFile.FieldType.int), tmRe_allWays, 0, 0)
set_option maxRecDepth 20000 in
theorem ok_mRe_allWays : pm_ok mRe_allWays := pm_mkok (by decide +kernel) (pm_in (List.mem_of_getElem? (i := 595) (by decide +kernel)) (by decide +kernel))
def tmWt_luck : List (Nat × Instr) := [(0, .aload_n 0), (1, .getfield 10), (4, .iload_n 1), (5, .invokevirtual 106), (8, .ifCond .eq 17), (11, .iload_n 2), (12, .invokestatic 181), (15, .ifCond .eq 10), (18, .iload_n 3), (19, .invokestatic 155), (22, .ifCond .ne 7), (25, .ldc2_w 158), (28, .lreturn), (29, .aload_n 0), (30, .getfield 30), (33, .aload_n 0), (34, .getfield 10), (37, .iload_n 1), (38, .invokevirtual 184), (41, .aload_n 0), (42, .getfield 30), (45, .iload_n 1), (46, .iload_n 2), (47, .aload_n 0), (48, .getfield 10), (51, .getfield 109), (54, .iload_n 1), (55, .iaload), (56, .isub), (57, .invokevirtual 188), (60, .aload_n 0), (61, .getfield 30), (64, .invokevirtual 191), (67, .iload_n 3), (68, .invokestatic 168), (71, .lreturn)]
def mWt_luck : pm_MI := (5, ⟨"WheelTickets", "luck", "(III)J"⟩, prog_1_method_17_code, 4, (Option.some Jvm.ClassFile.FieldType.long), tmWt_luck, 5, 121)
set_option maxRecDepth 20000 in
theorem ok_mWt_luck : pm_ok mWt_luck := pm_mkok (by decide +kernel) (pm_in (List.mem_of_getElem? (i := 574) (by decide +kernel)) (by decide +kernel))
def tmRe_spreadAll : List (Nat × Instr) := [(0, .aload_n 0), (1, .aload_n 1), (2, .invokevirtual 55), (5, .iconst 0), (6, .istore_n 2), (7, .iload_n 2), (8, .aload_n 1), (9, .getfield 81), (12, .if_icmp .ge 15), (15, .aload_n 0), (16, .aload_n 1), (17, .iload_n 2), (18, .invokevirtual 84), (21, .iinc 2 1), (24, .goto (-17)), (27, .return_)]
def mRe_spreadAll : pm_MI := (0, ⟨"WheelTickets$Rest", "spreadAll", "(LWheelTickets$Wheel;)V"⟩, prog_2_method_7_code, 3, (Option.none : Option Jvm.ClassFile.FieldType), tmRe_spreadAll, 5, 121)
set_option maxRecDepth 20000 in
theorem ok_mRe_spreadAll : pm_ok mRe_spreadAll := pm_mkok (by decide +kernel) (pm_in (List.mem_of_getElem? (i := 603) (by decide +kernel)) (by decide +kernel))
def tmRe_isSolid : List (Nat × Instr) := [(0, .iconst 0), (1, .istore 4), (3, .iload 4), (5, .aload_n 1), (6, .getfield 81), (9, .if_icmp .ge 30), (12, .aload_n 1), (13, .getfield 74), (16, .iload 4), (18, .iaload), (19, .aload_n 0), (20, .iload 4), (22, .iload_n 2), (23, .iload_n 3), (24, .invokevirtual 90), (27, .iadd), (28, .ifCond .ge 5), (31, .iconst 0), (32, .ireturn), (33, .iinc 4 1), (36, .goto (-33)), (39, .iconst 1), (40, .ireturn)]
def mRe_isSolid : pm_MI := (0, ⟨"WheelTickets$Rest", "isSolid", "(LWheelTickets$Wheel;II)Z"⟩, prog_2_method_12_code, 5, (Option.some Jvm.ClassFile.FieldType.boolean), tmRe_isSolid, 1, 23)
set_option maxRecDepth 20000 in
theorem ok_mRe_isSolid : pm_ok mRe_isSolid := pm_mkok (by decide +kernel) (pm_in (List.mem_of_getElem? (i := 612) (by decide +kernel)) (by decide +kernel))
def tmRe_waysSolid : List (Nat × Instr) := [(0, .iconst 0), (1, .istore_n 2), (2, .iconst 0), (3, .istore_n 3), (4, .iload_n 3), (5, .aload_n 0), (6, .getfield 15), (9, .if_icmp .ge 41), (12, .iconst 0), (13, .istore 4), (15, .iload 4), (17, .aload_n 0), (18, .getfield 15), (21, .if_icmp .ge 23), (24, .aload_n 0), (25, .aload_n 1), (26, .iload_n 3), (27, .iload 4), (29, .invokevirtual 93), (32, .ifCond .eq 6), (35, .iinc 2 1), (38, .iinc 4 1), (41, .goto (-26)), (44, .iinc 3 1), (47, .goto (-43)), (50, .iload_n 2), (51, .ireturn)]
def mRe_waysSolid : pm_MI := (0, ⟨"WheelTickets$Rest", "waysSolid", "(LWheelTickets$Wheel;)I"⟩, prog_2_method_11_code, 5, (Option.some Jvm.ClassFile.FieldType.int), tmRe_waysSolid, 2, 47)
set_option maxRecDepth 20000 in
theorem ok_mRe_waysSolid : pm_ok mRe_waysSolid := pm_mkok (by decide +kernel) (pm_in (List.mem_of_getElem? (i := 608) (by decide +kernel)) (by decide +kernel))
def tmWt_solid : List (Nat × Instr) := [(0, .iload_n 1), (1, .invokestatic 155), (4, .ifCond .ne 7), (7, .ldc2_w 158), (10, .lreturn), (11, .aload_n 0), (12, .getfield 30), (15, .aload_n 0), (16, .getfield 10), (19, .invokevirtual 194), (22, .aload_n 0), (23, .getfield 30), (26, .aload_n 0), (27, .getfield 10), (30, .invokevirtual 197), (33, .aload_n 0), (34, .getfield 30), (37, .invokevirtual 191), (40, .iload_n 1), (41, .invokestatic 168), (44, .lreturn)]
def mWt_solid : pm_MI := (5, ⟨"WheelTickets", "solid", "(I)J"⟩, prog_1_method_18_code, 2, (Option.some Jvm.ClassFile.FieldType.long), tmWt_solid, 6, 143)
set_option maxRecDepth 20000 in
theorem ok_mWt_solid : pm_ok mWt_solid := pm_mkok (by decide +kernel) (pm_in (List.mem_of_getElem? (i := 599) (by decide +kernel)) (by decide +kernel))
def tmMa_min : List (Nat × Instr) := [(0, .iload_n 0), (1, .iload_n 1), (2, .if_icmp .gt 7), (5, .iload_n 0), (6, .goto 4), (9, .iload_n 1), (10, .ireturn)]
def mMa_min : pm_MI := (12, ⟨"java/lang/Math", "min", "(II)I"⟩, prog_10_method_69_code, 2, (Option.some Jvm.ClassFile.FieldType.int), tmMa_min, 0, 0)
set_option maxRecDepth 20000 in
theorem ok_mMa_min : pm_ok mMa_min := pm_mkok (by decide +kernel) (pm_in (List.mem_of_getElem? (i := 627) (by decide +kernel)) (by decide +kernel))
def tmRe_leastOf : List (Nat × Instr) := [(0, .aload_n 1), (1, .bipush 24), (3, .iload_n 2), (4, .imul), (5, .iaload), (6, .istore_n 3), (7, .iconst 1), (8, .istore 4), (10, .iload 4), (12, .aload_n 0), (13, .getfield 15), (16, .if_icmp .ge 23), (19, .iload_n 3), (20, .aload_n 1), (21, .bipush 24), (23, .iload_n 2), (24, .imul), (25, .iload 4), (27, .iadd), (28, .iaload), (29, .invokestatic 104), (32, .istore_n 3), (33, .iinc 4 1), (36, .goto (-26)), (39, .iload_n 3), (40, .ireturn)]
def mRe_leastOf : pm_MI := (0, ⟨"WheelTickets$Rest", "leastOf", "([II)I"⟩, prog_2_method_16_code, 5, (Option.some Jvm.ClassFile.FieldType.int), tmRe_leastOf, 1, 21)
set_option maxRecDepth 20000 in
theorem ok_mRe_leastOf : pm_ok mRe_leastOf := pm_mkok (by decide +kernel) (pm_in (List.mem_of_getElem? (i := 624) (by decide +kernel)) (by decide +kernel))
def tmRe_leastGain : List (Nat × Instr) := [(0, .aload_n 0), (1, .aload_n 0), (2, .getfield 31), (5, .iload_n 1), (6, .invokevirtual 97), (9, .aload_n 0), (10, .aload_n 0), (11, .getfield 34), (14, .iload_n 1), (15, .invokevirtual 97), (18, .iadd), (19, .ireturn)]
def mRe_leastGain : pm_MI := (0, ⟨"WheelTickets$Rest", "leastGain", "(I)I"⟩, prog_2_method_13_code, 2, (Option.some Jvm.ClassFile.FieldType.int), tmRe_leastGain, 2, 45)
set_option maxRecDepth 20000 in
theorem ok_mRe_leastGain : pm_ok mRe_leastGain := pm_mkok (by decide +kernel) (pm_in (List.mem_of_getElem? (i := 620) (by decide +kernel)) (by decide +kernel))
def tmMa_max : List (Nat × Instr) := [(0, .iload_n 0), (1, .iload_n 1), (2, .if_icmp .lt 7), (5, .iload_n 0), (6, .goto 4), (9, .iload_n 1), (10, .ireturn)]
def mMa_max : pm_MI := (12, ⟨"java/lang/Math", "max", "(II)I"⟩, prog_10_method_65_code, 2, (Option.some Jvm.ClassFile.FieldType.int), tmMa_max, 0, 0)
set_option maxRecDepth 20000 in
theorem ok_mMa_max : pm_ok mMa_max := pm_mkok (by decide +kernel) (pm_in (List.mem_of_getElem? (i := 638) (by decide +kernel)) (by decide +kernel))
def tmRe_mostOf : List (Nat × Instr) := [(0, .aload_n 1), (1, .bipush 24), (3, .iload_n 2), (4, .imul), (5, .iaload), (6, .istore_n 3), (7, .iconst 1), (8, .istore 4), (10, .iload 4), (12, .aload_n 0), (13, .getfield 15), (16, .if_icmp .ge 23), (19, .iload_n 3), (20, .aload_n 1), (21, .bipush 24), (23, .iload_n 2), (24, .imul), (25, .iload 4), (27, .iadd), (28, .iaload), (29, .invokestatic 109), (32, .istore_n 3), (33, .iinc 4 1), (36, .goto (-26)), (39, .iload_n 3), (40, .ireturn)]
def mRe_mostOf : pm_MI := (0, ⟨"WheelTickets$Rest", "mostOf", "([II)I"⟩, prog_2_method_17_code, 5, (Option.some Jvm.ClassFile.FieldType.int), tmRe_mostOf, 1, 21)
set_option maxRecDepth 20000 in
theorem ok_mRe_mostOf : pm_ok mRe_mostOf := pm_mkok (by decide +kernel) (pm_in (List.mem_of_getElem? (i := 635) (by decide +kernel)) (by decide +kernel))
def tmRe_mostGain : List (Nat × Instr) := [(0, .aload_n 0), (1, .aload_n 0), (2, .getfield 31), (5, .iload_n 1), (6, .invokevirtual 101), (9, .aload_n 0), (10, .aload_n 0), (11, .getfield 34), (14, .iload_n 1), (15, .invokevirtual 101), (18, .iadd), (19, .ireturn)]
def mRe_mostGain : pm_MI := (0, ⟨"WheelTickets$Rest", "mostGain", "(I)I"⟩, prog_2_method_14_code, 2, (Option.some Jvm.ClassFile.FieldType.int), tmRe_mostGain, 2, 45)
set_option maxRecDepth 20000 in
theorem ok_mRe_mostGain : pm_ok mRe_mostGain := pm_mkok (by decide +kernel) (pm_in (List.mem_of_getElem? (i := 631) (by decide +kernel)) (by decide +kernel))
def tmRe_mostByFees : List (Nat × Instr) := [(0, .aload_n 0), (1, .aload_n 0), (2, .getfield 31), (5, .iload_n 1), (6, .invokevirtual 101), (9, .ireturn)]
def mRe_mostByFees : pm_MI := (0, ⟨"WheelTickets$Rest", "mostByFees", "(I)I"⟩, prog_2_method_15_code, 2, (Option.some Jvm.ClassFile.FieldType.int), tmRe_mostByFees, 2, 45)
set_option maxRecDepth 20000 in
theorem ok_mRe_mostByFees : pm_ok mRe_mostByFees := pm_mkok (by decide +kernel) (pm_in (List.mem_of_getElem? (i := 646) (by decide +kernel)) (by decide +kernel))
def tmRe_firstToMost : List (Nat × Instr) := [(0, .aload_n 0), (1, .iload_n 1), (2, .invokevirtual 112), (5, .istore_n 2), (6, .iconst 0), (7, .istore_n 3), (8, .iconst 0), (9, .istore 4), (11, .iload 4), (13, .aload_n 0), (14, .getfield 15), (17, .if_icmp .ge 50), (20, .aload_n 0), (21, .getfield 9), (24, .ifCond .le 43), (27, .aload_n 0), (28, .getfield 31), (31, .bipush 24), (33, .iload_n 1), (34, .imul), (35, .iload 4), (37, .iadd), (38, .iaload), (39, .iload_n 2), (40, .if_icmp .ne 21), (43, .iload_n 3), (44, .iconst 1), (45, .aload_n 0), (46, .getfield 18), (49, .getstatic 87), (52, .iconst 4), (53, .iload 4), (55, .imul), (56, .iaload), (57, .iaload), (58, .ishl), (59, .ior), (60, .istore_n 3), (61, .iinc 4 1), (64, .goto (-53)), (67, .iload_n 3), (68, .ireturn)]
def mRe_firstToMost : pm_MI := (0, ⟨"WheelTickets$Rest", "firstToMost", "(I)I"⟩, prog_2_method_18_code, 5, (Option.some Jvm.ClassFile.FieldType.int), tmRe_firstToMost, 3, 66)
set_option maxRecDepth 20000 in
theorem ok_mRe_firstToMost : pm_ok mRe_firstToMost := pm_mkok (by decide +kernel) (pm_in (List.mem_of_getElem? (i := 642) (by decide +kernel)) (by decide +kernel))
def tmWt_ends : List (Nat × Instr) := [(0, .aload_n 0), (1, .getfield 10), (4, .iload_n 1), (5, .invokevirtual 106), (8, .ifCond .eq 12), (11, .iload_n 2), (12, .iconst 0), (13, .iconst 2), (14, .invokestatic 59), (17, .ifCond .ne 5), (20, .iconst (-1)), (21, .ireturn), (22, .aload_n 0), (23, .getfield 30), (26, .aload_n 0), (27, .getfield 10), (30, .iload_n 1), (31, .invokevirtual 184), (34, .iload_n 2), (35, .lookupswitch 71 #[(0, 25), (1, 48)]), (60, .sipush 10000), (63, .aload_n 0), (64, .getfield 10), (67, .getfield 109), (70, .iload_n 1), (71, .iaload), (72, .iadd), (73, .aload_n 0), (74, .getfield 30), (77, .iload_n 1), (78, .invokevirtual 201), (81, .iadd), (82, .ireturn), (83, .sipush 10000), (86, .aload_n 0), (87, .getfield 10), (90, .getfield 109), (93, .iload_n 1), (94, .iaload), (95, .iadd), (96, .aload_n 0), (97, .getfield 30), (100, .iload_n 1), (101, .invokevirtual 204), (104, .iadd), (105, .ireturn), (106, .aload_n 0), (107, .getfield 30), (110, .iload_n 1), (111, .invokevirtual 207), (114, .ireturn)]
def mWt_ends : pm_MI := (5, ⟨"WheelTickets", "ends", "(II)I"⟩, prog_1_method_19_code, 3, (Option.some Jvm.ClassFile.FieldType.int), tmWt_ends, 5, 121)
set_option maxRecDepth 20000 in
theorem ok_mWt_ends : pm_ok mWt_ends := pm_mkok (by decide +kernel) (pm_in (List.mem_of_getElem? (i := 616) (by decide +kernel)) (by decide +kernel))
def tmWt_fee : List (Nat × Instr) := [(0, .aload_n 0), (1, .getfield 10), (4, .iload_n 1), (5, .invokevirtual 116), (8, .ifCond .eq 10), (11, .iload_n 2), (12, .invokestatic 181), (15, .ifCond .ne 5), (18, .iconst (-1)), (19, .ireturn), (20, .aload_n 0), (21, .getfield 10), (24, .iload_n 1), (25, .invokevirtual 138), (28, .ifCond .ne 6), (31, .bipush (-2)), (33, .ireturn), (34, .aload_n 0), (35, .getfield 10), (38, .iload_n 1), (39, .iconst 1), (40, .invokevirtual 119), (43, .istore_n 3), (44, .aload_n 0), (45, .getfield 16), (48, .aload_n 0), (49, .getfield 10), (52, .invokevirtual 77), (55, .iconst 0), (56, .istore 4), (58, .iload 4), (60, .bipush 9), (62, .if_icmp .gt 51), (65, .aload_n 0), (66, .getfield 16), (69, .iload_n 1), (70, .iconst 3), (71, .iload 4), (73, .invokevirtual 141), (76, .aload_n 0), (77, .getfield 30), (80, .aload_n 0), (81, .getfield 16), (84, .iload_n 3), (85, .invokevirtual 174), (88, .istore 5), (90, .iload 5), (92, .iload_n 2), (93, .aload_n 0), (94, .getfield 30), (97, .invokevirtual 178), (100, .imul), (101, .if_icmp .lt 6), (104, .iload 4), (106, .ireturn), (107, .iinc 4 1), (110, .goto (-52)), (113, .bipush (-4)), (115, .ireturn)]
def mWt_fee : pm_MI := (5, ⟨"WheelTickets", "fee", "(II)I"⟩, prog_1_method_20_code, 6, (Option.some Jvm.ClassFile.FieldType.int), tmWt_fee, 5, 119)
set_option maxRecDepth 20000 in
theorem ok_mWt_fee : pm_ok mWt_fee := pm_mkok (by decide +kernel) (pm_in (List.mem_of_getElem? (i := 650) (by decide +kernel)) (by decide +kernel))
def tmWt_kind : List (Nat × Instr) := [(0, .aload_n 0), (1, .getfield 10), (4, .iload_n 1), (5, .invokevirtual 116), (8, .ifCond .ne 5), (11, .iconst (-1)), (12, .ireturn), (13, .aload_n 0), (14, .getfield 10), (17, .iload_n 1), (18, .invokevirtual 138), (21, .ifCond .ne 6), (24, .bipush (-2)), (26, .ireturn), (27, .aload_n 0), (28, .getfield 10), (31, .iload_n 1), (32, .iconst 1), (33, .invokevirtual 119), (36, .istore_n 2), (37, .aload_n 0), (38, .getfield 16), (41, .aload_n 0), (42, .getfield 10), (45, .invokevirtual 77), (48, .iconst 0), (49, .istore_n 3), (50, .ldc 210), (52, .istore 4), (54, .iconst 0), (55, .istore 5), (57, .iload 5), (59, .iconst 3), (60, .if_icmp .gt 48), (63, .aload_n 0), (64, .getfield 16), (67, .iload_n 1), (68, .iconst 0), (69, .iload 5), (71, .invokevirtual 141), (74, .aload_n 0), (75, .getfield 30), (78, .aload_n 0), (79, .getfield 16), (82, .iload_n 2), (83, .invokevirtual 174), (86, .istore 6), (88, .iload 6), (90, .iload 4), (92, .if_icmp .le 10), (95, .iload 6), (97, .istore 4), (99, .iload 5), (101, .istore_n 3), (102, .iinc 5 1), (105, .goto (-48)), (108, .iload_n 3), (109, .ireturn)]
def mWt_kind : pm_MI := (5, ⟨"WheelTickets", "kind", "(I)I"⟩, prog_1_method_21_code, 7, (Option.some Jvm.ClassFile.FieldType.int), tmWt_kind, 5, 119)
set_option maxRecDepth 20000 in
theorem ok_mWt_kind : pm_ok mWt_kind := pm_mkok (by decide +kernel) (pm_in (List.mem_of_getElem? (i := 654) (by decide +kernel)) (by decide +kernel))
def tmWt_buy : List (Nat × Instr) := [(0, .aload_n 0), (1, .getfield 10), (4, .iload_n 1), (5, .invokevirtual 106), (8, .ifCond .ne 5), (11, .iconst (-1)), (12, .ireturn), (13, .bipush (-4)), (15, .istore_n 2), (16, .aload_n 0), (17, .getfield 30), (20, .aload_n 0), (21, .getfield 10), (24, .iload_n 1), (25, .invokevirtual 174), (28, .istore_n 3), (29, .iconst 0), (30, .istore 4), (32, .iload 4), (34, .aload_n 0), (35, .getfield 10), (38, .getfield 90), (41, .if_icmp .ge 69), (44, .aload_n 0), (45, .getfield 10), (48, .iload 4), (50, .invokevirtual 138), (53, .ifCond .eq 51), (56, .aload_n 0), (57, .getfield 16), (60, .aload_n 0), (61, .getfield 10), (64, .invokevirtual 77), (67, .aload_n 0), (68, .getfield 16), (71, .iload 4), (73, .iconst 1), (74, .iload_n 1), (75, .invokevirtual 141), (78, .aload_n 0), (79, .getfield 30), (82, .aload_n 0), (83, .getfield 16), (86, .iload_n 1), (87, .invokevirtual 174), (90, .istore 5), (92, .iload 5), (94, .iload_n 3), (95, .if_icmp .le 9), (98, .iload 5), (100, .istore_n 3), (101, .iload 4), (103, .istore_n 2), (104, .iinc 4 1), (107, .goto (-75)), (110, .iload_n 2), (111, .ireturn)]
def mWt_buy : pm_MI := (5, ⟨"WheelTickets", "buy", "(I)I"⟩, prog_1_method_22_code, 6, (Option.some Jvm.ClassFile.FieldType.int), tmWt_buy, 5, 119)
set_option maxRecDepth 20000 in
theorem ok_mWt_buy : pm_ok mWt_buy := pm_mkok (by decide +kernel) (pm_in (List.mem_of_getElem? (i := 659) (by decide +kernel)) (by decide +kernel))
def tmRe_findBeside : List (Nat × Instr) := [(0, .aload_n 0), (1, .getfield 37), (4, .ldc 118), (6, .invokestatic 119), (9, .iconst 0), (10, .istore_n 3), (11, .iload_n 3), (12, .aload_n 0), (13, .getfield 15), (16, .if_icmp .ge 95), (19, .iconst 0), (20, .istore 4), (22, .iload 4), (24, .aload_n 0), (25, .getfield 9), (28, .if_icmp .ge 77), (31, .getstatic 87), (34, .iconst 4), (35, .iload_n 3), (36, .imul), (37, .iload 4), (39, .iadd), (40, .iaload), (41, .istore 5), (43, .aload_n 0), (44, .getfield 22), (47, .iload 5), (49, .iaload), (50, .iload_n 2), (51, .if_icmp .ne 48), (54, .aload_n 0), (55, .getfield 34), (58, .bipush 24), (60, .iload_n 1), (61, .imul), (62, .iload_n 3), (63, .iadd), (64, .iaload), (65, .aload_n 0), (66, .getfield 28), (69, .iconst 4), (70, .iload 4), (72, .imul), (73, .iload 5), (75, .iadd), (76, .iaload), (77, .isub), (78, .istore 6), (80, .aload_n 0), (81, .getfield 37), (84, .iload 4), (86, .aload_n 0), (87, .getfield 37), (90, .iload 4), (92, .iaload), (93, .iload 6), (95, .invokestatic 109), (98, .iastore), (99, .iinc 4 1), (102, .goto (-80)), (105, .iinc 3 1), (108, .goto (-97)), (111, .return_)]
def mRe_findBeside : pm_MI := (0, ⟨"WheelTickets$Rest", "findBeside", "(II)V"⟩, prog_2_method_19_code, 7, (Option.none : Option Jvm.ClassFile.FieldType), tmRe_findBeside, 1, 23)
set_option maxRecDepth 20000 in
theorem ok_mRe_findBeside : pm_ok mRe_findBeside := pm_mkok (by decide +kernel) (pm_in (List.mem_of_getElem? (i := 667) (by decide +kernel)) (by decide +kernel))
def tmRe_mostByPrizesWith : List (Nat × Instr) := [(0, .ldc 118), (2, .istore 4), (4, .iconst 0), (5, .istore 5), (7, .iload 5), (9, .aload_n 0), (10, .getfield 9), (13, .if_icmp .ge 37), (16, .iload 4), (18, .aload_n 0), (19, .getfield 37), (22, .iload 5), (24, .iaload), (25, .aload_n 1), (26, .aload_n 0), (27, .getfield 18), (30, .iload 5), (32, .iaload), (33, .iload_n 3), (34, .iload_n 2), (35, .invokevirtual 66), (38, .iadd), (39, .invokestatic 109), (42, .istore 4), (44, .iinc 5 1), (47, .goto (-40)), (50, .iload 4), (52, .ireturn)]
def mRe_mostByPrizesWith : pm_MI := (0, ⟨"WheelTickets$Rest", "mostByPrizesWith", "(LWheelTickets$Wheel;II)I"⟩, prog_2_method_20_code, 6, (Option.some Jvm.ClassFile.FieldType.int), tmRe_mostByPrizesWith, 3, 70)
set_option maxRecDepth 20000 in
theorem ok_mRe_mostByPrizesWith : pm_ok mRe_mostByPrizesWith := pm_mkok (by decide +kernel) (pm_in (List.mem_of_getElem? (i := 674) (by decide +kernel)) (by decide +kernel))
def tmWt_cap : List (Nat × Instr) := [(0, .aload_n 0), (1, .getfield 10), (4, .iload_n 1), (5, .invokevirtual 125), (8, .ifCond .eq 25), (11, .aload_n 0), (12, .getfield 10), (15, .iload_n 2), (16, .invokevirtual 106), (19, .ifCond .eq 14), (22, .iload_n 3), (23, .iconst 0), (24, .sipush 999), (27, .invokestatic 59), (30, .ifCond .ne 5), (33, .iconst (-1)), (34, .ireturn), (35, .aload_n 0), (36, .getfield 10), (39, .iload_n 1), (40, .invokevirtual 145), (43, .ifCond .ne 6), (46, .bipush (-2)), (48, .ireturn), (49, .aload_n 0), (50, .getfield 30), (53, .aload_n 0), (54, .getfield 10), (57, .iload_n 2), (58, .invokevirtual 184), (61, .aload_n 0), (62, .getfield 30), (65, .iload_n 2), (66, .iload_n 1), (67, .invokevirtual 211), (70, .aload_n 0), (71, .getfield 10), (74, .getfield 109), (77, .iload_n 2), (78, .iaload), (79, .aload_n 0), (80, .getfield 30), (83, .iload_n 2), (84, .invokevirtual 214), (87, .iadd), (88, .istore 4), (90, .bipush 99), (92, .istore 5), (94, .iload 5), (96, .ifCond .lt 33), (99, .iload 4), (101, .aload_n 0), (102, .getfield 30), (105, .aload_n 0), (106, .getfield 10), (109, .iload_n 2), (110, .iload 5), (112, .invokevirtual 217), (115, .iadd), (116, .iload_n 3), (117, .if_icmp .gt 6), (120, .iload 5), (122, .ireturn), (123, .iinc 5 (-1)), (126, .goto (-32)), (129, .bipush (-4)), (131, .ireturn)]
def mWt_cap : pm_MI := (5, ⟨"WheelTickets", "cap", "(III)I"⟩, prog_1_method_23_code, 6, (Option.some Jvm.ClassFile.FieldType.int), tmWt_cap, 5, 121)
set_option maxRecDepth 20000 in
theorem ok_mWt_cap : pm_ok mWt_cap := pm_mkok (by decide +kernel) (pm_in (List.mem_of_getElem? (i := 663) (by decide +kernel)) (by decide +kernel))
def tmWh_noteSeen : List (Nat × Instr) := [(0, .aload_n 0), (1, .getfield 18), (4, .bipush 6), (6, .if_icmp .lt 5), (9, .iconst 0), (10, .ireturn), (11, .aload_n 0), (12, .getfield 37), (15, .aload_n 0), (16, .getfield 18), (19, .iload_n 1), (20, .iastore), (21, .aload_n 0), (22, .getfield 40), (25, .aload_n 0), (26, .getfield 18), (29, .iload_n 2), (30, .iastore), (31, .aload_n 0), (32, .dup), (33, .getfield 18), (36, .iconst 1), (37, .iadd), (38, .putfield 18), (41, .iconst 1), (42, .ireturn)]
def mWh_noteSeen : pm_MI := (4, ⟨"WheelTickets$Wheel", "noteSeen", "(II)Z"⟩, prog_6_method_6_code, 3, (Option.some Jvm.ClassFile.FieldType.boolean), tmWh_noteSeen, 0, 0)
set_option maxRecDepth 20000 in
theorem ok_mWh_noteSeen : pm_ok mWh_noteSeen := pm_mkok (by decide +kernel) (pm_in (List.mem_of_getElem? (i := 682) (by decide +kernel)) (by decide +kernel))
def tmWt_see : List (Nat × Instr) := [(0, .aload_n 0), (1, .getfield 10), (4, .iload_n 1), (5, .invokevirtual 106), (8, .ifCond .eq 10), (11, .iload_n 2), (12, .invokestatic 181), (15, .ifCond .ne 5), (18, .iconst (-1)), (19, .ireturn), (20, .aload_n 0), (21, .getfield 10), (24, .iload_n 1), (25, .iload_n 2), (26, .invokevirtual 221), (29, .ifCond .eq 13), (32, .aload_n 0), (33, .getfield 10), (36, .getfield 224), (39, .goto 5), (42, .bipush (-3)), (44, .ireturn)]
def mWt_see : pm_MI := (5, ⟨"WheelTickets", "see", "(II)I"⟩, prog_1_method_24_code, 3, (Option.some Jvm.ClassFile.FieldType.int), tmWt_see, 2, 42)
set_option maxRecDepth 20000 in
theorem ok_mWt_see : pm_ok mWt_see := pm_mkok (by decide +kernel) (pm_in (List.mem_of_getElem? (i := 678) (by decide +kernel)) (by decide +kernel))
def tmWt_forget : List (Nat × Instr) := [(0, .iload_n 1), (1, .iconst 0), (2, .aload_n 0), (3, .getfield 10), (6, .getfield 224), (9, .invokestatic 59), (12, .ifCond .ne 5), (15, .iconst (-1)), (16, .ireturn), (17, .aload_n 0), (18, .getfield 10), (21, .getfield 224), (24, .istore_n 2), (25, .aload_n 0), (26, .getfield 10), (29, .iload_n 1), (30, .putfield 224), (33, .iload_n 2), (34, .ireturn)]
def mWt_forget : pm_MI := (5, ⟨"WheelTickets", "forget", "(I)I"⟩, prog_1_method_25_code, 3, (Option.some Jvm.ClassFile.FieldType.int), tmWt_forget, 1, 22)
set_option maxRecDepth 20000 in
theorem ok_mWt_forget : pm_ok mWt_forget := pm_mkok (by decide +kernel) (pm_in (List.mem_of_getElem? (i := 686) (by decide +kernel)) (by decide +kernel))
def tmRe_isAsSeen : List (Nat × Instr) := [(0, .iconst 0), (1, .istore 4), (3, .iload 4), (5, .aload_n 1), (6, .getfield 132), (9, .if_icmp .ge 46), (12, .aload_n 1), (13, .getfield 135), (16, .iload 4), (18, .iaload), (19, .istore 5), (21, .aload_n 1), (22, .getfield 74), (25, .iload 5), (27, .iaload), (28, .aload_n 0), (29, .iload 5), (31, .iload_n 2), (32, .iload_n 3), (33, .invokevirtual 90), (36, .iadd), (37, .aload_n 1), (38, .getfield 138), (41, .iload 4), (43, .iaload), (44, .if_icmp .eq 5), (47, .iconst 0), (48, .ireturn), (49, .iinc 4 1), (52, .goto (-49)), (55, .iconst 1), (56, .ireturn)]
def mRe_isAsSeen : pm_MI := (0, ⟨"WheelTickets$Rest", "isAsSeen", "(LWheelTickets$Wheel;II)Z"⟩, prog_2_method_23_code, 6, (Option.some Jvm.ClassFile.FieldType.boolean), tmRe_isAsSeen, 1, 23)
set_option maxRecDepth 20000 in
theorem ok_mRe_isAsSeen : pm_ok mRe_isAsSeen := pm_mkok (by decide +kernel) (pm_in (List.mem_of_getElem? (i := 702) (by decide +kernel)) (by decide +kernel))
def tmRe_ordersThatFit : List (Nat × Instr) := [(0, .iconst 0), (1, .istore_n 3), (2, .iconst 0), (3, .istore 4), (5, .iload 4), (7, .aload_n 0), (8, .getfield 15), (11, .if_icmp .ge 23), (14, .aload_n 0), (15, .aload_n 1), (16, .iload 4), (18, .iload_n 2), (19, .invokevirtual 129), (22, .ifCond .eq 6), (25, .iinc 3 1), (28, .iinc 4 1), (31, .goto (-26)), (34, .iload_n 3), (35, .ireturn)]
def mRe_ordersThatFit : pm_MI := (0, ⟨"WheelTickets$Rest", "ordersThatFit", "(LWheelTickets$Wheel;I)I"⟩, prog_2_method_22_code, 5, (Option.some Jvm.ClassFile.FieldType.int), tmRe_ordersThatFit, 2, 48)
set_option maxRecDepth 20000 in
theorem ok_mRe_ordersThatFit : pm_ok mRe_ordersThatFit := pm_mkok (by decide +kernel) (pm_in (List.mem_of_getElem? (i := 698) (by decide +kernel)) (by decide +kernel))
def tmRe_tally : List (Nat × Instr) := [(0, .aload_n 0), (1, .iconst 0), (2, .putfield 43), (5, .aload_n 0), (6, .getfield 40), (9, .iconst 0), (10, .invokestatic 119), (13, .iconst 0), (14, .istore_n 2), (15, .iload_n 2), (16, .aload_n 0), (17, .getfield 15), (20, .if_icmp .ge 78), (23, .aload_n 0), (24, .aload_n 1), (25, .iload_n 2), (26, .invokevirtual 125), (29, .istore_n 3), (30, .aload_n 0), (31, .dup), (32, .getfield 43), (35, .iload_n 3), (36, .iadd), (37, .putfield 43), (40, .iconst 0), (41, .istore 4), (43, .iload 4), (45, .aload_n 0), (46, .getfield 9), (49, .if_icmp .ge 43), (52, .aload_n 0), (53, .getfield 40), (56, .iconst 4), (57, .aload_n 0), (58, .getfield 18), (61, .iload 4), (63, .iaload), (64, .imul), (65, .aload_n 0), (66, .getfield 22), (69, .getstatic 87), (72, .iconst 4), (73, .iload_n 2), (74, .imul), (75, .iload 4), (77, .iadd), (78, .iaload), (79, .iaload), (80, .iadd), (81, .dup2), (82, .iaload), (83, .iload_n 3), (84, .iadd), (85, .iastore), (86, .iinc 4 1), (89, .goto (-46)), (92, .iinc 2 1), (95, .goto (-80)), (98, .return_)]
def mRe_tally : pm_MI := (0, ⟨"WheelTickets$Rest", "tally", "(LWheelTickets$Wheel;)V"⟩, prog_2_method_21_code, 5, (Option.none : Option Jvm.ClassFile.FieldType), tmRe_tally, 3, 72)
set_option maxRecDepth 20000 in
theorem ok_mRe_tally : pm_ok mRe_tally := pm_mkok (by decide +kernel) (pm_in (List.mem_of_getElem? (i := 694) (by decide +kernel)) (by decide +kernel))
def tmRe_prizesOf : List (Nat × Instr) := [(0, .iconst 0), (1, .istore_n 2), (2, .iconst 0), (3, .istore_n 3), (4, .iload_n 3), (5, .iconst 4), (6, .if_icmp .ge 28), (9, .aload_n 0), (10, .getfield 40), (13, .iconst 4), (14, .iload_n 1), (15, .imul), (16, .iload_n 3), (17, .iadd), (18, .iaload), (19, .ifCond .le 9), (22, .iload_n 2), (23, .iconst 1), (24, .iload_n 3), (25, .ishl), (26, .ior), (27, .istore_n 2), (28, .iinc 3 1), (31, .goto (-27)), (34, .iload_n 2), (35, .ireturn)]
def mRe_prizesOf : pm_MI := (0, ⟨"WheelTickets$Rest", "prizesOf", "(I)I"⟩, prog_2_method_24_code, 4, (Option.some Jvm.ClassFile.FieldType.int), tmRe_prizesOf, 0, 0)
set_option maxRecDepth 20000 in
theorem ok_mRe_prizesOf : pm_ok mRe_prizesOf := pm_mkok (by decide +kernel) (pm_in (List.mem_of_getElem? (i := 706) (by decide +kernel)) (by decide +kernel))
def tmWt_fits : List (Nat × Instr) := [(0, .iload_n 1), (1, .bipush 10), (3, .isub), (4, .istore_n 2), (5, .iload_n 1), (6, .bipush 10), (8, .if_icmp .lt 18), (11, .aload_n 0), (12, .getfield 10), (15, .iload_n 2), (16, .invokevirtual 116), (19, .ifCond .eq 7), (22, .iconst 1), (23, .goto 4), (26, .iconst 0), (27, .istore_n 3), (28, .iload_n 1), (29, .ifCond .eq 9), (32, .iload_n 3), (33, .ifCond .ne 5), (36, .iconst (-1)), (37, .ireturn), (38, .iload_n 3), (39, .ifCond .eq 26), (42, .aload_n 0), (43, .getfield 10), (46, .iload_n 2), (47, .invokevirtual 138), (50, .ifCond .ne 15), (53, .iconst 1), (54, .aload_n 0), (55, .getfield 10), (58, .getfield 122), (61, .iload_n 2), (62, .iaload), (63, .ishl), (64, .ireturn), (65, .aload_n 0), (66, .getfield 30), (69, .aload_n 0), (70, .getfield 10), (73, .invokevirtual 194), (76, .aload_n 0), (77, .getfield 30), (80, .aload_n 0), (81, .getfield 10), (84, .invokevirtual 227), (87, .iload_n 3), (88, .ifCond .eq 14), (91, .aload_n 0), (92, .getfield 30), (95, .iload_n 2), (96, .invokevirtual 230), (99, .goto 10), (102, .aload_n 0), (103, .getfield 30), (106, .getfield 233), (109, .ireturn)]
def mWt_fits : pm_MI := (5, ⟨"WheelTickets", "fits", "(I)I"⟩, prog_1_method_26_code, 4, (Option.some Jvm.ClassFile.FieldType.int), tmWt_fits, 6, 143)
set_option maxRecDepth 20000 in
theorem ok_mWt_fits : pm_ok mWt_fits := pm_mkok (by decide +kernel) (pm_in (List.mem_of_getElem? (i := 690) (by decide +kernel)) (by decide +kernel))
def tmRe_worstOf : List (Nat × Instr) := [(0, .iconst 0), (1, .istore_n 2), (2, .iconst 0), (3, .istore_n 3), (4, .iload_n 3), (5, .iconst 4), (6, .if_icmp .ge 24), (9, .iload_n 2), (10, .aload_n 0), (11, .getfield 40), (14, .iconst 4), (15, .iload_n 1), (16, .imul), (17, .iload_n 3), (18, .iadd), (19, .iaload), (20, .invokestatic 109), (23, .istore_n 2), (24, .iinc 3 1), (27, .goto (-23)), (30, .iload_n 2), (31, .ireturn)]
def mRe_worstOf : pm_MI := (0, ⟨"WheelTickets$Rest", "worstOf", "(I)I"⟩, prog_2_method_25_code, 4, (Option.some Jvm.ClassFile.FieldType.int), tmRe_worstOf, 1, 21)
set_option maxRecDepth 20000 in
theorem ok_mRe_worstOf : pm_ok mRe_worstOf := pm_mkok (by decide +kernel) (pm_in (List.mem_of_getElem? (i := 714) (by decide +kernel)) (by decide +kernel))
def tmWt_ask : List (Nat × Instr) := [(0, .iload_n 1), (1, .iconst 0), (2, .iconst 1), (3, .invokestatic 59), (6, .ifCond .ne 5), (9, .iconst (-1)), (10, .ireturn), (11, .aload_n 0), (12, .getfield 30), (15, .aload_n 0), (16, .getfield 10), (19, .invokevirtual 194), (22, .aload_n 0), (23, .getfield 30), (26, .aload_n 0), (27, .getfield 10), (30, .invokevirtual 227), (33, .bipush (-4)), (35, .istore_n 2), (36, .aload_n 0), (37, .getfield 30), (40, .getfield 233), (43, .istore_n 3), (44, .iconst 0), (45, .istore 4), (47, .iload 4), (49, .aload_n 0), (50, .getfield 10), (53, .getfield 90), (56, .if_icmp .ge 47), (59, .aload_n 0), (60, .getfield 10), (63, .iload 4), (65, .invokevirtual 138), (68, .ifCond .eq 29), (71, .aload_n 0), (72, .getfield 30), (75, .iload 4), (77, .invokevirtual 236), (80, .iload_n 3), (81, .if_icmp .ge 16), (84, .aload_n 0), (85, .getfield 30), (88, .iload 4), (90, .invokevirtual 236), (93, .istore_n 3), (94, .iload 4), (96, .istore_n 2), (97, .iinc 4 1), (100, .goto (-53)), (103, .iload_n 2), (104, .bipush (-4)), (106, .if_icmp .eq 7), (109, .iload_n 1), (110, .ifCond .ne 7), (113, .iload_n 2), (114, .goto 4), (117, .iload_n 3), (118, .ireturn)]
def mWt_ask : pm_MI := (5, ⟨"WheelTickets", "ask", "(I)I"⟩, prog_1_method_27_code, 5, (Option.some Jvm.ClassFile.FieldType.int), tmWt_ask, 6, 143)
set_option maxRecDepth 20000 in
theorem ok_mWt_ask : pm_ok mWt_ask := pm_mkok (by decide +kernel) (pm_in (List.mem_of_getElem? (i := 710) (by decide +kernel)) (by decide +kernel))
def tmWt_turnSeed : List (Nat × Instr) := [(0, .iload_n 0), (1, .ldc_w 283), (4, .imul), (5, .sipush 12345), (8, .iadd), (9, .ireturn)]
def mWt_turnSeed : pm_MI := (5, ⟨"WheelTickets", "turnSeed", "(I)I"⟩, prog_1_method_42_code, 1, (Option.some Jvm.ClassFile.FieldType.int), tmWt_turnSeed, 0, 0)
set_option maxRecDepth 20000 in
theorem ok_mWt_turnSeed : pm_ok mWt_turnSeed := pm_mkok (by decide +kernel) (pm_in (List.mem_of_getElem? (i := 721) (by decide +kernel)) (by decide +kernel))
def tmWt_seedBits : List (Nat × Instr) := [(0, .iload_n 0), (1, .bipush 16), (3, .iushr), (4, .sipush 32767), (7, .iand), (8, .ireturn)]
def mWt_seedBits : pm_MI := (5, ⟨"WheelTickets", "seedBits", "(I)I"⟩, prog_1_method_43_code, 1, (Option.some Jvm.ClassFile.FieldType.int), tmWt_seedBits, 0, 0)
set_option maxRecDepth 20000 in
theorem ok_mWt_seedBits : pm_ok mWt_seedBits := pm_mkok (by decide +kernel) (pm_in (List.mem_of_getElem? (i := 725) (by decide +kernel)) (by decide +kernel))
def tmWt_bitByOrder : List (Nat × Instr) := [(0, .iconst 0), (1, .istore_n 2), (2, .iconst 0), (3, .istore_n 3), (4, .iload_n 3), (5, .iconst 4), (6, .if_icmp .ge 28), (9, .iload_n 0), (10, .iload_n 3), (11, .ishr), (12, .iconst 1), (13, .iand), (14, .iconst 1), (15, .if_icmp .ne 13), (18, .iload_n 2), (19, .iload_n 1), (20, .if_icmp .ne 5), (23, .iload_n 3), (24, .ireturn), (25, .iinc 2 1), (28, .iinc 3 1), (31, .goto (-27)), (34, .iconst 0), (35, .ireturn)]
def mWt_bitByOrder : pm_MI := (5, ⟨"WheelTickets", "bitByOrder", "(II)I"⟩, prog_1_method_44_code, 4, (Option.some Jvm.ClassFile.FieldType.int), tmWt_bitByOrder, 0, 0)
set_option maxRecDepth 20000 in
theorem ok_mWt_bitByOrder : pm_ok mWt_bitByOrder := pm_mkok (by decide +kernel) (pm_in (List.mem_of_getElem? (i := 728) (by decide +kernel)) (by decide +kernel))
def tmWt_drift : List (Nat × Instr) := [(0, .aload_n 0), (1, .getfield 10), (4, .iload_n 2), (5, .invokevirtual 106), (8, .ifCond .ne 5), (11, .iconst (-1)), (12, .ireturn), (13, .aload_n 0), (14, .getfield 16), (17, .aload_n 0), (18, .getfield 10), (21, .invokevirtual 77), (24, .iload_n 1), (25, .istore_n 3), (26, .aload_n 0), (27, .getfield 10), (30, .invokevirtual 97), (33, .invokestatic 160), (36, .istore 4), (38, .iload 4), (40, .ifCond .le 68), (43, .iload_n 3), (44, .invokestatic 239), (47, .istore_n 3), (48, .aload_n 0), (49, .getfield 16), (52, .invokevirtual 97), (55, .iload_n 3), (56, .invokestatic 242), (59, .iload 4), (61, .irem), (62, .invokestatic 245), (65, .istore 5), (67, .iload_n 3), (68, .invokestatic 239), (71, .istore_n 3), (72, .aload_n 0), (73, .getfield 16), (76, .invokevirtual 100), (79, .iload_n 3), (80, .invokestatic 242), (83, .iload 4), (85, .irem), (86, .invokestatic 245), (89, .istore 6), (91, .aload_n 0), (92, .getfield 16), (95, .iload 5), (97, .iload 6), (99, .invokevirtual 151), (102, .iinc 4 (-1)), (105, .goto (-67)), (108, .sipush 10000), (111, .aload_n 0), (112, .getfield 16), (115, .getfield 109), (118, .iload_n 2), (119, .iaload), (120, .iadd), (121, .ireturn)]
def mWt_drift : pm_MI := (5, ⟨"WheelTickets", "drift", "(II)I"⟩, prog_1_method_28_code, 7, (Option.some Jvm.ClassFile.FieldType.int), tmWt_drift, 4, 94)
set_option maxRecDepth 20000 in
theorem ok_mWt_drift : pm_ok mWt_drift := pm_mkok (by decide +kernel) (pm_in (List.mem_of_getElem? (i := 718) (by decide +kernel)) (by decide +kernel))
def tmWt_keep : List (Nat × Instr) := [(0, .iload_n 1), (1, .iconst 0), (2, .iconst 1), (3, .invokestatic 59), (6, .ifCond .ne 5), (9, .iconst (-1)), (10, .ireturn), (11, .aload_n 0), (12, .getfield 23), (15, .iload_n 1), (16, .iaload), (17, .istore_n 2), (18, .aload_n 0), (19, .getfield 19), (22, .iload_n 1), (23, .aaload), (24, .aload_n 0), (25, .getfield 10), (28, .invokevirtual 77), (31, .aload_n 0), (32, .getfield 23), (35, .iload_n 1), (36, .iconst 1), (37, .iastore), (38, .iload_n 2), (39, .ireturn)]
def mWt_keep : pm_MI := (5, ⟨"WheelTickets", "keep", "(I)I"⟩, prog_1_method_29_code, 3, (Option.some Jvm.ClassFile.FieldType.int), tmWt_keep, 2, 47)
set_option maxRecDepth 20000 in
theorem ok_mWt_keep : pm_ok mWt_keep := pm_mkok (by decide +kernel) (pm_in (List.mem_of_getElem? (i := 732) (by decide +kernel)) (by decide +kernel))
def tmWt_back : List (Nat × Instr) := [(0, .iload_n 1), (1, .iconst 0), (2, .iconst 1), (3, .invokestatic 59), (6, .ifCond .ne 5), (9, .iconst (-1)), (10, .ireturn), (11, .aload_n 0), (12, .getfield 23), (15, .iload_n 1), (16, .iaload), (17, .ifCond .ne 6), (20, .bipush (-2)), (22, .ireturn), (23, .aload_n 0), (24, .getfield 10), (27, .aload_n 0), (28, .getfield 19), (31, .iload_n 1), (32, .aaload), (33, .invokevirtual 77), (36, .aload_n 0), (37, .getfield 10), (40, .invokevirtual 93), (43, .ireturn)]
def mWt_back : pm_MI := (5, ⟨"WheelTickets", "back", "(I)I"⟩, prog_1_method_30_code, 2, (Option.some Jvm.ClassFile.FieldType.int), tmWt_back, 4, 84)
set_option maxRecDepth 20000 in
theorem ok_mWt_back : pm_ok mWt_back := pm_mkok (by decide +kernel) (pm_in (List.mem_of_getElem? (i := 736) (by decide +kernel)) (by decide +kernel))
def tmWt_isSheet : List (Nat × Instr) := [(0, .iload_n 0), (1, .iconst 0), (2, .iconst 3), (3, .invokestatic 59), (6, .ireturn)]
def mWt_isSheet : pm_MI := (5, ⟨"WheelTickets", "isSheet", "(I)Z"⟩, prog_1_method_39_code, 1, (Option.some Jvm.ClassFile.FieldType.boolean), tmWt_isSheet, 1, 22)
set_option maxRecDepth 20000 in
theorem ok_mWt_isSheet : pm_ok mWt_isSheet := pm_mkok (by decide +kernel) (pm_in (List.mem_of_getElem? (i := 743) (by decide +kernel)) (by decide +kernel))
def tmSh_isLane : List (Nat × Instr) := [(0, .iload_n 0), (1, .iconst 0), (2, .iconst 2), (3, .invokestatic 22), (6, .ireturn)]
def mSh_isLane : pm_MI := (1, ⟨"WheelTickets$Sheet", "isLane", "(I)Z"⟩, prog_3_method_2_code, 1, (Option.some Jvm.ClassFile.FieldType.boolean), tmSh_isLane, 1, 22)
set_option maxRecDepth 20000 in
theorem ok_mSh_isLane : pm_ok mSh_isLane := pm_mkok (by decide +kernel) (pm_in (List.mem_of_getElem? (i := 746) (by decide +kernel)) (by decide +kernel))
def tmSh_renew : List (Nat × Instr) := [(0, .aload_n 0), (1, .iload_n 1), (2, .putfield 15), (5, .aload_n 0), (6, .iload_n 2), (7, .putfield 9), (10, .aload_n 0), (11, .getfield 18), (14, .iconst 0), (15, .invokestatic 26), (18, .return_)]
def mSh_renew : pm_MI := (1, ⟨"WheelTickets$Sheet", "renew", "(II)V"⟩, prog_3_method_3_code, 3, (Option.none : Option Jvm.ClassFile.FieldType), tmSh_renew, 1, 23)
set_option maxRecDepth 20000 in
theorem ok_mSh_renew : pm_ok mSh_renew := pm_mkok (by decide +kernel) (pm_in (List.mem_of_getElem? (i := 751) (by decide +kernel)) (by decide +kernel))
def tmWt_sheet : List (Nat × Instr) := [(0, .iload_n 1), (1, .invokestatic 248), (4, .ifCond .eq 16), (7, .iload_n 2), (8, .invokestatic 251), (11, .ifCond .eq 9), (14, .iload_n 3), (15, .bipush 40), (17, .if_icmp .le 5), (20, .iconst (-1)), (21, .ireturn), (22, .iload_n 3), (23, .ifCond .ge 6), (26, .bipush (-14)), (28, .ireturn), (29, .aload_n 0), (30, .getfield 50), (33, .iload_n 1), (34, .aaload), (35, .iload_n 2), (36, .iload_n 3), (37, .invokevirtual 254), (40, .iconst 1), (41, .ireturn)]
def mWt_sheet : pm_MI := (5, ⟨"WheelTickets", "sheet", "(III)I"⟩, prog_1_method_31_code, 4, (Option.some Jvm.ClassFile.FieldType.int), tmWt_sheet, 2, 45)
set_option maxRecDepth 20000 in
theorem ok_mWt_sheet : pm_ok mWt_sheet := pm_mkok (by decide +kernel) (pm_in (List.mem_of_getElem? (i := 740) (by decide +kernel)) (by decide +kernel))
def tmSh_faultAt : List (Nat × Instr) := [(0, .aload_n 0), (1, .getfield 9), (4, .bipush (-4)), (6, .if_icmp .ne 5), (9, .iconst 1), (10, .ireturn), (11, .iload_n 1), (12, .iconst 0), (13, .aload_n 0), (14, .getfield 9), (17, .iconst 1), (18, .isub), (19, .invokestatic 22), (22, .ifCond .eq 7), (25, .iconst 0), (26, .goto 4), (29, .iconst 2), (30, .ireturn)]
def mSh_faultAt : pm_MI := (1, ⟨"WheelTickets$Sheet", "faultAt", "(I)I"⟩, prog_3_method_5_code, 2, (Option.some Jvm.ClassFile.FieldType.int), tmSh_faultAt, 1, 22)
set_option maxRecDepth 20000 in
theorem ok_mSh_faultAt : pm_ok mSh_faultAt := pm_mkok (by decide +kernel) (pm_in (List.mem_of_getElem? (i := 760) (by decide +kernel)) (by decide +kernel))
def tmSh_setCell : List (Nat × Instr) := [(0, .aload_n 0), (1, .getfield 18), (4, .iload_n 1), (5, .aload_n 0), (6, .getfield 15), (9, .ifCond .ne 8), (12, .iload_n 2), (13, .i2b), (14, .goto 17), (17, .aload_n 0), (18, .getfield 15), (21, .iconst 1), (22, .if_icmp .ne 8), (25, .iload_n 2), (26, .i2s), (27, .goto 4), (30, .iload_n 2), (31, .iastore), (32, .return_)]
def mSh_setCell : pm_MI := (1, ⟨"WheelTickets$Sheet", "setCell", "(II)V"⟩, prog_3_method_4_code, 3, (Option.none : Option Jvm.ClassFile.FieldType), tmSh_setCell, 0, 0)
set_option maxRecDepth 20000 in
theorem ok_mSh_setCell : pm_ok mSh_setCell := pm_mkok (by decide +kernel) (pm_in (List.mem_of_getElem? (i := 764) (by decide +kernel)) (by decide +kernel))
def tmWt_lay : List (Nat × Instr) := [(0, .iload_n 1), (1, .invokestatic 248), (4, .ifCond .ne 5), (7, .iconst (-1)), (8, .ireturn), (9, .aload_n 0), (10, .getfield 50), (13, .iload_n 1), (14, .aaload), (15, .iload_n 2), (16, .invokevirtual 257), (19, .istore 4), (21, .iload 4), (23, .ifCond .eq 9), (26, .bipush (-10)), (28, .iload 4), (30, .isub), (31, .ireturn), (32, .aload_n 0), (33, .getfield 50), (36, .iload_n 1), (37, .aaload), (38, .iload_n 2), (39, .iload_n 3), (40, .invokevirtual 260), (43, .iconst 1), (44, .ireturn)]
def mWt_lay : pm_MI := (5, ⟨"WheelTickets", "lay", "(III)I"⟩, prog_1_method_32_code, 5, (Option.some Jvm.ClassFile.FieldType.int), tmWt_lay, 2, 43)
set_option maxRecDepth 20000 in
theorem ok_mWt_lay : pm_ok mWt_lay := pm_mkok (by decide +kernel) (pm_in (List.mem_of_getElem? (i := 756) (by decide +kernel)) (by decide +kernel))
def tmSh_faultAtPair : List (Nat × Instr) := [(0, .aload_n 0), (1, .getfield 9), (4, .bipush (-4)), (6, .if_icmp .eq 13), (9, .iload_n 1), (10, .aload_n 0), (11, .getfield 15), (14, .if_icmp .eq 5), (17, .iconst 3), (18, .ireturn), (19, .aload_n 0), (20, .iload_n 2), (21, .invokevirtual 32), (24, .istore_n 3), (25, .iload_n 3), (26, .ifCond .eq 7), (29, .iload_n 3), (30, .goto 10), (33, .aload_n 0), (34, .iload_n 2), (35, .iconst 1), (36, .iadd), (37, .invokevirtual 32), (40, .ireturn)]
def mSh_faultAtPair : pm_MI := (1, ⟨"WheelTickets$Sheet", "faultAtPair", "(II)I"⟩, prog_3_method_6_code, 4, (Option.some Jvm.ClassFile.FieldType.int), tmSh_faultAtPair, 2, 43)
set_option maxRecDepth 20000 in
theorem ok_mSh_faultAtPair : pm_ok mSh_faultAtPair := pm_mkok (by decide +kernel) (pm_in (List.mem_of_getElem? (i := 772) (by decide +kernel)) (by decide +kernel))
def tmWt_read : List (Nat × Instr) := [(0, .iload_n 1), (1, .invokestatic 248), (4, .ifCond .eq 21), (7, .iload_n 2), (8, .invokestatic 251), (11, .ifCond .eq 14), (14, .iload 4), (16, .iconst 0), (17, .bipush 20), (19, .invokestatic 59), (22, .ifCond .ne 5), (25, .iconst (-1)), (26, .ireturn), (27, .aload_n 0), (28, .getfield 50), (31, .iload_n 1), (32, .aaload), (33, .astore 5), (35, .aload_n 0), (36, .getfield 16), (39, .aload_n 0), (40, .getfield 10), (43, .invokevirtual 77), (46, .iconst 0), (47, .istore 6), (49, .iconst 0), (50, .istore 7), (52, .iconst 0), (53, .istore 8), (55, .iload 8), (57, .iload 4), (59, .if_icmp .ge 97), (62, .iload 7), (64, .ifCond .ne 92), (67, .aload 5), (69, .iload_n 2), (70, .iload_n 3), (71, .iconst 2), (72, .iload 8), (74, .imul), (75, .iadd), (76, .invokevirtual 263), (79, .istore 7), (81, .iload 7), (83, .ifCond .ne 67), (86, .aload 5), (88, .getfield 266), (91, .iload_n 3), (92, .iconst 2), (93, .iload 8), (95, .imul), (96, .iadd), (97, .iaload), (98, .istore 9), (100, .aload 5), (102, .getfield 266), (105, .iload_n 3), (106, .iconst 2), (107, .iload 8), (109, .imul), (110, .iadd), (111, .iconst 1), (112, .iadd), (113, .iaload), (114, .istore 10), (116, .aload_n 0), (117, .getfield 16), (120, .iload 9), (122, .iload 10), (124, .invokevirtual 148), (127, .ifCond .eq 9), (130, .bipush (-20)), (132, .iload 8), (134, .isub), (135, .ireturn), (136, .aload_n 0), (137, .getfield 16), (140, .iload 9), (142, .iload 10), (144, .invokevirtual 151), (147, .iinc 6 1), (150, .iinc 8 1), (153, .goto (-98)), (156, .aload_n 0), (157, .getfield 10), (160, .aload_n 0), (161, .getfield 16), (164, .invokevirtual 77), (167, .aload_n 0), (168, .iload 7), (170, .putfield 54), (173, .iload 6), (175, .ireturn)]
def mWt_read : pm_MI := (5, ⟨"WheelTickets", "read", "(IIII)I"⟩, prog_1_method_33_code, 11, (Option.some Jvm.ClassFile.FieldType.int), tmWt_read, 4, 94)
set_option maxRecDepth 20000 in
theorem ok_mWt_read : pm_ok mWt_read := pm_mkok (by decide +kernel) (pm_in (List.mem_of_getElem? (i := 768) (by decide +kernel)) (by decide +kernel))
def tmWt_torn : List (Nat × Instr) := [(0, .aload_n 0), (1, .getfield 54), (4, .ireturn)]
def mWt_torn : pm_MI := (5, ⟨"WheelTickets", "torn", "()I"⟩, prog_1_method_34_code, 1, (Option.some Jvm.ClassFile.FieldType.int), tmWt_torn, 0, 0)
set_option maxRecDepth 20000 in
theorem ok_mWt_torn : pm_ok mWt_torn := pm_mkok (by decide +kernel) (pm_in (List.mem_of_getElem? (i := 777) (by decide +kernel)) (by decide +kernel))
def tmWh_allPurses : List (Nat × Instr) := [(0, .iconst 0), (1, .istore_n 1), (2, .iconst 0), (3, .istore_n 2), (4, .iload_n 2), (5, .aload_n 0), (6, .getfield 9), (9, .if_icmp .ge 18), (12, .iload_n 1), (13, .aload_n 0), (14, .getfield 21), (17, .iload_n 2), (18, .iaload), (19, .iadd), (20, .istore_n 1), (21, .iinc 2 1), (24, .goto (-20)), (27, .iload_n 1), (28, .ireturn)]
def mWh_allPurses : pm_MI := (4, ⟨"WheelTickets$Wheel", "allPurses", "()I"⟩, prog_6_method_21_code, 3, (Option.some Jvm.ClassFile.FieldType.int), tmWh_allPurses, 0, 0)
set_option maxRecDepth 20000 in
theorem ok_mWh_allPurses : pm_ok mWh_allPurses := pm_mkok (by decide +kernel) (pm_in (List.mem_of_getElem? (i := 785) (by decide +kernel)) (by decide +kernel))
def tmWt_count : List (Nat × Instr) := [(0, .iload_n 1), (1, .tableswitch 87 0 4 #[35, 47, 55, 69, 77]), (36, .sipush 10000), (39, .aload_n 0), (40, .getfield 10), (43, .invokevirtual 269), (46, .iadd), (47, .ireturn), (48, .aload_n 0), (49, .getfield 10), (52, .getfield 224), (55, .ireturn), (56, .aload_n 0), (57, .getfield 23), (60, .iconst 0), (61, .iaload), (62, .aload_n 0), (63, .getfield 23), (66, .iconst 1), (67, .iaload), (68, .iadd), (69, .ireturn), (70, .aload_n 0), (71, .getfield 37), (74, .getfield 67), (77, .ireturn), (78, .aload_n 0), (79, .getfield 50), (82, .iconst 0), (83, .aaload), (84, .getfield 272), (87, .ireturn), (88, .iconst (-1)), (89, .ireturn)]
def mWt_count : pm_MI := (5, ⟨"WheelTickets", "count", "(I)I"⟩, prog_1_method_35_code, 2, (Option.some Jvm.ClassFile.FieldType.int), tmWt_count, 1, 22)
set_option maxRecDepth 20000 in
theorem ok_mWt_count : pm_ok mWt_count := pm_mkok (by decide +kernel) (pm_in (List.mem_of_getElem? (i := 781) (by decide +kernel)) (by decide +kernel))
end
section
def tmMo_firstDraft : List (Nat × Instr) := [(0, .iconst 0), (1, .istore_n 1), (2, .iload_n 1), (3, .bipush 45), (5, .if_icmp .ge 16), (8, .aload_n 0), (9, .getfield 20), (12, .iload_n 1), (13, .iconst 0), (14, .iastore), (15, .iinc 1 1), (18, .goto (-16)), (21, .iconst 0), (22, .istore_n 1), (23, .iload_n 1), (24, .iconst 4), (25, .if_icmp .ge 34), (28, .aload_n 0), (29, .getfield 20), (32, .iconst 4), (33, .iconst 5), (34, .iload_n 1), (35, .imul), (36, .iadd), (37, .iconst 4), (38, .iadd), (39, .bipush (-4)), (41, .iastore), (42, .aload_n 0), (43, .getfield 20), (46, .bipush 28), (48, .iload_n 1), (49, .iadd), (50, .bipush (-4)), (52, .iastore), (53, .iinc 1 1), (56, .goto (-33)), (59, .aload_n 0), (60, .iconst 0), (61, .putfield 59), (64, .aload_n 0), (65, .iconst 0), (66, .putfield 63), (69, .aload_n 0), (70, .iconst 0), (71, .putfield 66), (74, .aload_n 0), (75, .iconst 0), (76, .putfield 69), (79, .aload_n 0), (80, .bipush (-4)), (82, .putfield 72), (85, .return_)]
def mMo_firstDraft : pm_MI := (6, ⟨"WheelTicketsModel", "firstDraft", "()V"⟩, prog_8_method_5_code, 2, (Option.none : Option Jvm.ClassFile.FieldType), tmMo_firstDraft, 0, 0)
set_option maxRecDepth 20000 in
theorem ok_mMo_firstDraft : pm_ok mMo_firstDraft := pm_mkok (by decide +kernel) (pm_in (List.mem_of_getElem? (i := 795) (by decide +kernel)) (by decide +kernel))
def tmMo_keepDraft : List (Nat × Instr) := [(0, .iconst 0), (1, .istore_n 1), (2, .iload_n 1), (3, .bipush 45), (5, .if_icmp .ge 21), (8, .aload_n 0), (9, .getfield 7), (12, .iload_n 1), (13, .aload_n 0), (14, .getfield 20), (17, .iload_n 1), (18, .iaload), (19, .iastore), (20, .iinc 1 1), (23, .goto (-21)), (26, .aload_n 0), (27, .aload_n 0), (28, .getfield 59), (31, .putfield 75), (34, .aload_n 0), (35, .aload_n 0), (36, .getfield 63), (39, .putfield 78), (42, .aload_n 0), (43, .getfield 16), (46, .iconst 0), (47, .iconst 0), (48, .bastore), (49, .aload_n 0), (50, .getfield 16), (53, .iconst 1), (54, .iconst 0), (55, .bastore), (56, .return_)]
def mMo_keepDraft : pm_MI := (6, ⟨"WheelTicketsModel", "keepDraft", "()V"⟩, prog_8_method_6_code, 2, (Option.none : Option Jvm.ClassFile.FieldType), tmMo_keepDraft, 0, 0)
set_option maxRecDepth 20000 in
theorem ok_mMo_keepDraft : pm_ok mMo_keepDraft := pm_mkok (by decide +kernel) (pm_in (List.mem_of_getElem? (i := 799) (by decide +kernel)) (by decide +kernel))
def tmMo_in : List (Nat × Instr) := [(0, .lload_n 0), (1, .lload_n 2), (2, .lcmp), (3, .ifCond .lt 14), (6, .lload_n 0), (7, .lload 4), (9, .lcmp), (10, .ifCond .gt 7), (13, .iconst 1), (14, .goto 4), (17, .iconst 0), (18, .ireturn)]
def mMo_in : pm_MI := (6, ⟨"WheelTicketsModel", "in", "(JJJ)Z"⟩, prog_8_method_3_code, 6, (Option.some Jvm.ClassFile.FieldType.boolean), tmMo_in, 0, 0)
set_option maxRecDepth 20000 in
theorem ok_mMo_in : pm_ok mMo_in := pm_mkok (by decide +kernel) (pm_in (List.mem_of_getElem? (i := 920) (by decide +kernel)) (by decide +kernel))
def tmMo_feed : List (Nat × Instr) := [(0, .iload_n 1), (1, .i2l), (2, .lconst 0), (3, .ldc2_w 81), (6, .invokestatic 83), (9, .ifCond .ne 5), (12, .iconst (-1)), (13, .ireturn), (14, .aload_n 0), (15, .getfield 87), (18, .sipush 160), (21, .if_icmp .ne 6), (24, .bipush (-3)), (26, .ireturn), (27, .aload_n 0), (28, .getfield 26), (31, .aload_n 0), (32, .getfield 87), (35, .iload_n 1), (36, .iastore), (37, .aload_n 0), (38, .dup), (39, .getfield 87), (42, .iconst 1), (43, .iadd), (44, .putfield 87), (47, .aload_n 0), (48, .getfield 87), (51, .ireturn)]
def mMo_feed : pm_MI := (6, ⟨"WheelTicketsModel", "feed", "(I)I"⟩, prog_8_method_7_code, 2, (Option.some Jvm.ClassFile.FieldType.int), tmMo_feed, 1, 25)
set_option maxRecDepth 20000 in
theorem ok_mMo_feed : pm_ok mMo_feed := pm_mkok (by decide +kernel) (pm_in (List.mem_of_getElem? (i := 916) (by decide +kernel)) (by decide +kernel))
def tmMo_end : List (Nat × Instr) := [(0, .iload_n 1), (1, .i2l), (2, .lconst 0), (3, .aload_n 0), (4, .getfield 87), (7, .i2l), (8, .invokestatic 83), (11, .ifCond .ne 5), (14, .iconst (-1)), (15, .ireturn), (16, .aload_n 0), (17, .getfield 87), (20, .istore_n 2), (21, .aload_n 0), (22, .iload_n 1), (23, .putfield 87), (26, .iload_n 2), (27, .ireturn)]
def mMo_end : pm_MI := (6, ⟨"WheelTicketsModel", "end", "(I)I"⟩, prog_8_method_8_code, 3, (Option.some Jvm.ClassFile.FieldType.int), tmMo_end, 1, 25)
set_option maxRecDepth 20000 in
theorem ok_mMo_end : pm_ok mMo_end := pm_mkok (by decide +kernel) (pm_in (List.mem_of_getElem? (i := 924) (by decide +kernel)) (by decide +kernel))
def tmMo_byteAt : List (Nat × Instr) := [(0, .iload_n 1), (1, .aload_n 0), (2, .getfield 87), (5, .if_icmp .ge 12), (8, .aload_n 0), (9, .getfield 26), (12, .iload_n 1), (13, .iaload), (14, .goto 4), (17, .iconst (-1)), (18, .ireturn)]
def mMo_byteAt : pm_MI := (6, ⟨"WheelTicketsModel", "byteAt", "(I)I"⟩, prog_8_method_10_code, 2, (Option.some Jvm.ClassFile.FieldType.int), tmMo_byteAt, 0, 0)
set_option maxRecDepth 20000 in
theorem ok_mMo_byteAt : pm_ok mMo_byteAt := pm_mkok (by decide +kernel) (pm_in (List.mem_of_getElem? (i := 936) (by decide +kernel)) (by decide +kernel))
def tmMo_needs : List (Nat × Instr) := [(0, .iload_n 1), (1, .ifCond .ne 23), (4, .aload_n 0), (5, .getfield 90), (8, .ifCond .ne 16), (11, .aload_n 0), (12, .iload_n 2), (13, .putfield 90), (16, .aload_n 0), (17, .aload_n 0), (18, .getfield 93), (21, .putfield 96), (24, .return_)]
def mMo_needs : pm_MI := (6, ⟨"WheelTicketsModel", "needs", "(ZI)V"⟩, prog_8_method_9_code, 3, (Option.none : Option Jvm.ClassFile.FieldType), tmMo_needs, 0, 0)
set_option maxRecDepth 20000 in
theorem ok_mMo_needs : pm_ok mMo_needs := pm_mkok (by decide +kernel) (pm_in (List.mem_of_getElem? (i := 944) (by decide +kernel)) (by decide +kernel))
def tmMo_next : List (Nat × Instr) := [(0, .aload_n 0), (1, .getfield 90), (4, .ifCond .le 4), (7, .return_), (8, .aload_n 0), (9, .aload_n 0), (10, .getfield 99), (13, .invokevirtual 102), (16, .bipush 32), (18, .if_icmp .ne 16), (21, .aload_n 0), (22, .dup), (23, .getfield 99), (26, .iconst 1), (27, .iadd), (28, .putfield 99), (31, .goto (-23)), (34, .aload_n 0), (35, .aload_n 0), (36, .getfield 99), (39, .putfield 93), (42, .aload_n 0), (43, .aload_n 0), (44, .getfield 99), (47, .invokevirtual 102), (50, .istore_n 1), (51, .iload_n 1), (52, .ifCond .ge 11), (55, .aload_n 0), (56, .iconst 0), (57, .putfield 113), (60, .goto 214), (63, .iload_n 1), (64, .i2l), (65, .ldc2_w 116), (68, .ldc2_w 118), (71, .invokestatic 83), (74, .ifCond .eq 42), (77, .aload_n 0), (78, .iconst 1), (79, .putfield 113), (82, .aload_n 0), (83, .aload_n 0), (84, .getfield 99), (87, .invokevirtual 102), (90, .i2l), (91, .ldc2_w 116), (94, .ldc2_w 118), (97, .invokestatic 83), (100, .ifCond .eq 174), (103, .aload_n 0), (104, .dup), (105, .getfield 99), (108, .iconst 1), (109, .iadd), (110, .putfield 99), (113, .goto (-31)), (116, .iload_n 1), (117, .i2l), (118, .ldc2_w 120), (121, .ldc2_w 122), (124, .invokestatic 83), (127, .ifCond .eq 116), (130, .aload_n 0), (131, .iconst 2), (132, .putfield 113), (135, .aload_n 0), (136, .iconst 0), (137, .putfield 124), (140, .aload_n 0), (141, .aload_n 0), (142, .getfield 99), (145, .invokevirtual 102), (148, .i2l), (149, .ldc2_w 120), (152, .ldc2_w 122), (155, .invokestatic 83), (158, .ifCond .eq 59), (161, .aload_n 0), (162, .aload_n 0), (163, .getfield 99), (166, .aload_n 0), (167, .getfield 93), (170, .isub), (171, .iconst 2), (172, .if_icmp .ge 25), (175, .bipush 10), (177, .aload_n 0), (178, .getfield 124), (181, .imul), (182, .aload_n 0), (183, .aload_n 0), (184, .getfield 99), (187, .invokevirtual 102), (190, .iadd), (191, .bipush 48), (193, .isub), (194, .goto 7), (197, .aload_n 0), (198, .getfield 124), (201, .putfield 124), (204, .aload_n 0), (205, .dup), (206, .getfield 99), (209, .iconst 1), (210, .iadd), (211, .putfield 99), (214, .goto (-74)), (217, .aload_n 0), (218, .aload_n 0), (219, .getfield 99), (222, .aload_n 0), (223, .getfield 93), (226, .isub), (227, .iconst 2), (228, .if_icmp .gt 7), (231, .iconst 1), (232, .goto 4), (235, .iconst 0), (236, .iconst 1), (237, .invokevirtual 127), (240, .goto 34), (243, .aload_n 0), (244, .iconst 3), (245, .putfield 113), (248, .aload_n 0), (249, .iload_n 1), (250, .bipush 59), (252, .if_icmp .ne 7), (255, .iconst 1), (256, .goto 4), (259, .iconst 0), (260, .iconst 1), (261, .invokevirtual 127), (264, .aload_n 0), (265, .dup), (266, .getfield 99), (269, .iconst 1), (270, .iadd), (271, .putfield 99), (274, .return_)]
def mMo_next : pm_MI := (6, ⟨"WheelTicketsModel", "next", "()V"⟩, prog_8_method_14_code, 2, (Option.none : Option Jvm.ClassFile.FieldType), tmMo_next, 1, 25)
set_option maxRecDepth 20000 in
theorem ok_mMo_next : pm_ok mMo_next := pm_mkok (by decide +kernel) (pm_in (List.mem_of_getElem? (i := 932) (by decide +kernel)) (by decide +kernel))
def tmMo_is : List (Nat × Instr) := [(0, .aload_n 0), (1, .getfield 99), (4, .aload_n 0), (5, .getfield 93), (8, .isub), (9, .iload_n 1), (10, .if_icmp .ne 48), (13, .aload_n 0), (14, .aload_n 0), (15, .getfield 93), (18, .invokevirtual 102), (21, .iload_n 2), (22, .if_icmp .ne 36), (25, .aload_n 0), (26, .aload_n 0), (27, .getfield 93), (30, .iconst 1), (31, .iadd), (32, .invokevirtual 102), (35, .iload_n 3), (36, .if_icmp .ne 22), (39, .aload_n 0), (40, .aload_n 0), (41, .getfield 93), (44, .iconst 2), (45, .iadd), (46, .invokevirtual 102), (49, .iload 4), (51, .if_icmp .ne 7), (54, .iconst 1), (55, .goto 4), (58, .iconst 0), (59, .ireturn)]
def mMo_is : pm_MI := (6, ⟨"WheelTicketsModel", "is", "(IIII)Z"⟩, prog_8_method_11_code, 5, (Option.some Jvm.ClassFile.FieldType.boolean), tmMo_is, 1, 21)
set_option maxRecDepth 20000 in
theorem ok_mMo_is : pm_ok mMo_is := pm_mkok (by decide +kernel) (pm_in (List.mem_of_getElem? (i := 956) (by decide +kernel)) (by decide +kernel))
def tmMo_hasEnd : List (Nat × Instr) := [(0, .aload_n 0), (1, .aload_n 0), (2, .getfield 93), (5, .iconst 3), (6, .iadd), (7, .invokevirtual 102), (10, .iload_n 1), (11, .if_icmp .ne 64), (14, .iload_n 2), (15, .ifCond .eq 17), (18, .aload_n 0), (19, .aload_n 0), (20, .getfield 93), (23, .iconst 4), (24, .iadd), (25, .invokevirtual 102), (28, .iload_n 2), (29, .if_icmp .ne 46), (32, .iload_n 3), (33, .ifCond .eq 17), (36, .aload_n 0), (37, .aload_n 0), (38, .getfield 93), (41, .iconst 5), (42, .iadd), (43, .invokevirtual 102), (46, .iload_n 3), (47, .if_icmp .ne 28), (50, .iload 4), (52, .ifCond .eq 19), (55, .aload_n 0), (56, .aload_n 0), (57, .getfield 93), (60, .bipush 6), (62, .iadd), (63, .invokevirtual 102), (66, .iload 4), (68, .if_icmp .ne 7), (71, .iconst 1), (72, .goto 4), (75, .iconst 0), (76, .ireturn)]
def mMo_hasEnd : pm_MI := (6, ⟨"WheelTicketsModel", "hasEnd", "(IIII)Z"⟩, prog_8_method_12_code, 5, (Option.some Jvm.ClassFile.FieldType.boolean), tmMo_hasEnd, 1, 21)
set_option maxRecDepth 20000 in
theorem ok_mMo_hasEnd : pm_ok mMo_hasEnd := pm_mkok (by decide +kernel) (pm_in (List.mem_of_getElem? (i := 960) (by decide +kernel)) (by decide +kernel))
def tmMo_lineNow : List (Nat × Instr) := [(0, .aload_n 0), (1, .iconst 5), (2, .bipush 119), (4, .bipush 104), (6, .bipush 111), (8, .invokevirtual 106), (11, .ifCond .eq 18), (14, .aload_n 0), (15, .bipush 108), (17, .bipush 101), (19, .iconst 0), (20, .iconst 0), (21, .invokevirtual 110), (24, .ifCond .eq 5), (27, .iconst 0), (28, .ireturn), (29, .aload_n 0), (30, .iconst 5), (31, .bipush 104), (33, .bipush 105), (35, .bipush 114), (37, .invokevirtual 106), (40, .ifCond .eq 18), (43, .aload_n 0), (44, .bipush 101), (46, .bipush 100), (48, .iconst 0), (49, .iconst 0), (50, .invokevirtual 110), (53, .ifCond .eq 5), (56, .iconst 1), (57, .ireturn), (58, .aload_n 0), (59, .iconst 5), (60, .bipush 115), (62, .bipush 112), (64, .bipush 108), (66, .invokevirtual 106), (69, .ifCond .eq 18), (72, .aload_n 0), (73, .bipush 105), (75, .bipush 116), (77, .iconst 0), (78, .iconst 0), (79, .invokevirtual 110), (82, .ifCond .eq 5), (85, .iconst 2), (86, .ireturn), (87, .aload_n 0), (88, .bipush 7), (90, .bipush 105), (92, .bipush 110), (94, .bipush 115), (96, .invokevirtual 106), (99, .ifCond .eq 20), (102, .aload_n 0), (103, .bipush 117), (105, .bipush 114), (107, .bipush 101), (109, .bipush 100), (111, .invokevirtual 110), (114, .ifCond .eq 5), (117, .iconst 3), (118, .ireturn), (119, .aload_n 0), (120, .bipush 6), (122, .bipush 112), (124, .bipush 101), (126, .bipush 114), (128, .invokevirtual 106), (131, .ifCond .eq 19), (134, .aload_n 0), (135, .bipush 115), (137, .bipush 111), (139, .bipush 110), (141, .iconst 0), (142, .invokevirtual 110), (145, .ifCond .eq 5), (148, .iconst 4), (149, .ireturn), (150, .aload_n 0), (151, .iconst 5), (152, .bipush 112), (154, .bipush 114), (156, .bipush 105), (158, .invokevirtual 106), (161, .ifCond .eq 20), (164, .aload_n 0), (165, .bipush 122), (167, .bipush 101), (169, .iconst 0), (170, .iconst 0), (171, .invokevirtual 110), (174, .ifCond .eq 7), (177, .iconst 5), (178, .goto 36), (181, .aload_n 0), (182, .iconst 4), (183, .bipush 100), (185, .bipush 114), (187, .bipush 97), (189, .invokevirtual 106), (192, .ifCond .eq 20), (195, .aload_n 0), (196, .bipush 119), (198, .iconst 0), (199, .iconst 0), (200, .iconst 0), (201, .invokevirtual 110), (204, .ifCond .eq 8), (207, .bipush 6), (209, .goto 5), (212, .bipush (-4)), (214, .ireturn)]
def mMo_lineNow : pm_MI := (6, ⟨"WheelTicketsModel", "lineNow", "()I"⟩, prog_8_method_13_code, 1, (Option.some Jvm.ClassFile.FieldType.int), tmMo_lineNow, 2, 45)
set_option maxRecDepth 20000 in
theorem ok_mMo_lineNow : pm_ok mMo_lineNow := pm_mkok (by decide +kernel) (pm_in (List.mem_of_getElem? (i := 952) (by decide +kernel)) (by decide +kernel))
def tmMo_hasRoom : List (Nat × Instr) := [(0, .iload_n 1), (1, .iconst 4), (2, .if_icmp .ne 19), (5, .aload_n 0), (6, .getfield 59), (9, .iconst 4), (10, .if_icmp .ge 7), (13, .iconst 1), (14, .goto 63), (17, .iconst 0), (18, .goto 59), (21, .iload_n 1), (22, .iconst 5), (23, .if_icmp .ne 19), (26, .aload_n 0), (27, .getfield 66), (30, .iconst 4), (31, .if_icmp .ge 7), (34, .iconst 1), (35, .goto 42), (38, .iconst 0), (39, .goto 38), (42, .iload_n 1), (43, .bipush 6), (45, .if_icmp .ne 19), (48, .aload_n 0), (49, .getfield 69), (52, .iconst 4), (53, .if_icmp .ge 7), (56, .iconst 1), (57, .goto 20), (60, .iconst 0), (61, .goto 16), (64, .aload_n 0), (65, .getfield 63), (68, .iconst 4), (69, .if_icmp .ge 7), (72, .iconst 1), (73, .goto 4), (76, .iconst 0), (77, .ireturn)]
def mMo_hasRoom : pm_MI := (6, ⟨"WheelTicketsModel", "hasRoom", "(I)Z"⟩, prog_8_method_19_code, 2, (Option.some Jvm.ClassFile.FieldType.boolean), tmMo_hasRoom, 0, 0)
set_option maxRecDepth 20000 in
theorem ok_mMo_hasRoom : pm_ok mMo_hasRoom := pm_mkok (by decide +kernel) (pm_in (List.mem_of_getElem? (i := 964) (by decide +kernel)) (by decide +kernel))
def tmMo_readNumber : List (Nat × Instr) := [(0, .aload_n 0), (1, .getfield 90), (4, .ifCond .ne 21), (7, .aload_n 0), (8, .aload_n 0), (9, .getfield 113), (12, .iconst 2), (13, .if_icmp .ne 7), (16, .iconst 1), (17, .goto 4), (20, .iconst 0), (21, .iconst 2), (22, .invokevirtual 127), (25, .aload_n 0), (26, .getfield 90), (29, .ifCond .ne 20), (32, .aload_n 0), (33, .aload_n 0), (34, .getfield 124), (37, .i2l), (38, .iload_n 1), (39, .i2l), (40, .iload_n 2), (41, .i2l), (42, .invokestatic 83), (45, .iconst 3), (46, .invokevirtual 127), (49, .aload_n 0), (50, .getfield 90), (53, .ifCond .ne 10), (56, .aload_n 0), (57, .getfield 124), (60, .goto 4), (63, .iconst 0), (64, .istore_n 3), (65, .aload_n 0), (66, .invokevirtual 131), (69, .iload_n 3), (70, .ireturn)]
def mMo_readNumber : pm_MI := (6, ⟨"WheelTicketsModel", "readNumber", "(II)I"⟩, prog_8_method_15_code, 4, (Option.some Jvm.ClassFile.FieldType.int), tmMo_readNumber, 2, 46)
set_option maxRecDepth 20000 in
theorem ok_mMo_readNumber : pm_ok mMo_readNumber := pm_mkok (by decide +kernel) (pm_in (List.mem_of_getElem? (i := 972) (by decide +kernel)) (by decide +kernel))
def tmMo_readPerson : List (Nat × Instr) := [(0, .aload_n 0), (1, .iconst 0), (2, .iconst 3), (3, .invokevirtual 134), (6, .istore_n 1), (7, .aload_n 0), (8, .iload_n 1), (9, .aload_n 0), (10, .getfield 72), (13, .if_icmp .le 7), (16, .iload_n 1), (17, .goto 7), (20, .aload_n 0), (21, .getfield 72), (24, .putfield 72), (27, .iload_n 1), (28, .ireturn)]
def mMo_readPerson : pm_MI := (6, ⟨"WheelTicketsModel", "readPerson", "()I"⟩, prog_8_method_16_code, 2, (Option.some Jvm.ClassFile.FieldType.int), tmMo_readPerson, 3, 69)
set_option maxRecDepth 20000 in
theorem ok_mMo_readPerson : pm_ok mMo_readPerson := pm_mkok (by decide +kernel) (pm_in (List.mem_of_getElem? (i := 980) (by decide +kernel)) (by decide +kernel))
def tmMo_readTicket : List (Nat × Instr) := [(0, .iconst 4), (1, .iconst 5), (2, .aload_n 0), (3, .getfield 63), (6, .imul), (7, .iadd), (8, .istore_n 2), (9, .aload_n 0), (10, .getfield 20), (13, .iload_n 2), (14, .iconst 0), (15, .iadd), (16, .iload_n 1), (17, .iastore), (18, .aload_n 0), (19, .getfield 20), (22, .iload_n 2), (23, .iconst 1), (24, .iadd), (25, .aload_n 0), (26, .invokevirtual 138), (29, .iastore), (30, .aload_n 0), (31, .getfield 20), (34, .iload_n 2), (35, .iconst 2), (36, .iadd), (37, .aload_n 0), (38, .invokevirtual 138), (41, .iastore), (42, .aload_n 0), (43, .getfield 20), (46, .iload_n 2), (47, .iconst 3), (48, .iadd), (49, .aload_n 0), (50, .iconst 0), (51, .bipush 9), (53, .invokevirtual 134), (56, .iastore), (57, .aload_n 0), (58, .dup), (59, .getfield 63), (62, .iconst 1), (63, .iadd), (64, .putfield 63), (67, .return_)]
def mMo_readTicket : pm_MI := (6, ⟨"WheelTicketsModel", "readTicket", "(I)V"⟩, prog_8_method_17_code, 3, (Option.none : Option Jvm.ClassFile.FieldType), tmMo_readTicket, 4, 90)
set_option maxRecDepth 20000 in
theorem ok_mMo_readTicket : pm_ok mMo_readTicket := pm_mkok (by decide +kernel) (pm_in (List.mem_of_getElem? (i := 976) (by decide +kernel)) (by decide +kernel))
def tmMo_readLineOf : List (Nat × Instr) := [(0, .iload_n 1), (1, .tableswitch 137 4 6 #[27, 56, 88]), (28, .aload_n 0), (29, .getfield 20), (32, .aload_n 0), (33, .getfield 59), (36, .aload_n 0), (37, .iconst 0), (38, .bipush 99), (40, .invokevirtual 134), (43, .iastore), (44, .aload_n 0), (45, .dup), (46, .getfield 59), (49, .iconst 1), (50, .iadd), (51, .putfield 59), (54, .goto 89), (57, .aload_n 0), (58, .getfield 20), (61, .bipush 24), (63, .aload_n 0), (64, .getfield 66), (67, .iadd), (68, .aload_n 0), (69, .iconst 0), (70, .bipush 99), (72, .invokevirtual 134), (75, .iastore), (76, .aload_n 0), (77, .dup), (78, .getfield 66), (81, .iconst 1), (82, .iadd), (83, .putfield 66), (86, .goto 57), (89, .aload_n 0), (90, .getfield 23), (93, .iconst 2), (94, .aload_n 0), (95, .getfield 69), (98, .imul), (99, .aload_n 0), (100, .iconst 0), (101, .iconst 3), (102, .invokevirtual 134), (105, .iastore), (106, .aload_n 0), (107, .getfield 23), (110, .iconst 2), (111, .aload_n 0), (112, .getfield 69), (115, .imul), (116, .iconst 1), (117, .iadd), (118, .aload_n 0), (119, .iconst 0), (120, .iconst 3), (121, .invokevirtual 134), (124, .iastore), (125, .aload_n 0), (126, .dup), (127, .getfield 69), (130, .iconst 1), (131, .iadd), (132, .putfield 69), (135, .goto 8), (138, .aload_n 0), (139, .iload_n 1), (140, .invokevirtual 142), (143, .return_)]
def mMo_readLineOf : pm_MI := (6, ⟨"WheelTicketsModel", "readLineOf", "(I)V"⟩, prog_8_method_18_code, 2, (Option.none : Option Jvm.ClassFile.FieldType), tmMo_readLineOf, 5, 112)
set_option maxRecDepth 20000 in
theorem ok_mMo_readLineOf : pm_ok mMo_readLineOf := pm_mkok (by decide +kernel) (pm_in (List.mem_of_getElem? (i := 968) (by decide +kernel)) (by decide +kernel))
def tmMo_readLine : List (Nat × Instr) := [(0, .aload_n 0), (1, .getfield 113), (4, .iconst 1), (5, .if_icmp .ne 10), (8, .aload_n 0), (9, .invokevirtual 146), (12, .goto 5), (15, .bipush (-4)), (17, .istore_n 1), (18, .aload_n 0), (19, .iload_n 1), (20, .bipush (-4)), (22, .if_icmp .eq 7), (25, .iconst 1), (26, .goto 4), (29, .iconst 0), (30, .iconst 2), (31, .invokevirtual 127), (34, .aload_n 0), (35, .aload_n 0), (36, .iload_n 1), (37, .invokevirtual 149), (40, .iconst 5), (41, .invokevirtual 127), (44, .aload_n 0), (45, .invokevirtual 131), (48, .aload_n 0), (49, .getfield 90), (52, .ifCond .le 4), (55, .return_), (56, .aload_n 0), (57, .iload_n 1), (58, .invokevirtual 153), (61, .aload_n 0), (62, .getfield 90), (65, .ifCond .ne 21), (68, .aload_n 0), (69, .aload_n 0), (70, .getfield 113), (73, .iconst 3), (74, .if_icmp .ne 7), (77, .iconst 1), (78, .goto 4), (81, .iconst 0), (82, .iconst 2), (83, .invokevirtual 127), (86, .aload_n 0), (87, .invokevirtual 131), (90, .return_)]
def mMo_readLine : pm_MI := (6, ⟨"WheelTicketsModel", "readLine", "()V"⟩, prog_8_method_20_code, 2, (Option.none : Option Jvm.ClassFile.FieldType), tmMo_readLine, 6, 133)
set_option maxRecDepth 20000 in
theorem ok_mMo_readLine : pm_ok mMo_readLine := pm_mkok (by decide +kernel) (pm_in (List.mem_of_getElem? (i := 948) (by decide +kernel)) (by decide +kernel))
def tmMo_of : List (Nat × Instr) := [(0, .aload_n 0), (1, .getfield 13), (4, .iconst 4), (5, .iconst 5), (6, .iload_n 1), (7, .imul), (8, .iadd), (9, .iload_n 2), (10, .iadd), (11, .iaload), (12, .ireturn)]
def mMo_of : pm_MI := (6, ⟨"WheelTicketsModel", "of", "(II)I"⟩, prog_8_method_29_code, 3, (Option.some Jvm.ClassFile.FieldType.int), tmMo_of, 0, 0)
set_option maxRecDepth 20000 in
theorem ok_mMo_of : pm_ok mMo_of := pm_mkok (by decide +kernel) (pm_in (List.mem_of_getElem? (i := 992) (by decide +kernel)) (by decide +kernel))
def tmMo_isInWheel : List (Nat × Instr) := [(0, .aload_n 0), (1, .iload_n 1), (2, .iconst 4), (3, .invokevirtual 169), (6, .bipush (-4)), (8, .if_icmp .ne 7), (11, .iconst 1), (12, .goto 4), (15, .iconst 0), (16, .ireturn)]
def mMo_isInWheel : pm_MI := (6, ⟨"WheelTicketsModel", "isInWheel", "(I)Z"⟩, prog_8_method_30_code, 2, (Option.some Jvm.ClassFile.FieldType.boolean), tmMo_isInWheel, 1, 22)
set_option maxRecDepth 20000 in
theorem ok_mMo_isInWheel : pm_ok mMo_isInWheel := pm_mkok (by decide +kernel) (pm_in (List.mem_of_getElem? (i := 988) (by decide +kernel)) (by decide +kernel))
def tmMo_pays : List (Nat × Instr) := [(0, .aload_n 0), (1, .getfield 13), (4, .iload_n 1), (5, .dup2), (6, .iaload), (7, .iload_n 3), (8, .isub), (9, .iastore), (10, .aload_n 0), (11, .getfield 13), (14, .iload_n 2), (15, .dup2), (16, .iaload), (17, .iload_n 3), (18, .iadd), (19, .iastore), (20, .return_)]
def mMo_pays : pm_MI := (6, ⟨"WheelTicketsModel", "pays", "(III)V"⟩, prog_8_method_31_code, 4, (Option.none : Option Jvm.ClassFile.FieldType), tmMo_pays, 0, 0)
set_option maxRecDepth 20000 in
theorem ok_mMo_pays : pm_ok mMo_pays := pm_mkok (by decide +kernel) (pm_in (List.mem_of_getElem? (i := 1000) (by decide +kernel)) (by decide +kernel))
def tmMo_draws : List (Nat × Instr) := [(0, .iconst 0), (1, .istore 4), (3, .iload 4), (5, .iload_n 1), (6, .if_icmp .ge 99), (9, .aload_n 0), (10, .iload 4), (12, .invokevirtual 156), (15, .ifCond .eq 39), (18, .aload_n 0), (19, .iload 4), (21, .iconst 0), (22, .invokevirtual 169), (25, .iconst 1), (26, .if_icmp .ne 28), (29, .aload_n 0), (30, .aload_n 0), (31, .iload 4), (33, .iconst 2), (34, .invokevirtual 169), (37, .aload_n 0), (38, .iload 4), (40, .iconst 1), (41, .invokevirtual 169), (44, .aload_n 0), (45, .iload 4), (47, .iconst 3), (48, .invokevirtual 169), (51, .invokevirtual 172), (54, .aload_n 0), (55, .iload 4), (57, .invokevirtual 156), (60, .ifCond .eq 39), (63, .aload_n 0), (64, .iload 4), (66, .iconst 0), (67, .invokevirtual 169), (70, .iconst 3), (71, .if_icmp .ne 28), (74, .aload_n 0), (75, .aload_n 0), (76, .iload 4), (78, .iconst 1), (79, .invokevirtual 169), (82, .aload_n 0), (83, .iload 4), (85, .iconst 2), (86, .invokevirtual 169), (89, .aload_n 0), (90, .iload 4), (92, .iconst 3), (93, .invokevirtual 169), (96, .invokevirtual 172), (99, .iinc 4 1), (102, .goto (-99)), (105, .aload_n 0), (106, .getfield 13), (109, .bipush 24), (111, .iload_n 3), (112, .iadd), (113, .iaload), (114, .istore 4), (116, .aload_n 0), (117, .iload_n 2), (118, .iconst 0), (119, .invokevirtual 169), (122, .istore 5), (124, .iload 5), (126, .iconst 1), (127, .if_icmp .ne 8), (130, .iload 4), (132, .goto 17), (135, .iload 5), (137, .iconst 2), (138, .if_icmp .ne 10), (141, .iload 4), (143, .iconst 2), (144, .idiv), (145, .goto 4), (148, .iconst 0), (149, .istore 6), (151, .aload_n 0), (152, .getfield 13), (155, .aload_n 0), (156, .iload_n 2), (157, .iconst 1), (158, .invokevirtual 169), (161, .dup2), (162, .iaload), (163, .iload 4), (165, .iload 6), (167, .isub), (168, .iadd), (169, .iastore), (170, .aload_n 0), (171, .getfield 13), (174, .aload_n 0), (175, .iload_n 2), (176, .iconst 2), (177, .invokevirtual 169), (180, .dup2), (181, .iaload), (182, .iload 6), (184, .iadd), (185, .iastore), (186, .iload 5), (188, .iconst 3), (189, .if_icmp .ne 32), (192, .iload 4), (194, .ifCond .ne 27), (197, .aload_n 0), (198, .aload_n 0), (199, .iload_n 2), (200, .iconst 2), (201, .invokevirtual 169), (204, .aload_n 0), (205, .iload_n 2), (206, .iconst 1), (207, .invokevirtual 169), (210, .iconst 5), (211, .aload_n 0), (212, .iload_n 2), (213, .iconst 3), (214, .invokevirtual 169), (217, .imul), (218, .invokevirtual 172), (221, .aload_n 0), (222, .getfield 13), (225, .iconst 4), (226, .iconst 5), (227, .iload_n 2), (228, .imul), (229, .iadd), (230, .iconst 4), (231, .iadd), (232, .iload_n 3), (233, .iastore), (234, .aload_n 0), (235, .getfield 13), (238, .bipush 28), (240, .iload_n 3), (241, .iadd), (242, .iload_n 2), (243, .iastore), (244, .return_)]
def mMo_draws : pm_MI := (6, ⟨"WheelTicketsModel", "draws", "(III)V"⟩, prog_8_method_32_code, 7, (Option.none : Option Jvm.ClassFile.FieldType), tmMo_draws, 2, 43)
set_option maxRecDepth 20000 in
theorem ok_mMo_draws : pm_ok mMo_draws := pm_mkok (by decide +kernel) (pm_in (List.mem_of_getElem? (i := 996) (by decide +kernel)) (by decide +kernel))
def tmMo_drawsCome : List (Nat × Instr) := [(0, .iconst 0), (1, .istore_n 1), (2, .iload_n 1), (3, .bipush 45), (5, .if_icmp .ge 21), (8, .aload_n 0), (9, .getfield 13), (12, .iload_n 1), (13, .aload_n 0), (14, .getfield 20), (17, .iload_n 1), (18, .iaload), (19, .iastore), (20, .iinc 1 1), (23, .goto (-21)), (26, .iconst 0), (27, .istore_n 1), (28, .iload_n 1), (29, .aload_n 0), (30, .getfield 69), (33, .if_icmp .ge 113), (36, .aload_n 0), (37, .getfield 23), (40, .iconst 2), (41, .iload_n 1), (42, .imul), (43, .iaload), (44, .istore_n 2), (45, .aload_n 0), (46, .getfield 23), (49, .iconst 2), (50, .iload_n 1), (51, .imul), (52, .iconst 1), (53, .iadd), (54, .iaload), (55, .istore_n 3), (56, .aload_n 0), (57, .iload_n 2), (58, .aload_n 0), (59, .getfield 63), (62, .if_icmp .ge 15), (65, .iload_n 3), (66, .aload_n 0), (67, .getfield 63), (70, .if_icmp .ge 7), (73, .iconst 1), (74, .goto 4), (77, .iconst 0), (78, .bipush 8), (80, .invokevirtual 127), (83, .aload_n 0), (84, .getfield 90), (87, .ifCond .ne 36), (90, .aload_n 0), (91, .aload_n 0), (92, .iload_n 2), (93, .invokevirtual 156), (96, .ifCond .eq 21), (99, .aload_n 0), (100, .getfield 13), (103, .bipush 28), (105, .iload_n 3), (106, .iadd), (107, .iaload), (108, .bipush (-4)), (110, .if_icmp .ne 7), (113, .iconst 1), (114, .goto 4), (117, .iconst 0), (118, .bipush 8), (120, .invokevirtual 127), (123, .aload_n 0), (124, .getfield 90), (127, .ifCond .ne 13), (130, .aload_n 0), (131, .aload_n 0), (132, .getfield 63), (135, .iload_n 2), (136, .iload_n 3), (137, .invokevirtual 159), (140, .iinc 1 1), (143, .goto (-115)), (146, .iconst 0), (147, .istore_n 1), (148, .iload_n 1), (149, .bipush 45), (151, .if_icmp .ge 21), (154, .aload_n 0), (155, .getfield 20), (158, .iload_n 1), (159, .aload_n 0), (160, .getfield 13), (163, .iload_n 1), (164, .iaload), (165, .iastore), (166, .iinc 1 1), (169, .goto (-21)), (172, .return_)]
def mMo_drawsCome : pm_MI := (6, ⟨"WheelTicketsModel", "drawsCome", "()V"⟩, prog_8_method_21_code, 4, (Option.none : Option Jvm.ClassFile.FieldType), tmMo_drawsCome, 3, 69)
set_option maxRecDepth 20000 in
theorem ok_mMo_drawsCome : pm_ok mMo_drawsCome := pm_mkok (by decide +kernel) (pm_in (List.mem_of_getElem? (i := 984) (by decide +kernel)) (by decide +kernel))
def tmMo_text : List (Nat × Instr) := [(0, .iconst 0), (1, .istore_n 1), (2, .aload_n 0), (3, .iconst 0), (4, .putfield 90), (7, .aload_n 0), (8, .iconst 0), (9, .putfield 99), (12, .aload_n 0), (13, .invokevirtual 53), (16, .aload_n 0), (17, .invokevirtual 131), (20, .aload_n 0), (21, .getfield 90), (24, .ifCond .ne 20), (27, .aload_n 0), (28, .getfield 113), (31, .ifCond .eq 13), (34, .aload_n 0), (35, .invokevirtual 163), (38, .iinc 1 1), (41, .goto (-21)), (44, .aload_n 0), (45, .getfield 90), (48, .ifCond .ne 47), (51, .aload_n 0), (52, .aload_n 0), (53, .getfield 72), (56, .aload_n 0), (57, .getfield 59), (60, .if_icmp .ge 7), (63, .iconst 1), (64, .goto 4), (67, .iconst 0), (68, .bipush 6), (70, .invokevirtual 127), (73, .aload_n 0), (74, .aload_n 0), (75, .getfield 66), (78, .aload_n 0), (79, .getfield 63), (82, .if_icmp .gt 7), (85, .iconst 1), (86, .goto 4), (89, .iconst 0), (90, .bipush 7), (92, .invokevirtual 127), (95, .aload_n 0), (96, .getfield 90), (99, .ifCond .ne 7), (102, .aload_n 0), (103, .invokevirtual 166), (106, .aload_n 0), (107, .iconst 0), (108, .putfield 87), (111, .aload_n 0), (112, .getfield 90), (115, .ifCond .le 11), (118, .bipush (-10)), (120, .aload_n 0), (121, .getfield 96), (124, .isub), (125, .ireturn), (126, .aload_n 0), (127, .invokevirtual 56), (130, .iload_n 1), (131, .ireturn)]
def mMo_text : pm_MI := (6, ⟨"WheelTicketsModel", "text", "()I"⟩, prog_8_method_22_code, 2, (Option.some Jvm.ClassFile.FieldType.int), tmMo_text, 7, 154)
set_option maxRecDepth 20000 in
theorem ok_mMo_text : pm_ok mMo_text := pm_mkok (by decide +kernel) (pm_in (List.mem_of_getElem? (i := 928) (by decide +kernel)) (by decide +kernel))
def tmMo_fault : List (Nat × Instr) := [(0, .aload_n 0), (1, .getfield 90), (4, .ireturn)]
def mMo_fault : pm_MI := (6, ⟨"WheelTicketsModel", "fault", "()I"⟩, prog_8_method_23_code, 1, (Option.some Jvm.ClassFile.FieldType.int), tmMo_fault, 0, 0)
set_option maxRecDepth 20000 in
theorem ok_mMo_fault : pm_ok mMo_fault := pm_mkok (by decide +kernel) (pm_in (List.mem_of_getElem? (i := 1004) (by decide +kernel)) (by decide +kernel))
def tmMo_findLeft : List (Nat × Instr) := [(0, .aload_n 0), (1, .iconst 0), (2, .putfield 175), (5, .iconst 0), (6, .istore_n 1), (7, .iconst 0), (8, .istore_n 2), (9, .iload_n 2), (10, .aload_n 0), (11, .getfield 78), (14, .if_icmp .ge 70), (17, .aload_n 0), (18, .getfield 7), (21, .iconst 4), (22, .iconst 5), (23, .iload_n 2), (24, .imul), (25, .iadd), (26, .iconst 4), (27, .iadd), (28, .iaload), (29, .bipush (-4)), (31, .if_icmp .ne 23), (34, .aload_n 0), (35, .getfield 32), (38, .aload_n 0), (39, .getfield 175), (42, .iload_n 2), (43, .iastore), (44, .aload_n 0), (45, .dup), (46, .getfield 175), (49, .iconst 1), (50, .iadd), (51, .putfield 175), (54, .aload_n 0), (55, .getfield 7), (58, .bipush 28), (60, .iload_n 2), (61, .iadd), (62, .iaload), (63, .bipush (-4)), (65, .if_icmp .ne 13), (68, .aload_n 0), (69, .getfield 35), (72, .iload_n 1), (73, .iload_n 2), (74, .iastore), (75, .iinc 1 1), (78, .iinc 2 1), (81, .goto (-72)), (84, .return_)]
def mMo_findLeft : pm_MI := (6, ⟨"WheelTicketsModel", "findLeft", "()V"⟩, prog_8_method_33_code, 3, (Option.none : Option Jvm.ClassFile.FieldType), tmMo_findLeft, 0, 0)
set_option maxRecDepth 20000 in
theorem ok_mMo_findLeft : pm_ok mMo_findLeft := pm_mkok (by decide +kernel) (pm_in (List.mem_of_getElem? (i := 1012) (by decide +kernel)) (by decide +kernel))
def tmMo_flag : List (Nat × Instr) := [(0, .iload_n 0), (1, .ifCond .eq 7), (4, .iconst 1), (5, .goto 4), (8, .iconst 0), (9, .ireturn)]
def mMo_flag : pm_MI := (6, ⟨"WheelTicketsModel", "flag", "(Z)I"⟩, prog_8_method_4_code, 1, (Option.some Jvm.ClassFile.FieldType.int), tmMo_flag, 0, 0)
set_option maxRecDepth 20000 in
theorem ok_mMo_flag : pm_ok mMo_flag := pm_mkok (by decide +kernel) (pm_in (List.mem_of_getElem? (i := 1019) (by decide +kernel)) (by decide +kernel))
def tmMo_wheel : List (Nat × Instr) := [(0, .iconst 0), (1, .istore_n 1), (2, .iconst 0), (3, .istore_n 2), (4, .iload_n 2), (5, .aload_n 0), (6, .getfield 78), (9, .if_icmp .ge 39), (12, .iload_n 1), (13, .aload_n 0), (14, .getfield 7), (17, .iconst 4), (18, .iconst 5), (19, .iload_n 2), (20, .imul), (21, .iadd), (22, .iconst 4), (23, .iadd), (24, .iaload), (25, .bipush (-4)), (27, .if_icmp .ne 7), (30, .iconst 1), (31, .goto 4), (34, .iconst 0), (35, .invokestatic 181), (38, .iload_n 2), (39, .ishl), (40, .ior), (41, .istore_n 1), (42, .iinc 2 1), (45, .goto (-41)), (48, .iload_n 1), (49, .ireturn)]
def mMo_wheel : pm_MI := (6, ⟨"WheelTicketsModel", "wheel", "()I"⟩, prog_8_method_43_code, 3, (Option.some Jvm.ClassFile.FieldType.int), tmMo_wheel, 1, 20)
set_option maxRecDepth 20000 in
theorem ok_mMo_wheel : pm_ok mMo_wheel := pm_mkok (by decide +kernel) (pm_in (List.mem_of_getElem? (i := 1016) (by decide +kernel)) (by decide +kernel))
def tmMo_wheelPrizes : List (Nat × Instr) := [(0, .iconst 0), (1, .istore_n 1), (2, .iconst 0), (3, .istore_n 2), (4, .iload_n 2), (5, .aload_n 0), (6, .getfield 78), (9, .if_icmp .ge 36), (12, .iload_n 1), (13, .aload_n 0), (14, .getfield 7), (17, .bipush 28), (19, .iload_n 2), (20, .iadd), (21, .iaload), (22, .bipush (-4)), (24, .if_icmp .ne 7), (27, .iconst 1), (28, .goto 4), (31, .iconst 0), (32, .invokestatic 181), (35, .iload_n 2), (36, .ishl), (37, .ior), (38, .istore_n 1), (39, .iinc 2 1), (42, .goto (-38)), (45, .iload_n 1), (46, .ireturn)]
def mMo_wheelPrizes : pm_MI := (6, ⟨"WheelTicketsModel", "wheelPrizes", "()I"⟩, prog_8_method_44_code, 3, (Option.some Jvm.ClassFile.FieldType.int), tmMo_wheelPrizes, 1, 20)
set_option maxRecDepth 20000 in
theorem ok_mMo_wheelPrizes : pm_ok mMo_wheelPrizes := pm_mkok (by decide +kernel) (pm_in (List.mem_of_getElem? (i := 1023) (by decide +kernel)) (by decide +kernel))
def tmMo_sumInWheel : List (Nat × Instr) := [(0, .iconst 0), (1, .istore_n 1), (2, .iconst 0), (3, .istore_n 2), (4, .iload_n 2), (5, .aload_n 0), (6, .getfield 78), (9, .if_icmp .ge 39), (12, .iload_n 1), (13, .aload_n 0), (14, .getfield 7), (17, .bipush 28), (19, .iload_n 2), (20, .iadd), (21, .iaload), (22, .bipush (-4)), (24, .if_icmp .ne 15), (27, .aload_n 0), (28, .getfield 7), (31, .bipush 24), (33, .iload_n 2), (34, .iadd), (35, .iaload), (36, .goto 4), (39, .iconst 0), (40, .iadd), (41, .istore_n 1), (42, .iinc 2 1), (45, .goto (-41)), (48, .iload_n 1), (49, .ireturn)]
def mMo_sumInWheel : pm_MI := (6, ⟨"WheelTicketsModel", "sumInWheel", "()I"⟩, prog_8_method_45_code, 3, (Option.some Jvm.ClassFile.FieldType.int), tmMo_sumInWheel, 0, 0)
set_option maxRecDepth 20000 in
theorem ok_mMo_sumInWheel : pm_ok mMo_sumInWheel := pm_mkok (by decide +kernel) (pm_in (List.mem_of_getElem? (i := 1027) (by decide +kernel)) (by decide +kernel))
def tmMo_rule : List (Nat × Instr) := [(0, .aload_n 0), (1, .invokevirtual 185), (4, .iload_n 1), (5, .tableswitch 74 0 5 #[39, 44, 49, 59, 64, 69]), (44, .aload_n 0), (45, .getfield 75), (48, .ireturn), (49, .aload_n 0), (50, .getfield 78), (53, .ireturn), (54, .aload_n 0), (55, .getfield 78), (58, .aload_n 0), (59, .getfield 175), (62, .isub), (63, .ireturn), (64, .aload_n 0), (65, .invokevirtual 233), (68, .ireturn), (69, .aload_n 0), (70, .invokevirtual 236), (73, .ireturn), (74, .aload_n 0), (75, .invokevirtual 239), (78, .ireturn), (79, .iconst (-1)), (80, .ireturn)]
def mMo_rule : pm_MI := (6, ⟨"WheelTicketsModel", "rule", "(I)I"⟩, prog_8_method_46_code, 2, (Option.some Jvm.ClassFile.FieldType.int), tmMo_rule, 2, 42)
set_option maxRecDepth 20000 in
theorem ok_mMo_rule : pm_ok mMo_rule := pm_mkok (by decide +kernel) (pm_in (List.mem_of_getElem? (i := 1008) (by decide +kernel)) (by decide +kernel))
def tmMo_isPerson : List (Nat × Instr) := [(0, .iload_n 1), (1, .i2l), (2, .lconst 0), (3, .aload_n 0), (4, .getfield 75), (7, .iconst 1), (8, .isub), (9, .i2l), (10, .invokestatic 83), (13, .ireturn)]
def mMo_isPerson : pm_MI := (6, ⟨"WheelTicketsModel", "isPerson", "(I)Z"⟩, prog_8_method_24_code, 2, (Option.some Jvm.ClassFile.FieldType.boolean), tmMo_isPerson, 1, 25)
set_option maxRecDepth 20000 in
theorem ok_mMo_isPerson : pm_ok mMo_isPerson := pm_mkok (by decide +kernel) (pm_in (List.mem_of_getElem? (i := 1035) (by decide +kernel)) (by decide +kernel))
def tmMo_starts : List (Nat × Instr) := [(0, .iconst 0), (1, .istore_n 1), (2, .iload_n 1), (3, .bipush 45), (5, .if_icmp .ge 21), (8, .aload_n 0), (9, .getfield 13), (12, .iload_n 1), (13, .aload_n 0), (14, .getfield 7), (17, .iload_n 1), (18, .iaload), (19, .iastore), (20, .iinc 1 1), (23, .goto (-21)), (26, .return_)]
def mMo_starts : pm_MI := (6, ⟨"WheelTicketsModel", "starts", "()V"⟩, prog_8_method_27_code, 2, (Option.none : Option Jvm.ClassFile.FieldType), tmMo_starts, 0, 0)
set_option maxRecDepth 20000 in
theorem ok_mMo_starts : pm_ok mMo_starts := pm_mkok (by decide +kernel) (pm_in (List.mem_of_getElem? (i := 1040) (by decide +kernel)) (by decide +kernel))
def tmMo_person : List (Nat × Instr) := [(0, .aload_n 0), (1, .iload_n 1), (2, .invokevirtual 242), (5, .ifCond .eq 15), (8, .iload_n 2), (9, .i2l), (10, .lconst 0), (11, .ldc2_w 245), (14, .invokestatic 83), (17, .ifCond .ne 5), (20, .iconst (-1)), (21, .ireturn), (22, .aload_n 0), (23, .invokevirtual 194), (26, .iconst 0), (27, .istore_n 3), (28, .iconst 0), (29, .istore 4), (31, .iload 4), (33, .aload_n 0), (34, .getfield 78), (37, .if_icmp .ge 43), (40, .iload_n 3), (41, .aload_n 0), (42, .iload 4), (44, .iload_n 2), (45, .iconst 1), (46, .if_icmp .ne 7), (49, .iconst 1), (50, .goto 4), (53, .iconst 2), (54, .invokevirtual 169), (57, .iload_n 1), (58, .if_icmp .ne 7), (61, .iconst 1), (62, .goto 4), (65, .iconst 0), (66, .invokestatic 181), (69, .iload 4), (71, .ishl), (72, .ior), (73, .istore_n 3), (74, .iinc 4 1), (77, .goto (-46)), (80, .iload_n 2), (81, .ifCond .ne 16), (84, .sipush 10000), (87, .aload_n 0), (88, .getfield 7), (91, .iload_n 1), (92, .iaload), (93, .iadd), (94, .goto 4), (97, .iload_n 3), (98, .ireturn)]
def mMo_person : pm_MI := (6, ⟨"WheelTicketsModel", "person", "(II)I"⟩, prog_8_method_47_code, 5, (Option.some Jvm.ClassFile.FieldType.int), tmMo_person, 2, 46)
set_option maxRecDepth 20000 in
theorem ok_mMo_person : pm_ok mMo_person := pm_mkok (by decide +kernel) (pm_in (List.mem_of_getElem? (i := 1031) (by decide +kernel)) (by decide +kernel))
def tmMo_isTicket : List (Nat × Instr) := [(0, .iload_n 1), (1, .i2l), (2, .lconst 0), (3, .aload_n 0), (4, .getfield 78), (7, .iconst 1), (8, .isub), (9, .i2l), (10, .invokestatic 83), (13, .ireturn)]
def mMo_isTicket : pm_MI := (6, ⟨"WheelTicketsModel", "isTicket", "(I)Z"⟩, prog_8_method_25_code, 2, (Option.some Jvm.ClassFile.FieldType.boolean), tmMo_isTicket, 1, 25)
set_option maxRecDepth 20000 in
theorem ok_mMo_isTicket : pm_ok mMo_isTicket := pm_mkok (by decide +kernel) (pm_in (List.mem_of_getElem? (i := 1048) (by decide +kernel)) (by decide +kernel))
def tmMo_ticket : List (Nat × Instr) := [(0, .aload_n 0), (1, .iload_n 1), (2, .invokevirtual 247), (5, .ifCond .eq 30), (8, .iload_n 2), (9, .i2l), (10, .lconst 0), (11, .ldc2_w 250), (14, .invokestatic 83), (17, .ifCond .eq 18), (20, .aload_n 0), (21, .getfield 7), (24, .iconst 4), (25, .iconst 5), (26, .iload_n 1), (27, .imul), (28, .iadd), (29, .iload_n 2), (30, .iadd), (31, .iaload), (32, .goto 4), (35, .iconst (-1)), (36, .ireturn)]
def mMo_ticket : pm_MI := (6, ⟨"WheelTicketsModel", "ticket", "(II)I"⟩, prog_8_method_48_code, 3, (Option.some Jvm.ClassFile.FieldType.int), tmMo_ticket, 2, 46)
set_option maxRecDepth 20000 in
theorem ok_mMo_ticket : pm_ok mMo_ticket := pm_mkok (by decide +kernel) (pm_in (List.mem_of_getElem? (i := 1044) (by decide +kernel)) (by decide +kernel))
def tmMo_isPart : List (Nat × Instr) := [(0, .iload_n 0), (1, .i2l), (2, .lconst 0), (3, .lconst 1), (4, .invokestatic 83), (7, .ireturn)]
def mMo_isPart : pm_MI := (6, ⟨"WheelTicketsModel", "isPart", "(I)Z"⟩, prog_8_method_26_code, 1, (Option.some Jvm.ClassFile.FieldType.boolean), tmMo_isPart, 1, 25)
set_option maxRecDepth 20000 in
theorem ok_mMo_isPart : pm_ok mMo_isPart := pm_mkok (by decide +kernel) (pm_in (List.mem_of_getElem? (i := 1056) (by decide +kernel)) (by decide +kernel))
def tmMo_prize : List (Nat × Instr) := [(0, .aload_n 0), (1, .iload_n 1), (2, .invokevirtual 247), (5, .ifCond .eq 31), (8, .iload_n 2), (9, .invokestatic 252), (12, .ifCond .eq 24), (15, .aload_n 0), (16, .getfield 7), (19, .iload_n 2), (20, .ifCond .ne 8), (23, .bipush 24), (25, .goto 5), (28, .bipush 28), (30, .iload_n 1), (31, .iadd), (32, .iaload), (33, .goto 4), (36, .iconst (-1)), (37, .ireturn)]
def mMo_prize : pm_MI := (6, ⟨"WheelTicketsModel", "prize", "(II)I"⟩, prog_8_method_49_code, 3, (Option.some Jvm.ClassFile.FieldType.int), tmMo_prize, 2, 46)
set_option maxRecDepth 20000 in
theorem ok_mMo_prize : pm_ok mMo_prize := pm_mkok (by decide +kernel) (pm_in (List.mem_of_getElem? (i := 1053) (by decide +kernel)) (by decide +kernel))
def tmMo_isDrawn : List (Nat × Instr) := [(0, .aload_n 0), (1, .getfield 7), (4, .iconst 4), (5, .iconst 5), (6, .iload_n 1), (7, .imul), (8, .iadd), (9, .iconst 4), (10, .iadd), (11, .iaload), (12, .bipush (-4)), (14, .if_icmp .eq 7), (17, .iconst 1), (18, .goto 4), (21, .iconst 0), (22, .ireturn)]
def mMo_isDrawn : pm_MI := (6, ⟨"WheelTicketsModel", "isDrawn", "(I)Z"⟩, prog_8_method_51_code, 2, (Option.some Jvm.ClassFile.FieldType.boolean), tmMo_isDrawn, 0, 0)
set_option maxRecDepth 20000 in
theorem ok_mMo_isDrawn : pm_ok mMo_isDrawn := pm_mkok (by decide +kernel) (pm_in (List.mem_of_getElem? (i := 1066) (by decide +kernel)) (by decide +kernel))
def tmMo_becomes : List (Nat × Instr) := [(0, .aload_n 0), (1, .getfield 7), (4, .iload_n 1), (5, .iaload), (6, .istore_n 3), (7, .aload_n 0), (8, .getfield 7), (11, .iload_n 1), (12, .iload_n 2), (13, .iastore), (14, .iload_n 3), (15, .ireturn)]
def mMo_becomes : pm_MI := (6, ⟨"WheelTicketsModel", "becomes", "(II)I"⟩, prog_8_method_50_code, 4, (Option.some Jvm.ClassFile.FieldType.int), tmMo_becomes, 0, 0)
set_option maxRecDepth 20000 in
theorem ok_mMo_becomes : pm_ok mMo_becomes := pm_mkok (by decide +kernel) (pm_in (List.mem_of_getElem? (i := 1070) (by decide +kernel)) (by decide +kernel))
def tmMo_sign : List (Nat × Instr) := [(0, .aload_n 0), (1, .iload_n 1), (2, .invokevirtual 247), (5, .ifCond .eq 15), (8, .iload_n 2), (9, .i2l), (10, .lconst 0), (11, .ldc2_w 255), (14, .invokestatic 83), (17, .ifCond .ne 5), (20, .iconst (-1)), (21, .ireturn), (22, .iload_n 2), (23, .ifCond .ne 15), (26, .iload_n 3), (27, .i2l), (28, .lconst 0), (29, .ldc2_w 255), (32, .invokestatic 83), (35, .goto 25), (38, .iload_n 2), (39, .iconst 3), (40, .if_icmp .ne 15), (43, .iload_n 3), (44, .i2l), (45, .lconst 0), (46, .ldc2_w 257), (49, .invokestatic 83), (52, .goto 8), (55, .aload_n 0), (56, .iload_n 3), (57, .invokevirtual 242), (60, .istore 4), (62, .iload 4), (64, .ifCond .ne 5), (67, .iconst (-1)), (68, .ireturn), (69, .aload_n 0), (70, .iload_n 1), (71, .invokevirtual 259), (74, .ifCond .eq 8), (77, .bipush (-2)), (79, .goto 15), (82, .aload_n 0), (83, .iconst 4), (84, .iconst 5), (85, .iload_n 1), (86, .imul), (87, .iadd), (88, .iload_n 2), (89, .iadd), (90, .iload_n 3), (91, .invokevirtual 262), (94, .ireturn)]
def mMo_sign : pm_MI := (6, ⟨"WheelTicketsModel", "sign", "(III)I"⟩, prog_8_method_52_code, 5, (Option.some Jvm.ClassFile.FieldType.int), tmMo_sign, 2, 46)
set_option maxRecDepth 20000 in
theorem ok_mMo_sign : pm_ok mMo_sign := pm_mkok (by decide +kernel) (pm_in (List.mem_of_getElem? (i := 1060) (by decide +kernel)) (by decide +kernel))
def tmMo_fill : List (Nat × Instr) := [(0, .aload_n 0), (1, .iload_n 1), (2, .invokevirtual 242), (5, .ifCond .eq 28), (8, .iload_n 2), (9, .i2l), (10, .lconst 0), (11, .ldc2_w 265), (14, .invokestatic 83), (17, .ifCond .eq 16), (20, .sipush 10000), (23, .aload_n 0), (24, .iload_n 1), (25, .iload_n 2), (26, .invokevirtual 262), (29, .iadd), (30, .goto 4), (33, .iconst (-1)), (34, .ireturn)]
def mMo_fill : pm_MI := (6, ⟨"WheelTicketsModel", "fill", "(II)I"⟩, prog_8_method_53_code, 3, (Option.some Jvm.ClassFile.FieldType.int), tmMo_fill, 2, 46)
set_option maxRecDepth 20000 in
theorem ok_mMo_fill : pm_ok mMo_fill := pm_mkok (by decide +kernel) (pm_in (List.mem_of_getElem? (i := 1074) (by decide +kernel)) (by decide +kernel))
def tmMo_promise : List (Nat × Instr) := [(0, .aload_n 0), (1, .iload_n 1), (2, .invokevirtual 247), (5, .ifCond .eq 15), (8, .iload_n 2), (9, .i2l), (10, .lconst 0), (11, .ldc2_w 265), (14, .invokestatic 83), (17, .ifCond .ne 5), (20, .iconst (-1)), (21, .ireturn), (22, .aload_n 0), (23, .getfield 7), (26, .bipush 28), (28, .iload_n 1), (29, .iadd), (30, .iaload), (31, .bipush (-4)), (33, .if_icmp .eq 8), (36, .bipush (-2)), (38, .goto 12), (41, .aload_n 0), (42, .bipush 24), (44, .iload_n 1), (45, .iadd), (46, .iload_n 2), (47, .invokevirtual 262), (50, .ireturn)]
def mMo_promise : pm_MI := (6, ⟨"WheelTicketsModel", "promise", "(II)I"⟩, prog_8_method_54_code, 3, (Option.some Jvm.ClassFile.FieldType.int), tmMo_promise, 2, 46)
set_option maxRecDepth 20000 in
theorem ok_mMo_promise : pm_ok mMo_promise := pm_mkok (by decide +kernel) (pm_in (List.mem_of_getElem? (i := 1079) (by decide +kernel)) (by decide +kernel))
def tmMo_settles : List (Nat × Instr) := [(0, .iconst 0), (1, .istore_n 1), (2, .iload_n 1), (3, .bipush 45), (5, .if_icmp .ge 21), (8, .aload_n 0), (9, .getfield 7), (12, .iload_n 1), (13, .aload_n 0), (14, .getfield 13), (17, .iload_n 1), (18, .iaload), (19, .iastore), (20, .iinc 1 1), (23, .goto (-21)), (26, .return_)]
def mMo_settles : pm_MI := (6, ⟨"WheelTicketsModel", "settles", "()V"⟩, prog_8_method_28_code, 2, (Option.none : Option Jvm.ClassFile.FieldType), tmMo_settles, 0, 0)
set_option maxRecDepth 20000 in
theorem ok_mMo_settles : pm_ok mMo_settles := pm_mkok (by decide +kernel) (pm_in (List.mem_of_getElem? (i := 1087) (by decide +kernel)) (by decide +kernel))
def tmMo_draw : List (Nat × Instr) := [(0, .aload_n 0), (1, .iload_n 1), (2, .invokevirtual 247), (5, .ifCond .eq 11), (8, .aload_n 0), (9, .iload_n 2), (10, .invokevirtual 247), (13, .ifCond .ne 5), (16, .iconst (-1)), (17, .ireturn), (18, .aload_n 0), (19, .iload_n 1), (20, .invokevirtual 259), (23, .ifCond .ne 17), (26, .aload_n 0), (27, .getfield 7), (30, .bipush 28), (32, .iload_n 2), (33, .iadd), (34, .iaload), (35, .bipush (-4)), (37, .if_icmp .eq 6), (40, .bipush (-2)), (42, .ireturn), (43, .aload_n 0), (44, .invokevirtual 194), (47, .aload_n 0), (48, .aload_n 0), (49, .getfield 78), (52, .iload_n 1), (53, .iload_n 2), (54, .invokevirtual 159), (57, .aload_n 0), (58, .invokevirtual 267), (61, .aload_n 0), (62, .getfield 7), (65, .bipush 24), (67, .iload_n 2), (68, .iadd), (69, .iaload), (70, .ireturn)]
def mMo_draw : pm_MI := (6, ⟨"WheelTicketsModel", "draw", "(II)I"⟩, prog_8_method_55_code, 3, (Option.some Jvm.ClassFile.FieldType.int), tmMo_draw, 3, 69)
set_option maxRecDepth 20000 in
theorem ok_mMo_draw : pm_ok mMo_draw := pm_mkok (by decide +kernel) (pm_in (List.mem_of_getElem? (i := 1083) (by decide +kernel)) (by decide +kernel))
def tmMo_common : List (Nat × Instr) := [(0, .lload_n 0), (1, .lstore 4), (3, .lload_n 2), (4, .lconst 0), (5, .lcmp), (6, .ifCond .ge 8), (9, .lload_n 2), (10, .lneg), (11, .goto 4), (14, .lload_n 2), (15, .lstore 6), (17, .lload 6), (19, .lconst 0), (20, .lcmp), (21, .ifCond .eq 21), (24, .lload 4), (26, .lload 6), (28, .lrem), (29, .lstore 8), (31, .lload 6), (33, .lstore 4), (35, .lload 8), (37, .lstore 6), (39, .goto (-22)), (42, .lload 4), (44, .lreturn)]
def mMo_common : pm_MI := (6, ⟨"WheelTicketsModel", "common", "(JJ)J"⟩, prog_8_method_56_code, 10, (Option.some Jvm.ClassFile.FieldType.long), tmMo_common, 0, 0)
set_option maxRecDepth 20000 in
theorem ok_mMo_common : pm_ok mMo_common := pm_mkok (by decide +kernel) (pm_in (List.mem_of_getElem? (i := 1099) (by decide +kernel)) (by decide +kernel))
def tmMo_told : List (Nat × Instr) := [(0, .lload_n 2), (1, .lload_n 0), (2, .invokestatic 270), (5, .lstore 5), (7, .iload 4), (9, .ifCond .ne 10), (12, .lload_n 0), (13, .lload 5), (15, .ldiv), (16, .goto 7), (19, .lload_n 2), (20, .lload 5), (22, .ldiv), (23, .lreturn)]
def mMo_told : pm_MI := (6, ⟨"WheelTicketsModel", "told", "(JJI)J"⟩, prog_8_method_57_code, 7, (Option.some Jvm.ClassFile.FieldType.long), tmMo_told, 1, 29)
set_option maxRecDepth 20000 in
theorem ok_mMo_told : pm_ok mMo_told := pm_mkok (by decide +kernel) (pm_in (List.mem_of_getElem? (i := 1096) (by decide +kernel)) (by decide +kernel))
def tmMo_worth : List (Nat × Instr) := [(0, .iload_n 1), (1, .invokestatic 252), (4, .ifCond .ne 7), (7, .ldc2_w 274), (10, .lreturn), (11, .aload_n 0), (12, .invokevirtual 185), (15, .aload_n 0), (16, .getfield 175), (19, .ifCond .ne 9), (22, .ldc2_w 276), (25, .goto 17), (28, .aload_n 0), (29, .invokevirtual 239), (32, .i2l), (33, .aload_n 0), (34, .getfield 175), (37, .i2l), (38, .iload_n 1), (39, .invokestatic 278), (42, .lreturn)]
def mMo_worth : pm_MI := (6, ⟨"WheelTicketsModel", "worth", "(I)J"⟩, prog_8_method_58_code, 2, (Option.some Jvm.ClassFile.FieldType.long), tmMo_worth, 2, 55)
set_option maxRecDepth 20000 in
theorem ok_mMo_worth : pm_ok mMo_worth := pm_mkok (by decide +kernel) (pm_in (List.mem_of_getElem? (i := 1091) (by decide +kernel)) (by decide +kernel))
def tmMo_day : List (Nat × Instr) := [(0, .aload_n 0), (1, .iload_n 1), (2, .invokevirtual 247), (5, .ifCond .eq 10), (8, .iload_n 2), (9, .invokestatic 252), (12, .ifCond .ne 7), (15, .ldc2_w 274), (18, .lreturn), (19, .aload_n 0), (20, .iload_n 1), (21, .invokevirtual 259), (24, .ifCond .eq 7), (27, .ldc2_w 282), (30, .lreturn), (31, .aload_n 0), (32, .invokevirtual 185), (35, .aload_n 0), (36, .invokevirtual 239), (39, .i2l), (40, .aload_n 0), (41, .getfield 175), (44, .aload_n 0), (45, .getfield 175), (48, .imul), (49, .i2l), (50, .iload_n 2), (51, .invokestatic 278), (54, .lreturn)]
def mMo_day : pm_MI := (6, ⟨"WheelTicketsModel", "day", "(II)J"⟩, prog_8_method_59_code, 3, (Option.some Jvm.ClassFile.FieldType.long), tmMo_day, 2, 55)
set_option maxRecDepth 20000 in
theorem ok_mMo_day : pm_ok mMo_day := pm_mkok (by decide +kernel) (pm_in (List.mem_of_getElem? (i := 1103) (by decide +kernel)) (by decide +kernel))
def tmMo_tries : List (Nat × Instr) := [(0, .aload_n 0), (1, .iload_n 1), (2, .putfield 197), (5, .aload_n 0), (6, .iload_n 2), (7, .putfield 200), (10, .return_)]
def mMo_tries : pm_MI := (6, ⟨"WheelTicketsModel", "tries", "(II)V"⟩, prog_8_method_41_code, 3, (Option.none : Option Jvm.ClassFile.FieldType), tmMo_tries, 0, 0)
set_option maxRecDepth 20000 in
theorem ok_mMo_tries : pm_ok mMo_tries := pm_mkok (by decide +kernel) (pm_in (List.mem_of_getElem? (i := 1112) (by decide +kernel)) (by decide +kernel))
def tmMo_power : List (Nat × Instr) := [(0, .iconst 1), (1, .istore_n 2), (2, .iconst 0), (3, .istore_n 3), (4, .iload_n 3), (5, .iload_n 1), (6, .if_icmp .ge 13), (9, .iload_n 2), (10, .iload_n 1), (11, .imul), (12, .istore_n 2), (13, .iinc 3 1), (16, .goto (-12)), (19, .iload_n 2), (20, .ireturn)]
def mMo_power : pm_MI := (6, ⟨"WheelTicketsModel", "power", "(I)I"⟩, prog_8_method_35_code, 4, (Option.some Jvm.ClassFile.FieldType.int), tmMo_power, 0, 0)
set_option maxRecDepth 20000 in
theorem ok_mMo_power : pm_ok mMo_power := pm_mkok (by decide +kernel) (pm_in (List.mem_of_getElem? (i := 1124) (by decide +kernel)) (by decide +kernel))
def tmMo_addsOrder : List (Nat × Instr) := [(0, .iload_n 1), (1, .istore_n 2), (2, .iconst 0), (3, .istore_n 3), (4, .aload_n 0), (5, .getfield 175), (8, .iconst 1), (9, .isub), (10, .istore 4), (12, .iload 4), (14, .ifCond .lt 47), (17, .iload_n 2), (18, .aload_n 0), (19, .getfield 175), (22, .irem), (23, .istore 5), (25, .iload_n 2), (26, .aload_n 0), (27, .getfield 175), (30, .idiv), (31, .istore_n 2), (32, .aload_n 0), (33, .getfield 29), (36, .iconst 4), (37, .aload_n 0), (38, .getfield 178), (41, .imul), (42, .iload 4), (44, .iadd), (45, .iload 5), (47, .iastore), (48, .iload_n 3), (49, .iconst 1), (50, .iload 5), (52, .ishl), (53, .ior), (54, .istore_n 3), (55, .iinc 4 (-1)), (58, .goto (-46)), (61, .aload_n 0), (62, .dup), (63, .getfield 178), (66, .iload_n 3), (67, .iconst 1), (68, .aload_n 0), (69, .getfield 175), (72, .ishl), (73, .iconst 1), (74, .isub), (75, .if_icmp .ne 7), (78, .iconst 1), (79, .goto 4), (82, .iconst 0), (83, .invokestatic 181), (86, .iadd), (87, .putfield 178), (90, .return_)]
def mMo_addsOrder : pm_MI := (6, ⟨"WheelTicketsModel", "addsOrder", "(I)V"⟩, prog_8_method_34_code, 6, (Option.none : Option Jvm.ClassFile.FieldType), tmMo_addsOrder, 1, 20)
set_option maxRecDepth 20000 in
theorem ok_mMo_addsOrder : pm_ok mMo_addsOrder := pm_mkok (by decide +kernel) (pm_in (List.mem_of_getElem? (i := 1128) (by decide +kernel)) (by decide +kernel))
def tmMo_findOrders : List (Nat × Instr) := [(0, .aload_n 0), (1, .invokevirtual 185), (4, .aload_n 0), (5, .iconst 0), (6, .putfield 178), (9, .iconst 0), (10, .istore_n 1), (11, .iload_n 1), (12, .aload_n 0), (13, .aload_n 0), (14, .getfield 175), (17, .invokevirtual 188), (20, .if_icmp .ge 14), (23, .aload_n 0), (24, .iload_n 1), (25, .invokevirtual 191), (28, .iinc 1 1), (31, .goto (-20)), (34, .return_)]
def mMo_findOrders : pm_MI := (6, ⟨"WheelTicketsModel", "findOrders", "()V"⟩, prog_8_method_36_code, 2, (Option.none : Option Jvm.ClassFile.FieldType), tmMo_findOrders, 2, 45)
set_option maxRecDepth 20000 in
theorem ok_mMo_findOrders : pm_ok mMo_findOrders := pm_mkok (by decide +kernel) (pm_in (List.mem_of_getElem? (i := 1120) (by decide +kernel)) (by decide +kernel))
def tmMo_waysMany : List (Nat × Instr) := [(0, .aload_n 0), (1, .getfield 178), (4, .aload_n 0), (5, .getfield 178), (8, .imul), (9, .ireturn)]
def mMo_waysMany : pm_MI := (6, ⟨"WheelTicketsModel", "waysMany", "()I"⟩, prog_8_method_37_code, 1, (Option.some Jvm.ClassFile.FieldType.int), tmMo_waysMany, 0, 0)
set_option maxRecDepth 20000 in
theorem ok_mMo_waysMany : pm_ok mMo_waysMany := pm_mkok (by decide +kernel) (pm_in (List.mem_of_getElem? (i := 1134) (by decide +kernel)) (by decide +kernel))
def tmMo_startsTried : List (Nat × Instr) := [(0, .aload_n 0), (1, .invokevirtual 194), (4, .aload_n 0), (5, .getfield 197), (8, .bipush (-4)), (10, .if_icmp .eq 16), (13, .aload_n 0), (14, .getfield 13), (17, .aload_n 0), (18, .getfield 197), (21, .aload_n 0), (22, .getfield 200), (25, .iastore), (26, .return_)]
def mMo_startsTried : pm_MI := (6, ⟨"WheelTicketsModel", "startsTried", "()V"⟩, prog_8_method_40_code, 1, (Option.none : Option Jvm.ClassFile.FieldType), tmMo_startsTried, 1, 21)
set_option maxRecDepth 20000 in
theorem ok_mMo_startsTried : pm_ok mMo_startsTried := pm_mkok (by decide +kernel) (pm_in (List.mem_of_getElem? (i := 1138) (by decide +kernel)) (by decide +kernel))
def tmMo_goesBy : List (Nat × Instr) := [(0, .iconst 0), (1, .istore_n 2), (2, .iload_n 2), (3, .aload_n 0), (4, .getfield 175), (7, .if_icmp .ge 57), (10, .aload_n 0), (11, .aload_n 0), (12, .getfield 78), (15, .aload_n 0), (16, .getfield 32), (19, .aload_n 0), (20, .getfield 29), (23, .iconst 4), (24, .iload_n 1), (25, .aload_n 0), (26, .getfield 178), (29, .idiv), (30, .imul), (31, .iload_n 2), (32, .iadd), (33, .iaload), (34, .iaload), (35, .aload_n 0), (36, .getfield 35), (39, .aload_n 0), (40, .getfield 29), (43, .iconst 4), (44, .iload_n 1), (45, .aload_n 0), (46, .getfield 178), (49, .irem), (50, .imul), (51, .iload_n 2), (52, .iadd), (53, .iaload), (54, .iaload), (55, .invokevirtual 159), (58, .iinc 2 1), (61, .goto (-59)), (64, .return_)]
def mMo_goesBy : pm_MI := (6, ⟨"WheelTicketsModel", "goesBy", "(I)V"⟩, prog_8_method_38_code, 3, (Option.none : Option Jvm.ClassFile.FieldType), tmMo_goesBy, 3, 69)
set_option maxRecDepth 20000 in
theorem ok_mMo_goesBy : pm_ok mMo_goesBy := pm_mkok (by decide +kernel) (pm_in (List.mem_of_getElem? (i := 1142) (by decide +kernel)) (by decide +kernel))
def tmMo_firstTicket : List (Nat × Instr) := [(0, .aload_n 0), (1, .getfield 32), (4, .aload_n 0), (5, .getfield 29), (8, .iconst 4), (9, .iload_n 1), (10, .aload_n 0), (11, .getfield 178), (14, .idiv), (15, .imul), (16, .iaload), (17, .iaload), (18, .ireturn)]
def mMo_firstTicket : pm_MI := (6, ⟨"WheelTicketsModel", "firstTicket", "(I)I"⟩, prog_8_method_39_code, 2, (Option.some Jvm.ClassFile.FieldType.int), tmMo_firstTicket, 0, 0)
set_option maxRecDepth 20000 in
theorem ok_mMo_firstTicket : pm_ok mMo_firstTicket := pm_mkok (by decide +kernel) (pm_in (List.mem_of_getElem? (i := 1146) (by decide +kernel)) (by decide +kernel))
def tmMo_findEnds : List (Nat × Instr) := [(0, .aload_n 0), (1, .invokevirtual 203), (4, .aload_n 0), (5, .lconst 0), (6, .putfield 206), (9, .aload_n 0), (10, .ldc 210), (12, .putfield 211), (15, .aload_n 0), (16, .ldc 214), (18, .putfield 215), (21, .aload_n 0), (22, .iconst 0), (23, .putfield 218), (26, .iconst 0), (27, .istore_n 2), (28, .iload_n 2), (29, .aload_n 0), (30, .invokevirtual 221), (33, .if_icmp .ge 135), (36, .aload_n 0), (37, .invokevirtual 224), (40, .aload_n 0), (41, .iload_n 2), (42, .invokevirtual 227), (45, .aload_n 0), (46, .getfield 13), (49, .iload_n 1), (50, .iaload), (51, .istore_n 3), (52, .aload_n 0), (53, .getfield 175), (56, .ifCond .ne 7), (59, .iconst 0), (60, .goto 10), (63, .iconst 1), (64, .aload_n 0), (65, .iload_n 2), (66, .invokevirtual 230), (69, .ishl), (70, .istore 4), (72, .aload_n 0), (73, .iload_n 3), (74, .aload_n 0), (75, .getfield 215), (78, .if_icmp .le 8), (81, .iload 4), (83, .goto 25), (86, .iload_n 3), (87, .aload_n 0), (88, .getfield 215), (91, .if_icmp .ne 13), (94, .aload_n 0), (95, .getfield 218), (98, .iload 4), (100, .ior), (101, .goto 7), (104, .aload_n 0), (105, .getfield 218), (108, .putfield 218), (111, .aload_n 0), (112, .iload_n 3), (113, .aload_n 0), (114, .getfield 215), (117, .if_icmp .le 7), (120, .iload_n 3), (121, .goto 7), (124, .aload_n 0), (125, .getfield 215), (128, .putfield 215), (131, .aload_n 0), (132, .iload_n 3), (133, .aload_n 0), (134, .getfield 211), (137, .if_icmp .ge 7), (140, .iload_n 3), (141, .goto 7), (144, .aload_n 0), (145, .getfield 211), (148, .putfield 211), (151, .aload_n 0), (152, .dup), (153, .getfield 206), (156, .iload_n 3), (157, .i2l), (158, .ladd), (159, .putfield 206), (162, .iinc 2 1), (165, .goto (-137)), (168, .return_)]
def mMo_findEnds : pm_MI := (6, ⟨"WheelTicketsModel", "findEnds", "(I)V"⟩, prog_8_method_42_code, 5, (Option.none : Option Jvm.ClassFile.FieldType), tmMo_findEnds, 4, 91)
set_option maxRecDepth 20000 in
theorem ok_mMo_findEnds : pm_ok mMo_findEnds := pm_mkok (by decide +kernel) (pm_in (List.mem_of_getElem? (i := 1116) (by decide +kernel)) (by decide +kernel))
def tmMo_mean : List (Nat × Instr) := [(0, .aload_n 0), (1, .iload_n 1), (2, .invokevirtual 242), (5, .ifCond .eq 10), (8, .iload_n 2), (9, .invokestatic 252), (12, .ifCond .ne 7), (15, .ldc2_w 274), (18, .lreturn), (19, .aload_n 0), (20, .bipush (-4)), (22, .iconst 0), (23, .invokevirtual 284), (26, .aload_n 0), (27, .iload_n 1), (28, .invokevirtual 288), (31, .aload_n 0), (32, .getfield 206), (35, .aload_n 0), (36, .invokevirtual 221), (39, .i2l), (40, .iload_n 2), (41, .invokestatic 278), (44, .lreturn)]
def mMo_mean : pm_MI := (6, ⟨"WheelTicketsModel", "mean", "(II)J"⟩, prog_8_method_60_code, 3, (Option.some Jvm.ClassFile.FieldType.long), tmMo_mean, 5, 115)
set_option maxRecDepth 20000 in
theorem ok_mMo_mean : pm_ok mMo_mean := pm_mkok (by decide +kernel) (pm_in (List.mem_of_getElem? (i := 1108) (by decide +kernel)) (by decide +kernel))
def tmMo_luck : List (Nat × Instr) := [(0, .aload_n 0), (1, .iload_n 1), (2, .invokevirtual 242), (5, .ifCond .eq 24), (8, .iload_n 2), (9, .i2l), (10, .ldc2_w 291), (13, .ldc2_w 293), (16, .invokestatic 83), (19, .ifCond .eq 10), (22, .iload_n 3), (23, .invokestatic 252), (26, .ifCond .ne 7), (29, .ldc2_w 274), (32, .lreturn), (33, .aload_n 0), (34, .invokevirtual 203), (37, .lconst 0), (38, .lstore 4), (40, .iconst 0), (41, .istore 6), (43, .iload 6), (45, .aload_n 0), (46, .invokevirtual 221), (49, .if_icmp .ge 39), (52, .aload_n 0), (53, .invokevirtual 194), (56, .aload_n 0), (57, .iload 6), (59, .invokevirtual 227), (62, .lload 4), (64, .aload_n 0), (65, .getfield 13), (68, .iload_n 1), (69, .iaload), (70, .iload_n 2), (71, .if_icmp .lt 7), (74, .lconst 1), (75, .goto 4), (78, .lconst 0), (79, .ladd), (80, .lstore 4), (82, .iinc 6 1), (85, .goto (-42)), (88, .lload 4), (90, .aload_n 0), (91, .invokevirtual 221), (94, .i2l), (95, .iload_n 3), (96, .invokestatic 278), (99, .lreturn)]
def mMo_luck : pm_MI := (6, ⟨"WheelTicketsModel", "luck", "(III)J"⟩, prog_8_method_61_code, 7, (Option.some Jvm.ClassFile.FieldType.long), tmMo_luck, 4, 91)
set_option maxRecDepth 20000 in
theorem ok_mMo_luck : pm_ok mMo_luck := pm_mkok (by decide +kernel) (pm_in (List.mem_of_getElem? (i := 1150) (by decide +kernel)) (by decide +kernel))
def tmMo_solid : List (Nat × Instr) := [(0, .iload_n 1), (1, .invokestatic 252), (4, .ifCond .ne 7), (7, .ldc2_w 274), (10, .lreturn), (11, .aload_n 0), (12, .invokevirtual 203), (15, .lconst 0), (16, .lstore_n 2), (17, .iconst 0), (18, .istore 4), (20, .iload 4), (22, .aload_n 0), (23, .invokevirtual 221), (26, .if_icmp .ge 75), (29, .aload_n 0), (30, .invokevirtual 194), (33, .aload_n 0), (34, .iload 4), (36, .invokevirtual 227), (39, .iconst 1), (40, .istore 5), (42, .iconst 0), (43, .istore 6), (45, .iload 6), (47, .aload_n 0), (48, .getfield 75), (51, .if_icmp .ge 31), (54, .iload 5), (56, .ifCond .eq 17), (59, .aload_n 0), (60, .getfield 13), (63, .iload 6), (65, .iaload), (66, .ifCond .lt 7), (69, .iconst 1), (70, .goto 4), (73, .iconst 0), (74, .istore 5), (76, .iinc 6 1), (79, .goto (-34)), (82, .lload_n 2), (83, .iload 5), (85, .ifCond .eq 7), (88, .lconst 1), (89, .goto 4), (92, .lconst 0), (93, .ladd), (94, .lstore_n 2), (95, .iinc 4 1), (98, .goto (-78)), (101, .lload_n 2), (102, .aload_n 0), (103, .invokevirtual 221), (106, .i2l), (107, .iload_n 1), (108, .invokestatic 278), (111, .lreturn)]
def mMo_solid : pm_MI := (6, ⟨"WheelTicketsModel", "solid", "(I)J"⟩, prog_8_method_62_code, 7, (Option.some Jvm.ClassFile.FieldType.long), tmMo_solid, 4, 91)
set_option maxRecDepth 20000 in
theorem ok_mMo_solid : pm_ok mMo_solid := pm_mkok (by decide +kernel) (pm_in (List.mem_of_getElem? (i := 1156) (by decide +kernel)) (by decide +kernel))
def tmMo_ends : List (Nat × Instr) := [(0, .aload_n 0), (1, .iload_n 1), (2, .invokevirtual 242), (5, .ifCond .eq 15), (8, .iload_n 2), (9, .i2l), (10, .lconst 0), (11, .ldc2_w 245), (14, .invokestatic 83), (17, .ifCond .ne 5), (20, .iconst (-1)), (21, .ireturn), (22, .aload_n 0), (23, .bipush (-4)), (25, .iconst 0), (26, .invokevirtual 284), (29, .aload_n 0), (30, .iload_n 1), (31, .invokevirtual 288), (34, .iload_n 2), (35, .ifCond .ne 14), (38, .sipush 10000), (41, .aload_n 0), (42, .getfield 211), (45, .iadd), (46, .goto 23), (49, .iload_n 2), (50, .iconst 1), (51, .if_icmp .ne 14), (54, .sipush 10000), (57, .aload_n 0), (58, .getfield 215), (61, .iadd), (62, .goto 7), (65, .aload_n 0), (66, .getfield 218), (69, .ireturn)]
def mMo_ends : pm_MI := (6, ⟨"WheelTicketsModel", "ends", "(II)I"⟩, prog_8_method_63_code, 3, (Option.some Jvm.ClassFile.FieldType.int), tmMo_ends, 5, 115)
set_option maxRecDepth 20000 in
theorem ok_mMo_ends : pm_ok mMo_ends := pm_mkok (by decide +kernel) (pm_in (List.mem_of_getElem? (i := 1160) (by decide +kernel)) (by decide +kernel))
def tmMo_ownerOf : List (Nat × Instr) := [(0, .aload_n 0), (1, .getfield 7), (4, .iconst 4), (5, .iconst 5), (6, .iload_n 1), (7, .imul), (8, .iadd), (9, .iconst 1), (10, .iadd), (11, .iaload), (12, .ireturn)]
def mMo_ownerOf : pm_MI := (6, ⟨"WheelTicketsModel", "ownerOf", "(I)I"⟩, prog_8_method_64_code, 2, (Option.some Jvm.ClassFile.FieldType.int), tmMo_ownerOf, 0, 0)
set_option maxRecDepth 20000 in
theorem ok_mMo_ownerOf : pm_ok mMo_ownerOf := pm_mkok (by decide +kernel) (pm_in (List.mem_of_getElem? (i := 1168) (by decide +kernel)) (by decide +kernel))
def tmMo_fee : List (Nat × Instr) := [(0, .aload_n 0), (1, .iload_n 1), (2, .invokevirtual 247), (5, .ifCond .eq 17), (8, .iload_n 2), (9, .i2l), (10, .ldc2_w 291), (13, .ldc2_w 293), (16, .invokestatic 83), (19, .ifCond .ne 5), (22, .iconst (-1)), (23, .ireturn), (24, .aload_n 0), (25, .iload_n 1), (26, .invokevirtual 259), (29, .ifCond .eq 6), (32, .bipush (-2)), (34, .ireturn), (35, .iconst 0), (36, .istore_n 3), (37, .iload_n 3), (38, .bipush 9), (40, .if_icmp .gt 48), (43, .aload_n 0), (44, .iconst 4), (45, .iconst 5), (46, .iload_n 1), (47, .imul), (48, .iadd), (49, .iconst 3), (50, .iadd), (51, .iload_n 3), (52, .invokevirtual 284), (55, .aload_n 0), (56, .aload_n 0), (57, .iload_n 1), (58, .invokevirtual 295), (61, .invokevirtual 288), (64, .aload_n 0), (65, .getfield 206), (68, .iload_n 2), (69, .i2l), (70, .aload_n 0), (71, .invokevirtual 221), (74, .i2l), (75, .lmul), (76, .lcmp), (77, .ifCond .lt 5), (80, .iload_n 3), (81, .ireturn), (82, .iinc 3 1), (85, .goto (-48)), (88, .bipush (-4)), (90, .ireturn)]
def mMo_fee : pm_MI := (6, ⟨"WheelTicketsModel", "fee", "(II)I"⟩, prog_8_method_65_code, 4, (Option.some Jvm.ClassFile.FieldType.int), tmMo_fee, 5, 115)
set_option maxRecDepth 20000 in
theorem ok_mMo_fee : pm_ok mMo_fee := pm_mkok (by decide +kernel) (pm_in (List.mem_of_getElem? (i := 1164) (by decide +kernel)) (by decide +kernel))
def tmMo_kind : List (Nat × Instr) := [(0, .aload_n 0), (1, .iload_n 1), (2, .invokevirtual 247), (5, .ifCond .ne 5), (8, .iconst (-1)), (9, .ireturn), (10, .aload_n 0), (11, .iload_n 1), (12, .invokevirtual 259), (15, .ifCond .eq 6), (18, .bipush (-2)), (20, .ireturn), (21, .lconst 0), (22, .lstore_n 2), (23, .bipush (-4)), (25, .istore 4), (27, .iconst 0), (28, .istore 5), (30, .iload 5), (32, .iconst 4), (33, .if_icmp .ge 82), (36, .aload_n 0), (37, .iconst 4), (38, .iconst 5), (39, .iload_n 1), (40, .imul), (41, .iadd), (42, .iconst 0), (43, .iadd), (44, .iload 5), (46, .invokevirtual 284), (49, .aload_n 0), (50, .aload_n 0), (51, .iload_n 1), (52, .invokevirtual 295), (55, .invokevirtual 288), (58, .iload 4), (60, .bipush (-4)), (62, .if_icmp .eq 12), (65, .aload_n 0), (66, .getfield 206), (69, .lload_n 2), (70, .lcmp), (71, .ifCond .le 7), (74, .iconst 1), (75, .goto 4), (78, .iconst 0), (79, .istore 6), (81, .iload 6), (83, .ifCond .eq 8), (86, .iload 5), (88, .goto 5), (91, .iload 4), (93, .istore 4), (95, .iload 6), (97, .ifCond .eq 10), (100, .aload_n 0), (101, .getfield 206), (104, .goto 4), (107, .lload_n 2), (108, .lstore_n 2), (109, .iinc 5 1), (112, .goto (-82)), (115, .iload 4), (117, .ireturn)]
def mMo_kind : pm_MI := (6, ⟨"WheelTicketsModel", "kind", "(I)I"⟩, prog_8_method_66_code, 7, (Option.some Jvm.ClassFile.FieldType.int), tmMo_kind, 5, 115)
set_option maxRecDepth 20000 in
theorem ok_mMo_kind : pm_ok mMo_kind := pm_mkok (by decide +kernel) (pm_in (List.mem_of_getElem? (i := 1172) (by decide +kernel)) (by decide +kernel))
def tmMo_buy : List (Nat × Instr) := [(0, .aload_n 0), (1, .iload_n 1), (2, .invokevirtual 242), (5, .ifCond .ne 5), (8, .iconst (-1)), (9, .ireturn), (10, .aload_n 0), (11, .bipush (-4)), (13, .iconst 0), (14, .invokevirtual 284), (17, .aload_n 0), (18, .iload_n 1), (19, .invokevirtual 288), (22, .aload_n 0), (23, .getfield 206), (26, .lstore_n 2), (27, .bipush (-4)), (29, .istore 4), (31, .iconst 0), (32, .istore 5), (34, .iload 5), (36, .aload_n 0), (37, .getfield 78), (40, .if_icmp .ge 72), (43, .aload_n 0), (44, .iload 5), (46, .invokevirtual 259), (49, .ifCond .ne 57), (52, .aload_n 0), (53, .iconst 4), (54, .iconst 5), (55, .iload 5), (57, .imul), (58, .iadd), (59, .iconst 1), (60, .iadd), (61, .iload_n 1), (62, .invokevirtual 284), (65, .aload_n 0), (66, .iload_n 1), (67, .invokevirtual 288), (70, .aload_n 0), (71, .getfield 206), (74, .lload_n 2), (75, .lcmp), (76, .ifCond .le 8), (79, .iload 5), (81, .goto 5), (84, .iload 4), (86, .istore 4), (88, .aload_n 0), (89, .getfield 206), (92, .lload_n 2), (93, .lcmp), (94, .ifCond .le 10), (97, .aload_n 0), (98, .getfield 206), (101, .goto 4), (104, .lload_n 2), (105, .lstore_n 2), (106, .iinc 5 1), (109, .goto (-75)), (112, .iload 4), (114, .ireturn)]
def mMo_buy : pm_MI := (6, ⟨"WheelTicketsModel", "buy", "(I)I"⟩, prog_8_method_67_code, 6, (Option.some Jvm.ClassFile.FieldType.int), tmMo_buy, 5, 115)
set_option maxRecDepth 20000 in
theorem ok_mMo_buy : pm_ok mMo_buy := pm_mkok (by decide +kernel) (pm_in (List.mem_of_getElem? (i := 1176) (by decide +kernel)) (by decide +kernel))
def tmMo_cap : List (Nat × Instr) := [(0, .aload_n 0), (1, .iload_n 1), (2, .invokevirtual 247), (5, .ifCond .eq 23), (8, .aload_n 0), (9, .iload_n 2), (10, .invokevirtual 242), (13, .ifCond .eq 15), (16, .iload_n 3), (17, .i2l), (18, .lconst 0), (19, .ldc2_w 293), (22, .invokestatic 83), (25, .ifCond .ne 5), (28, .iconst (-1)), (29, .ireturn), (30, .aload_n 0), (31, .getfield 7), (34, .bipush 28), (36, .iload_n 1), (37, .iadd), (38, .iaload), (39, .bipush (-4)), (41, .if_icmp .eq 6), (44, .bipush (-2)), (46, .ireturn), (47, .bipush 99), (49, .istore 4), (51, .iload 4), (53, .ifCond .lt 35), (56, .aload_n 0), (57, .bipush 24), (59, .iload_n 1), (60, .iadd), (61, .iload 4), (63, .invokevirtual 284), (66, .aload_n 0), (67, .iload_n 2), (68, .invokevirtual 288), (71, .aload_n 0), (72, .getfield 215), (75, .iload_n 3), (76, .if_icmp .gt 6), (79, .iload 4), (81, .ireturn), (82, .iinc 4 (-1)), (85, .goto (-34)), (88, .bipush (-4)), (90, .ireturn)]
def mMo_cap : pm_MI := (6, ⟨"WheelTicketsModel", "cap", "(III)I"⟩, prog_8_method_68_code, 5, (Option.some Jvm.ClassFile.FieldType.int), tmMo_cap, 5, 115)
set_option maxRecDepth 20000 in
theorem ok_mMo_cap : pm_ok mMo_cap := pm_mkok (by decide +kernel) (pm_in (List.mem_of_getElem? (i := 1180) (by decide +kernel)) (by decide +kernel))
def tmMo_see : List (Nat × Instr) := [(0, .aload_n 0), (1, .iload_n 1), (2, .invokevirtual 242), (5, .ifCond .eq 17), (8, .iload_n 2), (9, .i2l), (10, .ldc2_w 291), (13, .ldc2_w 293), (16, .invokestatic 83), (19, .ifCond .ne 5), (22, .iconst (-1)), (23, .ireturn), (24, .aload_n 0), (25, .getfield 7), (28, .bipush 32), (30, .iaload), (31, .bipush 6), (33, .if_icmp .ne 6), (36, .bipush (-3)), (38, .ireturn), (39, .aload_n 0), (40, .getfield 7), (43, .bipush 33), (45, .iconst 2), (46, .aload_n 0), (47, .getfield 7), (50, .bipush 32), (52, .iaload), (53, .imul), (54, .iadd), (55, .iload_n 1), (56, .iastore), (57, .aload_n 0), (58, .getfield 7), (61, .bipush 33), (63, .iconst 2), (64, .aload_n 0), (65, .getfield 7), (68, .bipush 32), (70, .iaload), (71, .imul), (72, .iadd), (73, .iconst 1), (74, .iadd), (75, .iload_n 2), (76, .iastore), (77, .aload_n 0), (78, .getfield 7), (81, .bipush 32), (83, .dup2), (84, .iaload), (85, .iconst 1), (86, .iadd), (87, .iastore), (88, .aload_n 0), (89, .getfield 7), (92, .bipush 32), (94, .iaload), (95, .ireturn)]
def mMo_see : pm_MI := (6, ⟨"WheelTicketsModel", "see", "(II)I"⟩, prog_8_method_69_code, 3, (Option.some Jvm.ClassFile.FieldType.int), tmMo_see, 2, 46)
set_option maxRecDepth 20000 in
theorem ok_mMo_see : pm_ok mMo_see := pm_mkok (by decide +kernel) (pm_in (List.mem_of_getElem? (i := 1184) (by decide +kernel)) (by decide +kernel))
def tmMo_forget : List (Nat × Instr) := [(0, .iload_n 1), (1, .i2l), (2, .lconst 0), (3, .aload_n 0), (4, .getfield 7), (7, .bipush 32), (9, .iaload), (10, .i2l), (11, .invokestatic 83), (14, .ifCond .eq 13), (17, .aload_n 0), (18, .bipush 32), (20, .iload_n 1), (21, .invokevirtual 262), (24, .goto 4), (27, .iconst (-1)), (28, .ireturn)]
def mMo_forget : pm_MI := (6, ⟨"WheelTicketsModel", "forget", "(I)I"⟩, prog_8_method_70_code, 2, (Option.some Jvm.ClassFile.FieldType.int), tmMo_forget, 1, 25)
set_option maxRecDepth 20000 in
theorem ok_mMo_forget : pm_ok mMo_forget := pm_mkok (by decide +kernel) (pm_in (List.mem_of_getElem? (i := 1188) (by decide +kernel)) (by decide +kernel))
def tmMo_isFit : List (Nat × Instr) := [(0, .iconst 1), (1, .istore_n 2), (2, .aload_n 0), (3, .invokevirtual 194), (6, .aload_n 0), (7, .iload_n 1), (8, .invokevirtual 227), (11, .iconst 0), (12, .istore_n 3), (13, .iload_n 3), (14, .aload_n 0), (15, .getfield 7), (18, .bipush 32), (20, .iaload), (21, .if_icmp .ge 51), (24, .iload_n 2), (25, .ifCond .eq 39), (28, .aload_n 0), (29, .getfield 13), (32, .aload_n 0), (33, .getfield 7), (36, .bipush 33), (38, .iconst 2), (39, .iload_n 3), (40, .imul), (41, .iadd), (42, .iaload), (43, .iaload), (44, .aload_n 0), (45, .getfield 7), (48, .bipush 33), (50, .iconst 2), (51, .iload_n 3), (52, .imul), (53, .iadd), (54, .iconst 1), (55, .iadd), (56, .iaload), (57, .if_icmp .ne 7), (60, .iconst 1), (61, .goto 4), (64, .iconst 0), (65, .istore_n 2), (66, .iinc 3 1), (69, .goto (-56)), (72, .iload_n 2), (73, .ireturn)]
def mMo_isFit : pm_MI := (6, ⟨"WheelTicketsModel", "isFit", "(I)Z"⟩, prog_8_method_71_code, 4, (Option.some Jvm.ClassFile.FieldType.boolean), tmMo_isFit, 4, 91)
set_option maxRecDepth 20000 in
theorem ok_mMo_isFit : pm_ok mMo_isFit := pm_mkok (by decide +kernel) (pm_in (List.mem_of_getElem? (i := 1196) (by decide +kernel)) (by decide +kernel))
def tmMo_fits : List (Nat × Instr) := [(0, .iload_n 1), (1, .ifCond .eq 16), (4, .aload_n 0), (5, .iload_n 1), (6, .bipush 10), (8, .isub), (9, .invokevirtual 247), (12, .ifCond .ne 5), (15, .iconst (-1)), (16, .ireturn), (17, .iload_n 1), (18, .ifCond .eq 32), (21, .aload_n 0), (22, .iload_n 1), (23, .bipush 10), (25, .isub), (26, .invokevirtual 259), (29, .ifCond .eq 21), (32, .iconst 1), (33, .aload_n 0), (34, .getfield 7), (37, .iconst 4), (38, .iconst 5), (39, .iload_n 1), (40, .bipush 10), (42, .isub), (43, .imul), (44, .iadd), (45, .iconst 4), (46, .iadd), (47, .iaload), (48, .ishl), (49, .ireturn), (50, .iconst 0), (51, .istore_n 2), (52, .iconst 0), (53, .istore_n 3), (54, .aload_n 0), (55, .invokevirtual 203), (58, .iconst 0), (59, .istore 4), (61, .iload 4), (63, .aload_n 0), (64, .invokevirtual 221), (67, .if_icmp .ge 43), (70, .aload_n 0), (71, .iload 4), (73, .invokevirtual 298), (76, .ifCond .eq 28), (79, .iinc 2 1), (82, .iload_n 3), (83, .iload_n 1), (84, .ifCond .ne 7), (87, .iconst 0), (88, .goto 14), (91, .iconst 1), (92, .aload_n 0), (93, .iload_n 1), (94, .bipush 10), (96, .isub), (97, .iconst 4), (98, .invokevirtual 169), (101, .ishl), (102, .ior), (103, .istore_n 3), (104, .iinc 4 1), (107, .goto (-46)), (110, .iload_n 1), (111, .ifCond .ne 7), (114, .iload_n 2), (115, .goto 4), (118, .iload_n 3), (119, .ireturn)]
def mMo_fits : pm_MI := (6, ⟨"WheelTicketsModel", "fits", "(I)I"⟩, prog_8_method_72_code, 5, (Option.some Jvm.ClassFile.FieldType.int), tmMo_fits, 5, 114)
set_option maxRecDepth 20000 in
theorem ok_mMo_fits : pm_ok mMo_fits := pm_mkok (by decide +kernel) (pm_in (List.mem_of_getElem? (i := 1192) (by decide +kernel)) (by decide +kernel))
def tmMo_ask : List (Nat × Instr) := [(0, .iload_n 1), (1, .invokestatic 252), (4, .ifCond .ne 5), (7, .iconst (-1)), (8, .ireturn), (9, .iconst 0), (10, .istore_n 2), (11, .bipush (-4)), (13, .istore_n 3), (14, .iconst 0), (15, .istore 4), (17, .iload 4), (19, .bipush 16), (21, .if_icmp .ge 17), (24, .aload_n 0), (25, .getfield 38), (28, .iload 4), (30, .iconst 0), (31, .iastore), (32, .iinc 4 1), (35, .goto (-18)), (38, .aload_n 0), (39, .invokevirtual 203), (42, .iconst 0), (43, .istore 4), (45, .iload 4), (47, .aload_n 0), (48, .invokevirtual 221), (51, .if_icmp .ge 60), (54, .aload_n 0), (55, .iload 4), (57, .invokevirtual 298), (60, .ifCond .eq 45), (63, .iinc 2 1), (66, .iconst 0), (67, .istore 5), (69, .iload 5), (71, .aload_n 0), (72, .getfield 78), (75, .if_icmp .ge 30), (78, .aload_n 0), (79, .getfield 38), (82, .iconst 4), (83, .iload 5), (85, .imul), (86, .aload_n 0), (87, .iload 5), (89, .iconst 4), (90, .invokevirtual 169), (93, .iadd), (94, .dup2), (95, .iaload), (96, .iconst 1), (97, .iadd), (98, .iastore), (99, .iinc 5 1), (102, .goto (-33)), (105, .iinc 4 1), (108, .goto (-63)), (111, .iconst 0), (112, .istore 4), (114, .iload 4), (116, .aload_n 0), (117, .getfield 78), (120, .if_icmp .ge 112), (123, .iconst 0), (124, .istore 5), (126, .iconst 0), (127, .istore 6), (129, .iload 6), (131, .aload_n 0), (132, .getfield 78), (135, .if_icmp .ge 45), (138, .aload_n 0), (139, .getfield 38), (142, .iconst 4), (143, .iload 4), (145, .imul), (146, .iload 6), (148, .iadd), (149, .iaload), (150, .iload 5), (152, .if_icmp .le 18), (155, .aload_n 0), (156, .getfield 38), (159, .iconst 4), (160, .iload 4), (162, .imul), (163, .iload 6), (165, .iadd), (166, .iaload), (167, .goto 5), (170, .iload 5), (172, .istore 5), (174, .iinc 6 1), (177, .goto (-48)), (180, .aload_n 0), (181, .iload 4), (183, .invokevirtual 259), (186, .ifCond .ne 13), (189, .iload 5), (191, .iload_n 2), (192, .if_icmp .ge 7), (195, .iconst 1), (196, .goto 4), (199, .iconst 0), (200, .istore 6), (202, .iload 6), (204, .ifCond .eq 8), (207, .iload 4), (209, .goto 4), (212, .iload_n 3), (213, .istore_n 3), (214, .iload 6), (216, .ifCond .eq 8), (219, .iload 5), (221, .goto 4), (224, .iload_n 2), (225, .istore_n 2), (226, .iinc 4 1), (229, .goto (-115)), (232, .iload_n 3), (233, .bipush (-4)), (235, .if_icmp .ne 8), (238, .bipush (-4)), (240, .goto 12), (243, .iload_n 1), (244, .ifCond .ne 7), (247, .iload_n 3), (248, .goto 4), (251, .iload_n 2), (252, .ireturn)]
def mMo_ask : pm_MI := (6, ⟨"WheelTicketsModel", "ask", "(I)I"⟩, prog_8_method_73_code, 7, (Option.some Jvm.ClassFile.FieldType.int), tmMo_ask, 5, 114)
set_option maxRecDepth 20000 in
theorem ok_mMo_ask : pm_ok mMo_ask := pm_mkok (by decide +kernel) (pm_in (List.mem_of_getElem? (i := 1200) (by decide +kernel)) (by decide +kernel))
def tmMo_atOf : List (Nat × Instr) := [(0, .iconst 0), (1, .istore_n 3), (2, .iconst 0), (3, .istore 4), (5, .iload 4), (7, .aload_n 0), (8, .getfield 78), (11, .if_icmp .ge 65), (14, .iload_n 1), (15, .ifCond .eq 12), (18, .aload_n 0), (19, .iload 4), (21, .invokevirtual 156), (24, .goto 23), (27, .aload_n 0), (28, .getfield 13), (31, .bipush 28), (33, .iload 4), (35, .iadd), (36, .iaload), (37, .bipush (-4)), (39, .if_icmp .ne 7), (42, .iconst 1), (43, .goto 4), (46, .iconst 0), (47, .istore 5), (49, .iload 5), (51, .ifCond .eq 11), (54, .iload_n 3), (55, .iload_n 2), (56, .if_icmp .ne 6), (59, .iload 4), (61, .ireturn), (62, .iload_n 3), (63, .iload 5), (65, .invokestatic 181), (68, .iadd), (69, .istore_n 3), (70, .iinc 4 1), (73, .goto (-68)), (76, .bipush (-4)), (78, .ireturn)]
def mMo_atOf : pm_MI := (6, ⟨"WheelTicketsModel", "atOf", "(ZI)I"⟩, prog_8_method_74_code, 6, (Option.some Jvm.ClassFile.FieldType.int), tmMo_atOf, 2, 43)
set_option maxRecDepth 20000 in
theorem ok_mMo_atOf : pm_ok mMo_atOf := pm_mkok (by decide +kernel) (pm_in (List.mem_of_getElem? (i := 1209) (by decide +kernel)) (by decide +kernel))
def tmMo_drift : List (Nat × Instr) := [(0, .aload_n 0), (1, .iload_n 2), (2, .invokevirtual 242), (5, .ifCond .ne 5), (8, .iconst (-1)), (9, .ireturn), (10, .iload_n 1), (11, .istore_n 3), (12, .aload_n 0), (13, .invokevirtual 185), (16, .aload_n 0), (17, .invokevirtual 194), (20, .aload_n 0), (21, .getfield 175), (24, .istore 4), (26, .iload 4), (28, .ifCond .le 77), (31, .iload_n 3), (32, .ldc_w 301), (35, .imul), (36, .sipush 12345), (39, .iadd), (40, .istore_n 3), (41, .aload_n 0), (42, .iconst 1), (43, .iload_n 3), (44, .bipush 16), (46, .ishr), (47, .sipush 32767), (50, .iand), (51, .iload 4), (53, .irem), (54, .invokevirtual 302), (57, .istore 5), (59, .iload_n 3), (60, .ldc_w 301), (63, .imul), (64, .sipush 12345), (67, .iadd), (68, .istore_n 3), (69, .aload_n 0), (70, .iconst 0), (71, .iload_n 3), (72, .bipush 16), (74, .ishr), (75, .sipush 32767), (78, .iand), (79, .iload 4), (81, .irem), (82, .invokevirtual 302), (85, .istore 6), (87, .aload_n 0), (88, .aload_n 0), (89, .getfield 78), (92, .iload 5), (94, .iload 6), (96, .invokevirtual 159), (99, .iinc 4 (-1)), (102, .goto (-76)), (105, .sipush 10000), (108, .aload_n 0), (109, .getfield 13), (112, .iload_n 2), (113, .iaload), (114, .iadd), (115, .ireturn)]
def mMo_drift : pm_MI := (6, ⟨"WheelTicketsModel", "drift", "(II)I"⟩, prog_8_method_75_code, 7, (Option.some Jvm.ClassFile.FieldType.int), tmMo_drift, 3, 69)
set_option maxRecDepth 20000 in
theorem ok_mMo_drift : pm_ok mMo_drift := pm_mkok (by decide +kernel) (pm_in (List.mem_of_getElem? (i := 1204) (by decide +kernel)) (by decide +kernel))
def tmMo_copies : List (Nat × Instr) := [(0, .iconst 0), (1, .istore_n 3), (2, .iload_n 3), (3, .bipush 45), (5, .if_icmp .ge 25), (8, .aload_n 0), (9, .getfield 7), (12, .iload_n 1), (13, .iload_n 3), (14, .iadd), (15, .aload_n 0), (16, .getfield 7), (19, .iload_n 2), (20, .iload_n 3), (21, .iadd), (22, .iaload), (23, .iastore), (24, .iinc 3 1), (27, .goto (-25)), (30, .return_)]
def mMo_copies : pm_MI := (6, ⟨"WheelTicketsModel", "copies", "(II)V"⟩, prog_8_method_76_code, 4, (Option.none : Option Jvm.ClassFile.FieldType), tmMo_copies, 0, 0)
set_option maxRecDepth 20000 in
theorem ok_mMo_copies : pm_ok mMo_copies := pm_mkok (by decide +kernel) (pm_in (List.mem_of_getElem? (i := 1217) (by decide +kernel)) (by decide +kernel))
def tmMo_keep : List (Nat × Instr) := [(0, .iload_n 1), (1, .i2l), (2, .lconst 0), (3, .lconst 1), (4, .invokestatic 83), (7, .ifCond .ne 5), (10, .iconst (-1)), (11, .ireturn), (12, .aload_n 0), (13, .getfield 16), (16, .iload_n 1), (17, .baload), (18, .invokestatic 181), (21, .istore_n 2), (22, .aload_n 0), (23, .getfield 16), (26, .iload_n 1), (27, .iconst 1), (28, .bastore), (29, .aload_n 0), (30, .bipush 45), (32, .iload_n 1), (33, .iconst 1), (34, .iadd), (35, .imul), (36, .iconst 0), (37, .invokevirtual 306), (40, .iload_n 2), (41, .ireturn)]
def mMo_keep : pm_MI := (6, ⟨"WheelTicketsModel", "keep", "(I)I"⟩, prog_8_method_77_code, 3, (Option.some Jvm.ClassFile.FieldType.int), tmMo_keep, 1, 25)
set_option maxRecDepth 20000 in
theorem ok_mMo_keep : pm_ok mMo_keep := pm_mkok (by decide +kernel) (pm_in (List.mem_of_getElem? (i := 1213) (by decide +kernel)) (by decide +kernel))
def tmMo_back : List (Nat × Instr) := [(0, .iload_n 1), (1, .i2l), (2, .lconst 0), (3, .lconst 1), (4, .invokestatic 83), (7, .ifCond .ne 5), (10, .iconst (-1)), (11, .ireturn), (12, .aload_n 0), (13, .getfield 16), (16, .iload_n 1), (17, .baload), (18, .ifCond .ne 6), (21, .bipush (-2)), (23, .ireturn), (24, .aload_n 0), (25, .iconst 0), (26, .bipush 45), (28, .iload_n 1), (29, .iconst 1), (30, .iadd), (31, .imul), (32, .invokevirtual 306), (35, .aload_n 0), (36, .invokevirtual 185), (39, .aload_n 0), (40, .getfield 78), (43, .aload_n 0), (44, .getfield 175), (47, .isub), (48, .ireturn)]
def mMo_back : pm_MI := (6, ⟨"WheelTicketsModel", "back", "(I)I"⟩, prog_8_method_78_code, 2, (Option.some Jvm.ClassFile.FieldType.int), tmMo_back, 1, 25)
set_option maxRecDepth 20000 in
theorem ok_mMo_back : pm_ok mMo_back := pm_mkok (by decide +kernel) (pm_in (List.mem_of_getElem? (i := 1221) (by decide +kernel)) (by decide +kernel))
def tmMo_isSheet : List (Nat × Instr) := [(0, .iload_n 0), (1, .i2l), (2, .lconst 0), (3, .ldc2_w 255), (6, .invokestatic 83), (9, .ifCond .eq 19), (12, .iload_n 1), (13, .i2l), (14, .lconst 0), (15, .ldc2_w 245), (18, .invokestatic 83), (21, .ifCond .eq 7), (24, .iconst 1), (25, .goto 4), (28, .iconst 0), (29, .ireturn)]
def mMo_isSheet : pm_MI := (6, ⟨"WheelTicketsModel", "isSheet", "(II)Z"⟩, prog_8_method_79_code, 2, (Option.some Jvm.ClassFile.FieldType.boolean), tmMo_isSheet, 1, 25)
set_option maxRecDepth 20000 in
theorem ok_mMo_isSheet : pm_ok mMo_isSheet := pm_mkok (by decide +kernel) (pm_in (List.mem_of_getElem? (i := 1228) (by decide +kernel)) (by decide +kernel))
def tmMo_sheet : List (Nat × Instr) := [(0, .iload_n 1), (1, .iload_n 2), (2, .invokestatic 309), (5, .ifCond .eq 9), (8, .iload_n 3), (9, .bipush 40), (11, .if_icmp .le 5), (14, .iconst (-1)), (15, .ireturn), (16, .iload_n 3), (17, .ifCond .ge 6), (20, .bipush (-14)), (22, .ireturn), (23, .aload_n 0), (24, .getfield 41), (27, .iload_n 1), (28, .iload_n 2), (29, .iastore), (30, .aload_n 0), (31, .getfield 44), (34, .iload_n 1), (35, .iload_n 3), (36, .iastore), (37, .iconst 0), (38, .istore 4), (40, .iload 4), (42, .bipush 40), (44, .if_icmp .ge 22), (47, .aload_n 0), (48, .getfield 47), (51, .bipush 40), (53, .iload_n 1), (54, .imul), (55, .iload 4), (57, .iadd), (58, .iconst 0), (59, .iastore), (60, .iinc 4 1), (63, .goto (-23)), (66, .iconst 1), (67, .ireturn)]
def mMo_sheet : pm_MI := (6, ⟨"WheelTicketsModel", "sheet", "(III)I"⟩, prog_8_method_80_code, 5, (Option.some Jvm.ClassFile.FieldType.int), tmMo_sheet, 2, 46)
set_option maxRecDepth 20000 in
theorem ok_mMo_sheet : pm_ok mMo_sheet := pm_mkok (by decide +kernel) (pm_in (List.mem_of_getElem? (i := 1225) (by decide +kernel)) (by decide +kernel))
def tmMo_lay : List (Nat × Instr) := [(0, .iload_n 1), (1, .iconst 0), (2, .invokestatic 309), (5, .ifCond .ne 5), (8, .iconst (-1)), (9, .ireturn), (10, .aload_n 0), (11, .getfield 41), (14, .iload_n 1), (15, .iaload), (16, .bipush (-4)), (18, .if_icmp .ne 6), (21, .bipush (-11)), (23, .ireturn), (24, .iload_n 2), (25, .i2l), (26, .lconst 0), (27, .aload_n 0), (28, .getfield 44), (31, .iload_n 1), (32, .iaload), (33, .iconst 1), (34, .isub), (35, .i2l), (36, .invokestatic 83), (39, .ifCond .ne 6), (42, .bipush (-12)), (44, .ireturn), (45, .aload_n 0), (46, .getfield 47), (49, .bipush 40), (51, .iload_n 1), (52, .imul), (53, .iload_n 2), (54, .iadd), (55, .aload_n 0), (56, .getfield 41), (59, .iload_n 1), (60, .iaload), (61, .ifCond .ne 8), (64, .iload_n 3), (65, .i2b), (66, .goto 19), (69, .aload_n 0), (70, .getfield 41), (73, .iload_n 1), (74, .iaload), (75, .iconst 1), (76, .if_icmp .ne 8), (79, .iload_n 3), (80, .i2s), (81, .goto 4), (84, .iload_n 3), (85, .iastore), (86, .iconst 1), (87, .ireturn)]
def mMo_lay : pm_MI := (6, ⟨"WheelTicketsModel", "lay", "(III)I"⟩, prog_8_method_81_code, 4, (Option.some Jvm.ClassFile.FieldType.int), tmMo_lay, 2, 46)
set_option maxRecDepth 20000 in
theorem ok_mMo_lay : pm_ok mMo_lay := pm_mkok (by decide +kernel) (pm_in (List.mem_of_getElem? (i := 1232) (by decide +kernel)) (by decide +kernel))
def tmMo_read : List (Nat × Instr) := [(0, .iload_n 1), (1, .iload_n 2), (2, .invokestatic 309), (5, .ifCond .eq 16), (8, .iload 4), (10, .i2l), (11, .lconst 0), (12, .ldc2_w 313), (15, .invokestatic 83), (18, .ifCond .ne 5), (21, .iconst (-1)), (22, .ireturn), (23, .iconst 0), (24, .istore 5), (26, .iload 5), (28, .bipush 45), (30, .if_icmp .ge 23), (33, .aload_n 0), (34, .getfield 50), (37, .iload 5), (39, .aload_n 0), (40, .getfield 7), (43, .iload 5), (45, .iaload), (46, .iastore), (47, .iinc 5 1), (50, .goto (-24)), (53, .iconst 0), (54, .istore 5), (56, .iconst 0), (57, .istore 6), (59, .iconst 0), (60, .istore 7), (62, .iload 7), (64, .iload 4), (66, .if_icmp .ge 184), (69, .iload 5), (71, .ifCond .ne 179), (74, .iconst 0), (75, .istore 8), (77, .iload 8), (79, .iconst 2), (80, .if_icmp .ge 84), (83, .iload 5), (85, .ifCond .ne 79), (88, .iload_n 3), (89, .i2l), (90, .iconst 2), (91, .iload 7), (93, .imul), (94, .i2l), (95, .ladd), (96, .iload 8), (98, .i2l), (99, .ladd), (100, .lstore 9), (102, .aload_n 0), (103, .getfield 41), (106, .iload_n 1), (107, .iaload), (108, .bipush (-4)), (110, .if_icmp .ne 7), (113, .iconst 1), (114, .goto 42), (117, .aload_n 0), (118, .getfield 41), (121, .iload_n 1), (122, .iaload), (123, .iload_n 2), (124, .if_icmp .eq 7), (127, .iconst 3), (128, .goto 28), (131, .lload 9), (133, .lconst 0), (134, .lcmp), (135, .ifCond .lt 16), (138, .lload 9), (140, .aload_n 0), (141, .getfield 44), (144, .iload_n 1), (145, .iaload), (146, .i2l), (147, .lcmp), (148, .ifCond .lt 7), (151, .iconst 2), (152, .goto 4), (155, .iconst 0), (156, .istore 5), (158, .iinc 8 1), (161, .goto (-84)), (164, .iload 5), (166, .ifCond .ne 78), (169, .bipush 40), (171, .iload_n 1), (172, .imul), (173, .iload_n 3), (174, .iadd), (175, .iconst 2), (176, .iload 7), (178, .imul), (179, .iadd), (180, .istore 8), (182, .aload_n 0), (183, .aload_n 0), (184, .getfield 47), (187, .iload 8), (189, .iaload), (190, .aload_n 0), (191, .getfield 47), (194, .iload 8), (196, .iconst 1), (197, .iadd), (198, .iaload), (199, .invokevirtual 315), (202, .ifCond .ge 39), (205, .iconst 0), (206, .istore 9), (208, .iload 9), (210, .bipush 45), (212, .if_icmp .ge 23), (215, .aload_n 0), (216, .getfield 7), (219, .iload 9), (221, .aload_n 0), (222, .getfield 50), (225, .iload 9), (227, .iaload), (228, .iastore), (229, .iinc 9 1), (232, .goto (-24)), (235, .bipush (-20)), (237, .iload 7), (239, .isub), (240, .ireturn), (241, .iinc 6 1), (244, .iinc 7 1), (247, .goto (-185)), (250, .aload_n 0), (251, .iload 5), (253, .putfield 318), (256, .iload 6), (258, .ireturn)]
def mMo_read : pm_MI := (6, ⟨"WheelTicketsModel", "read", "(IIII)I"⟩, prog_8_method_82_code, 11, (Option.some Jvm.ClassFile.FieldType.int), tmMo_read, 4, 91)
set_option maxRecDepth 20000 in
theorem ok_mMo_read : pm_ok mMo_read := pm_mkok (by decide +kernel) (pm_in (List.mem_of_getElem? (i := 1236) (by decide +kernel)) (by decide +kernel))
def tmMo_torn : List (Nat × Instr) := [(0, .aload_n 0), (1, .getfield 318), (4, .ireturn)]
def mMo_torn : pm_MI := (6, ⟨"WheelTicketsModel", "torn", "()I"⟩, prog_8_method_83_code, 1, (Option.some Jvm.ClassFile.FieldType.int), tmMo_torn, 0, 0)
set_option maxRecDepth 20000 in
theorem ok_mMo_torn : pm_ok mMo_torn := pm_mkok (by decide +kernel) (pm_in (List.mem_of_getElem? (i := 1242) (by decide +kernel)) (by decide +kernel))
def tmMo_count : List (Nat × Instr) := [(0, .iconst 0), (1, .istore_n 2), (2, .iconst 0), (3, .istore_n 3), (4, .iload_n 3), (5, .aload_n 0), (6, .getfield 75), (9, .if_icmp .ge 18), (12, .iload_n 2), (13, .aload_n 0), (14, .getfield 7), (17, .iload_n 3), (18, .iaload), (19, .iadd), (20, .istore_n 2), (21, .iinc 3 1), (24, .goto (-20)), (27, .iload_n 1), (28, .tableswitch 98 0 4 #[36, 42, 50, 70, 75]), (64, .sipush 10000), (67, .iload_n 2), (68, .iadd), (69, .ireturn), (70, .aload_n 0), (71, .getfield 7), (74, .bipush 32), (76, .iaload), (77, .ireturn), (78, .aload_n 0), (79, .getfield 16), (82, .iconst 0), (83, .baload), (84, .invokestatic 181), (87, .aload_n 0), (88, .getfield 16), (91, .iconst 1), (92, .baload), (93, .invokestatic 181), (96, .iadd), (97, .ireturn), (98, .aload_n 0), (99, .getfield 87), (102, .ireturn), (103, .aload_n 0), (104, .getfield 41), (107, .iconst 0), (108, .iaload), (109, .bipush (-4)), (111, .if_icmp .ne 8), (114, .bipush (-4)), (116, .goto 9), (119, .aload_n 0), (120, .getfield 44), (123, .iconst 0), (124, .iaload), (125, .ireturn), (126, .iconst (-1)), (127, .ireturn)]
def mMo_count : pm_MI := (6, ⟨"WheelTicketsModel", "count", "(I)I"⟩, prog_8_method_84_code, 4, (Option.some Jvm.ClassFile.FieldType.int), tmMo_count, 1, 20)
set_option maxRecDepth 20000 in
theorem ok_mMo_count : pm_ok mMo_count := pm_mkok (by decide +kernel) (pm_in (List.mem_of_getElem? (i := 1246) (by decide +kernel)) (by decide +kernel))
end
section
theorem pm_mkLV {o idx n : Nat} {mc : pm_MI} (h1 : Cond.methodLink (pm_RN o) idx mc.2.1 ∈ pm_gw) (h2 : Cond.instanceMethod mc.2.1 ∈ pm_gw) (h3 : Cond.selects mc.2.1.cls mc.2.1 mc.2.1 ∈ pm_gw) (h4 : Cond.initialized mc.2.1.cls ∈ pm_gw) (h5 : mc.2.1.cls ≠ "java/lang/invoke/MethodHandle" ∧ mc.2.1.cls ≠ "java/lang/invoke/VarHandle" ∧ (parseMethodDescriptor mc.2.1.desc).map (fun d => d.parameters.length) = some n) (h6 : mc.2.1.cls = pm_RN mc.1) (h7 : pm_ok mc) : pm_LV o idx mc n := ⟨⟨h1, h2, h3, h4⟩, h5, h6, h7⟩
theorem pm_mkLS {o idx n : Nat} {mc : pm_MI} (h1 : Cond.methodLink (pm_RN o) idx mc.2.1 ∈ pm_gw) (h2 : Cond.static mc.2.1 ∈ pm_gw) (h4 : Cond.initialized mc.2.1.cls ∈ pm_gw) (h5 : mc.2.1.cls ≠ "java/lang/invoke/MethodHandle" ∧ mc.2.1.cls ≠ "java/lang/invoke/VarHandle" ∧ (parseMethodDescriptor mc.2.1.desc).map (fun d => d.parameters.length) = some n) (h7 : pm_ok mc) : pm_LS o idx mc n := ⟨⟨h1, h2, h4⟩, h5, h7⟩
theorem pm_mkLN {o idx n : Nat} {mc : pm_MI} (h1 : Cond.methodLinkNest (pm_RN o) idx mc.2.1 "WheelTickets" ∈ pm_nw) (h2 : Cond.static mc.2.1 ∈ pm_gw) (h4 : Cond.initialized mc.2.1.cls ∈ pm_gw) (h5 : mc.2.1.cls ≠ "java/lang/invoke/MethodHandle" ∧ mc.2.1.cls ≠ "java/lang/invoke/VarHandle" ∧ (parseMethodDescriptor mc.2.1.desc).map (fun d => d.parameters.length) = some n) (h7 : pm_ok mc) : pm_LN o idx mc n := ⟨⟨h1, h2, h4⟩, h5, h7⟩
theorem i_mWt_within : Cond.initialized mWt_within.2.1.cls ∈ pm_gw := pm_in (List.mem_of_getElem? (i := 1) (by decide +kernel)) (by decide +kernel)
theorem n_mWt_within : Cond.static mWt_within.2.1 ∈ pm_gw := pm_in (List.mem_of_getElem? (i := 232) (by decide +kernel)) (by decide +kernel)
theorem p_mWt_within : mWt_within.2.1.cls ≠ "java/lang/invoke/MethodHandle" ∧ mWt_within.2.1.cls ≠ "java/lang/invoke/VarHandle" ∧ (parseMethodDescriptor mWt_within.2.1.desc).map (fun d => d.parameters.length) = some 3 := ⟨by decide +kernel, by decide +kernel, by decide +kernel⟩
theorem k5_59 : pm_LS 5 59 mWt_within 3 := pm_mkLS (pm_in (List.mem_of_getElem? (i := 231) (by decide +kernel)) (by decide +kernel)) n_mWt_within i_mWt_within p_mWt_within ok_mWt_within
theorem i_mTa_put : Cond.initialized mTa_put.2.1.cls ∈ pm_gw := pm_in (List.mem_of_getElem? (i := 4) (by decide +kernel)) (by decide +kernel)
theorem n_mTa_put : Cond.instanceMethod mTa_put.2.1 ∈ pm_gw := pm_in (List.mem_of_getElem? (i := 235) (by decide +kernel)) (by decide +kernel)
theorem s_mTa_put : Cond.selects mTa_put.2.1.cls mTa_put.2.1 mTa_put.2.1 ∈ pm_gw := pm_in (List.mem_of_getElem? (i := 236) (by decide +kernel)) (by decide +kernel)
theorem p_mTa_put : mTa_put.2.1.cls ≠ "java/lang/invoke/MethodHandle" ∧ mTa_put.2.1.cls ≠ "java/lang/invoke/VarHandle" ∧ (parseMethodDescriptor mTa_put.2.1.desc).map (fun d => d.parameters.length) = some 1 := ⟨by decide +kernel, by decide +kernel, by decide +kernel⟩
theorem k5_63 : pm_LV 5 63 mTa_put 1 := pm_mkLV (pm_in (List.mem_of_getElem? (i := 234) (by decide +kernel)) (by decide +kernel)) n_mTa_put s_mTa_put i_mTa_put p_mTa_put (by decide +kernel) ok_mTa_put
theorem i_mAr_fill : Cond.initialized mAr_fill.2.1.cls ∈ pm_gw := pm_in (List.mem_of_getElem? (i := 8) (by decide +kernel)) (by decide +kernel)
theorem n_mAr_fill : Cond.static mAr_fill.2.1 ∈ pm_gw := pm_in (List.mem_of_getElem? (i := 259) (by decide +kernel)) (by decide +kernel)
theorem p_mAr_fill : mAr_fill.2.1.cls ≠ "java/lang/invoke/MethodHandle" ∧ mAr_fill.2.1.cls ≠ "java/lang/invoke/VarHandle" ∧ (parseMethodDescriptor mAr_fill.2.1.desc).map (fun d => d.parameters.length) = some 2 := ⟨by decide +kernel, by decide +kernel, by decide +kernel⟩
theorem k4_43 : pm_LS 4 43 mAr_fill 2 := pm_mkLS (pm_in (List.mem_of_getElem? (i := 258) (by decide +kernel)) (by decide +kernel)) n_mAr_fill i_mAr_fill p_mAr_fill ok_mAr_fill
theorem i_mTa_passBlanks : Cond.initialized mTa_passBlanks.2.1.cls ∈ pm_gw := pm_in (List.mem_of_getElem? (i := 4) (by decide +kernel)) (by decide +kernel)
theorem n_mTa_passBlanks : Cond.instanceMethod mTa_passBlanks.2.1 ∈ pm_gw := pm_in (List.mem_of_getElem? (i := 271) (by decide +kernel)) (by decide +kernel)
theorem s_mTa_passBlanks : Cond.selects mTa_passBlanks.2.1.cls mTa_passBlanks.2.1 mTa_passBlanks.2.1 ∈ pm_gw := pm_ins (List.mem_of_getElem? (i := 1) (by decide +kernel)) (by decide +kernel)
theorem p_mTa_passBlanks : mTa_passBlanks.2.1.cls ≠ "java/lang/invoke/MethodHandle" ∧ mTa_passBlanks.2.1.cls ≠ "java/lang/invoke/VarHandle" ∧ (parseMethodDescriptor mTa_passBlanks.2.1.desc).map (fun d => d.parameters.length) = some 0 := ⟨by decide +kernel, by decide +kernel, by decide +kernel⟩
theorem k2_31 : pm_LV 2 31 mTa_passBlanks 0 := pm_mkLV (pm_in (List.mem_of_getElem? (i := 269) (by decide +kernel)) (by decide +kernel)) n_mTa_passBlanks s_mTa_passBlanks i_mTa_passBlanks p_mTa_passBlanks (by decide +kernel) ok_mTa_passBlanks
theorem i_mTa_passLetters : Cond.initialized mTa_passLetters.2.1.cls ∈ pm_gw := pm_in (List.mem_of_getElem? (i := 4) (by decide +kernel)) (by decide +kernel)
theorem n_mTa_passLetters : Cond.instanceMethod mTa_passLetters.2.1 ∈ pm_gw := pm_in (List.mem_of_getElem? (i := 275) (by decide +kernel)) (by decide +kernel)
theorem s_mTa_passLetters : Cond.selects mTa_passLetters.2.1.cls mTa_passLetters.2.1 mTa_passLetters.2.1 ∈ pm_gw := pm_ins (List.mem_of_getElem? (i := 2) (by decide +kernel)) (by decide +kernel)
theorem p_mTa_passLetters : mTa_passLetters.2.1.cls ≠ "java/lang/invoke/MethodHandle" ∧ mTa_passLetters.2.1.cls ≠ "java/lang/invoke/VarHandle" ∧ (parseMethodDescriptor mTa_passLetters.2.1.desc).map (fun d => d.parameters.length) = some 0 := ⟨by decide +kernel, by decide +kernel, by decide +kernel⟩
theorem k2_34 : pm_LV 2 34 mTa_passLetters 0 := pm_mkLV (pm_in (List.mem_of_getElem? (i := 273) (by decide +kernel)) (by decide +kernel)) n_mTa_passLetters s_mTa_passLetters i_mTa_passLetters p_mTa_passLetters (by decide +kernel) ok_mTa_passLetters
theorem i_mTa_numberToken : Cond.initialized mTa_numberToken.2.1.cls ∈ pm_gw := pm_in (List.mem_of_getElem? (i := 4) (by decide +kernel)) (by decide +kernel)
theorem n_mTa_numberToken : Cond.instanceMethod mTa_numberToken.2.1 ∈ pm_gw := pm_in (List.mem_of_getElem? (i := 279) (by decide +kernel)) (by decide +kernel)
theorem s_mTa_numberToken : Cond.selects mTa_numberToken.2.1.cls mTa_numberToken.2.1 mTa_numberToken.2.1 ∈ pm_gw := pm_ins (List.mem_of_getElem? (i := 3) (by decide +kernel)) (by decide +kernel)
theorem p_mTa_numberToken : mTa_numberToken.2.1.cls ≠ "java/lang/invoke/MethodHandle" ∧ mTa_numberToken.2.1.cls ≠ "java/lang/invoke/VarHandle" ∧ (parseMethodDescriptor mTa_numberToken.2.1.desc).map (fun d => d.parameters.length) = some 0 := ⟨by decide +kernel, by decide +kernel, by decide +kernel⟩
theorem k2_37 : pm_LV 2 37 mTa_numberToken 0 := pm_mkLV (pm_in (List.mem_of_getElem? (i := 277) (by decide +kernel)) (by decide +kernel)) n_mTa_numberToken s_mTa_numberToken i_mTa_numberToken p_mTa_numberToken (by decide +kernel) ok_mTa_numberToken
theorem i_mSt_coder : Cond.initialized mSt_coder.2.1.cls ∈ pm_gw := pm_in (List.mem_of_getElem? (i := 9) (by decide +kernel)) (by decide +kernel)
theorem n_mSt_coder : Cond.instanceMethod mSt_coder.2.1 ∈ pm_gw := pm_in (List.mem_of_getElem? (i := 307) (by decide +kernel)) (by decide +kernel)
theorem s_mSt_coder : Cond.selects mSt_coder.2.1.cls mSt_coder.2.1 mSt_coder.2.1 ∈ pm_gw := pm_in (List.mem_of_getElem? (i := 308) (by decide +kernel)) (by decide +kernel)
theorem p_mSt_coder : mSt_coder.2.1.cls ≠ "java/lang/invoke/MethodHandle" ∧ mSt_coder.2.1.cls ≠ "java/lang/invoke/VarHandle" ∧ (parseMethodDescriptor mSt_coder.2.1.desc).map (fun d => d.parameters.length) = some 0 := ⟨by decide +kernel, by decide +kernel, by decide +kernel⟩
theorem k8_335 : pm_LV 8 335 mSt_coder 0 := pm_mkLV (pm_in (List.mem_of_getElem? (i := 306) (by decide +kernel)) (by decide +kernel)) n_mSt_coder s_mSt_coder i_mSt_coder p_mSt_coder (by decide +kernel) ok_mSt_coder
theorem i_mPr_checkIndex : Cond.initialized mPr_checkIndex.2.1.cls ∈ pm_gw := pm_in (List.mem_of_getElem? (i := 11) (by decide +kernel)) (by decide +kernel)
theorem n_mPr_checkIndex : Cond.static mPr_checkIndex.2.1 ∈ pm_gw := pm_in (List.mem_of_getElem? (i := 329) (by decide +kernel)) (by decide +kernel)
theorem p_mPr_checkIndex : mPr_checkIndex.2.1.cls ≠ "java/lang/invoke/MethodHandle" ∧ mPr_checkIndex.2.1.cls ≠ "java/lang/invoke/VarHandle" ∧ (parseMethodDescriptor mPr_checkIndex.2.1.desc).map (fun d => d.parameters.length) = some 3 := ⟨by decide +kernel, by decide +kernel, by decide +kernel⟩
theorem k8_1059 : pm_LS 8 1059 mPr_checkIndex 3 := pm_mkLS (pm_in (List.mem_of_getElem? (i := 328) (by decide +kernel)) (by decide +kernel)) n_mPr_checkIndex i_mPr_checkIndex p_mPr_checkIndex ok_mPr_checkIndex
theorem i_mSt_checkIndex : Cond.initialized mSt_checkIndex.2.1.cls ∈ pm_gw := pm_in (List.mem_of_getElem? (i := 9) (by decide +kernel)) (by decide +kernel)
theorem n_mSt_checkIndex : Cond.static mSt_checkIndex.2.1 ∈ pm_gw := pm_in (List.mem_of_getElem? (i := 324) (by decide +kernel)) (by decide +kernel)
theorem p_mSt_checkIndex : mSt_checkIndex.2.1.cls ≠ "java/lang/invoke/MethodHandle" ∧ mSt_checkIndex.2.1.cls ≠ "java/lang/invoke/VarHandle" ∧ (parseMethodDescriptor mSt_checkIndex.2.1.desc).map (fun d => d.parameters.length) = some 2 := ⟨by decide +kernel, by decide +kernel, by decide +kernel⟩
theorem k9_9 : pm_LS 9 9 mSt_checkIndex 2 := pm_mkLS (pm_in (List.mem_of_getElem? (i := 323) (by decide +kernel)) (by decide +kernel)) n_mSt_checkIndex i_mSt_checkIndex p_mSt_checkIndex ok_mSt_checkIndex
theorem i_mSt_isLatin1 : Cond.initialized mSt_isLatin1.2.1.cls ∈ pm_gw := pm_in (List.mem_of_getElem? (i := 9) (by decide +kernel)) (by decide +kernel)
theorem n_mSt_isLatin1 : Cond.instanceMethod mSt_isLatin1.2.1 ∈ pm_gw := pm_in (List.mem_of_getElem? (i := 317) (by decide +kernel)) (by decide +kernel)
theorem s_mSt_isLatin1 : Cond.selects mSt_isLatin1.2.1.cls mSt_isLatin1.2.1 mSt_isLatin1.2.1 ∈ pm_gw := pm_in (List.mem_of_getElem? (i := 318) (by decide +kernel)) (by decide +kernel)
theorem p_mSt_isLatin1 : mSt_isLatin1.2.1.cls ≠ "java/lang/invoke/MethodHandle" ∧ mSt_isLatin1.2.1.cls ≠ "java/lang/invoke/VarHandle" ∧ (parseMethodDescriptor mSt_isLatin1.2.1.desc).map (fun d => d.parameters.length) = some 0 := ⟨by decide +kernel, by decide +kernel, by decide +kernel⟩
theorem k8_492 : pm_LV 8 492 mSt_isLatin1 0 := pm_mkLV (pm_in (List.mem_of_getElem? (i := 316) (by decide +kernel)) (by decide +kernel)) n_mSt_isLatin1 s_mSt_isLatin1 i_mSt_isLatin1 p_mSt_isLatin1 (by decide +kernel) ok_mSt_isLatin1
theorem i_mSl_charAt : Cond.initialized mSl_charAt.2.1.cls ∈ pm_gw := pm_in (List.mem_of_getElem? (i := 10) (by decide +kernel)) (by decide +kernel)
theorem n_mSl_charAt : Cond.static mSl_charAt.2.1 ∈ pm_gw := pm_in (List.mem_of_getElem? (i := 321) (by decide +kernel)) (by decide +kernel)
theorem p_mSl_charAt : mSl_charAt.2.1.cls ≠ "java/lang/invoke/MethodHandle" ∧ mSl_charAt.2.1.cls ≠ "java/lang/invoke/VarHandle" ∧ (parseMethodDescriptor mSl_charAt.2.1.desc).map (fun d => d.parameters.length) = some 2 := ⟨by decide +kernel, by decide +kernel, by decide +kernel⟩
theorem k8_495 : pm_LS 8 495 mSl_charAt 2 := pm_mkLS (pm_in (List.mem_of_getElem? (i := 320) (by decide +kernel)) (by decide +kernel)) n_mSl_charAt i_mSl_charAt p_mSl_charAt ok_mSl_charAt
theorem i_mSt_length : Cond.initialized mSt_length.2.1.cls ∈ pm_gw := pm_in (List.mem_of_getElem? (i := 9) (by decide +kernel)) (by decide +kernel)
theorem n_mSt_length : Cond.instanceMethod mSt_length.2.1 ∈ pm_gw := pm_in (List.mem_of_getElem? (i := 303) (by decide +kernel)) (by decide +kernel)
theorem s_mSt_length : Cond.selects mSt_length.2.1.cls mSt_length.2.1 mSt_length.2.1 ∈ pm_gw := pm_in (List.mem_of_getElem? (i := 304) (by decide +kernel)) (by decide +kernel)
theorem p_mSt_length : mSt_length.2.1.cls ≠ "java/lang/invoke/MethodHandle" ∧ mSt_length.2.1.cls ≠ "java/lang/invoke/VarHandle" ∧ (parseMethodDescriptor mSt_length.2.1.desc).map (fun d => d.parameters.length) = some 0 := ⟨by decide +kernel, by decide +kernel, by decide +kernel⟩
theorem k2_41 : pm_LV 2 41 mSt_length 0 := pm_mkLV (pm_in (List.mem_of_getElem? (i := 302) (by decide +kernel)) (by decide +kernel)) n_mSt_length s_mSt_length i_mSt_length p_mSt_length (by decide +kernel) ok_mSt_length
theorem i_mSt_charAt : Cond.initialized mSt_charAt.2.1.cls ∈ pm_gw := pm_in (List.mem_of_getElem? (i := 9) (by decide +kernel)) (by decide +kernel)
theorem n_mSt_charAt : Cond.instanceMethod mSt_charAt.2.1 ∈ pm_gw := pm_in (List.mem_of_getElem? (i := 313) (by decide +kernel)) (by decide +kernel)
theorem s_mSt_charAt : Cond.selects mSt_charAt.2.1.cls mSt_charAt.2.1 mSt_charAt.2.1 ∈ pm_gw := pm_in (List.mem_of_getElem? (i := 314) (by decide +kernel)) (by decide +kernel)
theorem p_mSt_charAt : mSt_charAt.2.1.cls ≠ "java/lang/invoke/MethodHandle" ∧ mSt_charAt.2.1.cls ≠ "java/lang/invoke/VarHandle" ∧ (parseMethodDescriptor mSt_charAt.2.1.desc).map (fun d => d.parameters.length) = some 1 := ⟨by decide +kernel, by decide +kernel, by decide +kernel⟩
theorem k2_45 : pm_LV 2 45 mSt_charAt 1 := pm_mkLV (pm_in (List.mem_of_getElem? (i := 312) (by decide +kernel)) (by decide +kernel)) n_mSt_charAt s_mSt_charAt i_mSt_charAt p_mSt_charAt (by decide +kernel) ok_mSt_charAt
theorem i_mTe_wordOf : Cond.initialized mTe_wordOf.2.1.cls ∈ pm_gw := pm_in (List.mem_of_getElem? (i := 5) (by decide +kernel)) (by decide +kernel)
theorem n_mTe_wordOf : Cond.static mTe_wordOf.2.1 ∈ pm_gw := pm_in (List.mem_of_getElem? (i := 289) (by decide +kernel)) (by decide +kernel)
theorem p_mTe_wordOf : mTe_wordOf.2.1.cls ≠ "java/lang/invoke/MethodHandle" ∧ mTe_wordOf.2.1.cls ≠ "java/lang/invoke/VarHandle" ∧ (parseMethodDescriptor mTe_wordOf.2.1.desc).map (fun d => d.parameters.length) = some 1 := ⟨by decide +kernel, by decide +kernel, by decide +kernel⟩
theorem k3_130 : pm_LS 3 130 mTe_wordOf 1 := pm_mkLS (pm_in (List.mem_of_getElem? (i := 288) (by decide +kernel)) (by decide +kernel)) n_mTe_wordOf i_mTe_wordOf p_mTe_wordOf ok_mTe_wordOf
theorem i_mTa_isWord : Cond.initialized mTa_isWord.2.1.cls ∈ pm_gw := pm_in (List.mem_of_getElem? (i := 4) (by decide +kernel)) (by decide +kernel)
theorem n_mTa_isWord : Cond.instanceMethod mTa_isWord.2.1 ∈ pm_gw := pm_in (List.mem_of_getElem? (i := 299) (by decide +kernel)) (by decide +kernel)
theorem s_mTa_isWord : Cond.selects mTa_isWord.2.1.cls mTa_isWord.2.1 mTa_isWord.2.1 ∈ pm_gw := pm_in (List.mem_of_getElem? (i := 300) (by decide +kernel)) (by decide +kernel)
theorem p_mTa_isWord : mTa_isWord.2.1.cls ≠ "java/lang/invoke/MethodHandle" ∧ mTa_isWord.2.1.cls ≠ "java/lang/invoke/VarHandle" ∧ (parseMethodDescriptor mTa_isWord.2.1.desc).map (fun d => d.parameters.length) = some 1 := ⟨by decide +kernel, by decide +kernel, by decide +kernel⟩
theorem k3_134 : pm_LV 3 134 mTa_isWord 1 := pm_mkLV (pm_in (List.mem_of_getElem? (i := 298) (by decide +kernel)) (by decide +kernel)) n_mTa_isWord s_mTa_isWord i_mTa_isWord p_mTa_isWord (by decide +kernel) ok_mTa_isWord
theorem i_mTa_step : Cond.initialized mTa_step.2.1.cls ∈ pm_gw := pm_in (List.mem_of_getElem? (i := 4) (by decide +kernel)) (by decide +kernel)
theorem n_mTa_step : Cond.instanceMethod mTa_step.2.1 ∈ pm_gw := pm_in (List.mem_of_getElem? (i := 266) (by decide +kernel)) (by decide +kernel)
theorem s_mTa_step : Cond.selects mTa_step.2.1.cls mTa_step.2.1 mTa_step.2.1 ∈ pm_gw := pm_in (List.mem_of_getElem? (i := 267) (by decide +kernel)) (by decide +kernel)
theorem p_mTa_step : mTa_step.2.1.cls ≠ "java/lang/invoke/MethodHandle" ∧ mTa_step.2.1.cls ≠ "java/lang/invoke/VarHandle" ∧ (parseMethodDescriptor mTa_step.2.1.desc).map (fun d => d.parameters.length) = some 0 := ⟨by decide +kernel, by decide +kernel, by decide +kernel⟩
theorem k3_55 : pm_LV 3 55 mTa_step 0 := pm_mkLV (pm_in (List.mem_of_getElem? (i := 265) (by decide +kernel)) (by decide +kernel)) n_mTa_step s_mTa_step i_mTa_step p_mTa_step (by decide +kernel) ok_mTa_step
theorem i_mTe_blame : Cond.initialized mTe_blame.2.1.cls ∈ pm_gw := pm_in (List.mem_of_getElem? (i := 5) (by decide +kernel)) (by decide +kernel)
theorem n_mTe_blame : Cond.instanceMethod mTe_blame.2.1 ∈ pm_gw := pm_in (List.mem_of_getElem? (i := 283) (by decide +kernel)) (by decide +kernel)
theorem s_mTe_blame : Cond.selects mTe_blame.2.1.cls mTe_blame.2.1 mTe_blame.2.1 ∈ pm_gw := pm_ins (List.mem_of_getElem? (i := 4) (by decide +kernel)) (by decide +kernel)
theorem p_mTe_blame : mTe_blame.2.1.cls ≠ "java/lang/invoke/MethodHandle" ∧ mTe_blame.2.1.cls ≠ "java/lang/invoke/VarHandle" ∧ (parseMethodDescriptor mTe_blame.2.1.desc).map (fun d => d.parameters.length) = some 2 := ⟨by decide +kernel, by decide +kernel, by decide +kernel⟩
theorem k3_64 : pm_LV 3 64 mTe_blame 2 := pm_mkLV (pm_in (List.mem_of_getElem? (i := 281) (by decide +kernel)) (by decide +kernel)) n_mTe_blame s_mTe_blame i_mTe_blame p_mTe_blame (by decide +kernel) ok_mTe_blame
theorem i_mTe_howManyNumbers : Cond.initialized mTe_howManyNumbers.2.1.cls ∈ pm_gw := pm_in (List.mem_of_getElem? (i := 5) (by decide +kernel)) (by decide +kernel)
theorem n_mTe_howManyNumbers : Cond.static mTe_howManyNumbers.2.1 ∈ pm_gw := pm_in (List.mem_of_getElem? (i := 359) (by decide +kernel)) (by decide +kernel)
theorem p_mTe_howManyNumbers : mTe_howManyNumbers.2.1.cls ≠ "java/lang/invoke/MethodHandle" ∧ mTe_howManyNumbers.2.1.cls ≠ "java/lang/invoke/VarHandle" ∧ (parseMethodDescriptor mTe_howManyNumbers.2.1.desc).map (fun d => d.parameters.length) = some 1 := ⟨by decide +kernel, by decide +kernel, by decide +kernel⟩
theorem k3_87 : pm_LS 3 87 mTe_howManyNumbers 1 := pm_mkLS (pm_in (List.mem_of_getElem? (i := 358) (by decide +kernel)) (by decide +kernel)) n_mTe_howManyNumbers i_mTe_howManyNumbers p_mTe_howManyNumbers ok_mTe_howManyNumbers
theorem i_mTe_take : Cond.initialized mTe_take.2.1.cls ∈ pm_gw := pm_in (List.mem_of_getElem? (i := 5) (by decide +kernel)) (by decide +kernel)
theorem n_mTe_take : Cond.instanceMethod mTe_take.2.1 ∈ pm_gw := pm_in (List.mem_of_getElem? (i := 363) (by decide +kernel)) (by decide +kernel)
theorem s_mTe_take : Cond.selects mTe_take.2.1.cls mTe_take.2.1 mTe_take.2.1 ∈ pm_gw := pm_ins (List.mem_of_getElem? (i := 7) (by decide +kernel)) (by decide +kernel)
theorem p_mTe_take : mTe_take.2.1.cls ≠ "java/lang/invoke/MethodHandle" ∧ mTe_take.2.1.cls ≠ "java/lang/invoke/VarHandle" ∧ (parseMethodDescriptor mTe_take.2.1.desc).map (fun d => d.parameters.length) = some 2 := ⟨by decide +kernel, by decide +kernel, by decide +kernel⟩
theorem k3_80 : pm_LV 3 80 mTe_take 2 := pm_mkLV (pm_in (List.mem_of_getElem? (i := 361) (by decide +kernel)) (by decide +kernel)) n_mTe_take s_mTe_take i_mTe_take p_mTe_take (by decide +kernel) ok_mTe_take
theorem i_mTe_boundOf : Cond.initialized mTe_boundOf.2.1.cls ∈ pm_gw := pm_in (List.mem_of_getElem? (i := 5) (by decide +kernel)) (by decide +kernel)
theorem n_mTe_boundOf : Cond.static mTe_boundOf.2.1 ∈ pm_gw := pm_in (List.mem_of_getElem? (i := 366) (by decide +kernel)) (by decide +kernel)
theorem p_mTe_boundOf : mTe_boundOf.2.1.cls ≠ "java/lang/invoke/MethodHandle" ∧ mTe_boundOf.2.1.cls ≠ "java/lang/invoke/VarHandle" ∧ (parseMethodDescriptor mTe_boundOf.2.1.desc).map (fun d => d.parameters.length) = some 2 := ⟨by decide +kernel, by decide +kernel, by decide +kernel⟩
theorem k3_94 : pm_LS 3 94 mTe_boundOf 2 := pm_mkLS (pm_in (List.mem_of_getElem? (i := 365) (by decide +kernel)) (by decide +kernel)) n_mTe_boundOf i_mTe_boundOf p_mTe_boundOf ok_mTe_boundOf
theorem i_mWh_setTrait : Cond.initialized mWh_setTrait.2.1.cls ∈ pm_gw := pm_in (List.mem_of_getElem? (i := 2) (by decide +kernel)) (by decide +kernel)
theorem n_mWh_setTrait : Cond.instanceMethod mWh_setTrait.2.1 ∈ pm_gw := pm_in (List.mem_of_getElem? (i := 382) (by decide +kernel)) (by decide +kernel)
theorem s_mWh_setTrait : Cond.selects mWh_setTrait.2.1.cls mWh_setTrait.2.1 mWh_setTrait.2.1 ∈ pm_gw := pm_in (List.mem_of_getElem? (i := 383) (by decide +kernel)) (by decide +kernel)
theorem p_mWh_setTrait : mWh_setTrait.2.1.cls ≠ "java/lang/invoke/MethodHandle" ∧ mWh_setTrait.2.1.cls ≠ "java/lang/invoke/VarHandle" ∧ (parseMethodDescriptor mWh_setTrait.2.1.desc).map (fun d => d.parameters.length) = some 3 := ⟨by decide +kernel, by decide +kernel, by decide +kernel⟩
theorem k4_55 : pm_LV 4 55 mWh_setTrait 3 := pm_mkLV (pm_in (List.mem_of_getElem? (i := 381) (by decide +kernel)) (by decide +kernel)) n_mWh_setTrait s_mWh_setTrait i_mWh_setTrait p_mWh_setTrait (by decide +kernel) ok_mWh_setTrait
theorem i_mWh_addPerson : Cond.initialized mWh_addPerson.2.1.cls ∈ pm_gw := pm_in (List.mem_of_getElem? (i := 2) (by decide +kernel)) (by decide +kernel)
theorem n_mWh_addPerson : Cond.instanceMethod mWh_addPerson.2.1 ∈ pm_gw := pm_in (List.mem_of_getElem? (i := 373) (by decide +kernel)) (by decide +kernel)
theorem s_mWh_addPerson : Cond.selects mWh_addPerson.2.1.cls mWh_addPerson.2.1 mWh_addPerson.2.1 ∈ pm_gw := pm_in (List.mem_of_getElem? (i := 374) (by decide +kernel)) (by decide +kernel)
theorem p_mWh_addPerson : mWh_addPerson.2.1.cls ≠ "java/lang/invoke/MethodHandle" ∧ mWh_addPerson.2.1.cls ≠ "java/lang/invoke/VarHandle" ∧ (parseMethodDescriptor mWh_addPerson.2.1.desc).map (fun d => d.parameters.length) = some 1 := ⟨by decide +kernel, by decide +kernel, by decide +kernel⟩
theorem k3_104 : pm_LV 3 104 mWh_addPerson 1 := pm_mkLV (pm_in (List.mem_of_getElem? (i := 372) (by decide +kernel)) (by decide +kernel)) n_mWh_addPerson s_mWh_addPerson i_mWh_addPerson p_mWh_addPerson (by decide +kernel) ok_mWh_addPerson
theorem k3_111 : pm_LN 3 111 mWt_within 3 := pm_mkLN (by decide +kernel) n_mWt_within i_mWt_within p_mWt_within ok_mWt_within
theorem i_mWh_addTicket : Cond.initialized mWh_addTicket.2.1.cls ∈ pm_gw := pm_in (List.mem_of_getElem? (i := 2) (by decide +kernel)) (by decide +kernel)
theorem n_mWh_addTicket : Cond.instanceMethod mWh_addTicket.2.1 ∈ pm_gw := pm_in (List.mem_of_getElem? (i := 378) (by decide +kernel)) (by decide +kernel)
theorem s_mWh_addTicket : Cond.selects mWh_addTicket.2.1.cls mWh_addTicket.2.1 mWh_addTicket.2.1 ∈ pm_gw := pm_in (List.mem_of_getElem? (i := 379) (by decide +kernel)) (by decide +kernel)
theorem p_mWh_addTicket : mWh_addTicket.2.1.cls ≠ "java/lang/invoke/MethodHandle" ∧ mWh_addTicket.2.1.cls ≠ "java/lang/invoke/VarHandle" ∧ (parseMethodDescriptor mWh_addTicket.2.1.desc).map (fun d => d.parameters.length) = some 4 := ⟨by decide +kernel, by decide +kernel, by decide +kernel⟩
theorem k3_115 : pm_LV 3 115 mWh_addTicket 4 := pm_mkLV (pm_in (List.mem_of_getElem? (i := 377) (by decide +kernel)) (by decide +kernel)) n_mWh_addTicket s_mWh_addTicket i_mWh_addTicket p_mWh_addTicket (by decide +kernel) ok_mWh_addTicket
theorem i_mTe_lineOf : Cond.initialized mTe_lineOf.2.1.cls ∈ pm_gw := pm_in (List.mem_of_getElem? (i := 5) (by decide +kernel)) (by decide +kernel)
theorem n_mTe_lineOf : Cond.static mTe_lineOf.2.1 ∈ pm_gw := pm_in (List.mem_of_getElem? (i := 286) (by decide +kernel)) (by decide +kernel)
theorem p_mTe_lineOf : mTe_lineOf.2.1.cls ≠ "java/lang/invoke/MethodHandle" ∧ mTe_lineOf.2.1.cls ≠ "java/lang/invoke/VarHandle" ∧ (parseMethodDescriptor mTe_lineOf.2.1.desc).map (fun d => d.parameters.length) = some 1 := ⟨by decide +kernel, by decide +kernel, by decide +kernel⟩
theorem k3_68 : pm_LS 3 68 mTe_lineOf 1 := pm_mkLS (pm_in (List.mem_of_getElem? (i := 285) (by decide +kernel)) (by decide +kernel)) n_mTe_lineOf i_mTe_lineOf p_mTe_lineOf ok_mTe_lineOf
theorem i_mTe_toldAlready : Cond.initialized mTe_toldAlready.2.1.cls ∈ pm_gw := pm_in (List.mem_of_getElem? (i := 5) (by decide +kernel)) (by decide +kernel)
theorem n_mTe_toldAlready : Cond.instanceMethod mTe_toldAlready.2.1 ∈ pm_gw := pm_in (List.mem_of_getElem? (i := 352) (by decide +kernel)) (by decide +kernel)
theorem s_mTe_toldAlready : Cond.selects mTe_toldAlready.2.1.cls mTe_toldAlready.2.1 mTe_toldAlready.2.1 ∈ pm_gw := pm_ins (List.mem_of_getElem? (i := 5) (by decide +kernel)) (by decide +kernel)
theorem p_mTe_toldAlready : mTe_toldAlready.2.1.cls ≠ "java/lang/invoke/MethodHandle" ∧ mTe_toldAlready.2.1.cls ≠ "java/lang/invoke/VarHandle" ∧ (parseMethodDescriptor mTe_toldAlready.2.1.desc).map (fun d => d.parameters.length) = some 2 := ⟨by decide +kernel, by decide +kernel, by decide +kernel⟩
theorem k3_72 : pm_LV 3 72 mTe_toldAlready 2 := pm_mkLV (pm_in (List.mem_of_getElem? (i := 350) (by decide +kernel)) (by decide +kernel)) n_mTe_toldAlready s_mTe_toldAlready i_mTe_toldAlready p_mTe_toldAlready (by decide +kernel) ok_mTe_toldAlready
theorem i_mTe_takeNumbers : Cond.initialized mTe_takeNumbers.2.1.cls ∈ pm_gw := pm_in (List.mem_of_getElem? (i := 5) (by decide +kernel)) (by decide +kernel)
theorem n_mTe_takeNumbers : Cond.instanceMethod mTe_takeNumbers.2.1 ∈ pm_gw := pm_in (List.mem_of_getElem? (i := 356) (by decide +kernel)) (by decide +kernel)
theorem s_mTe_takeNumbers : Cond.selects mTe_takeNumbers.2.1.cls mTe_takeNumbers.2.1 mTe_takeNumbers.2.1 ∈ pm_gw := pm_ins (List.mem_of_getElem? (i := 6) (by decide +kernel)) (by decide +kernel)
theorem p_mTe_takeNumbers : mTe_takeNumbers.2.1.cls ≠ "java/lang/invoke/MethodHandle" ∧ mTe_takeNumbers.2.1.cls ≠ "java/lang/invoke/VarHandle" ∧ (parseMethodDescriptor mTe_takeNumbers.2.1.desc).map (fun d => d.parameters.length) = some 2 := ⟨by decide +kernel, by decide +kernel, by decide +kernel⟩
theorem k3_76 : pm_LV 3 76 mTe_takeNumbers 2 := pm_mkLV (pm_in (List.mem_of_getElem? (i := 354) (by decide +kernel)) (by decide +kernel)) n_mTe_takeNumbers s_mTe_takeNumbers i_mTe_takeNumbers p_mTe_takeNumbers (by decide +kernel) ok_mTe_takeNumbers
theorem i_mTe_put : Cond.initialized mTe_put.2.1.cls ∈ pm_gw := pm_in (List.mem_of_getElem? (i := 5) (by decide +kernel)) (by decide +kernel)
theorem n_mTe_put : Cond.instanceMethod mTe_put.2.1 ∈ pm_gw := pm_in (List.mem_of_getElem? (i := 370) (by decide +kernel)) (by decide +kernel)
theorem s_mTe_put : Cond.selects mTe_put.2.1.cls mTe_put.2.1 mTe_put.2.1 ∈ pm_gw := pm_ins (List.mem_of_getElem? (i := 8) (by decide +kernel)) (by decide +kernel)
theorem p_mTe_put : mTe_put.2.1.cls ≠ "java/lang/invoke/MethodHandle" ∧ mTe_put.2.1.cls ≠ "java/lang/invoke/VarHandle" ∧ (parseMethodDescriptor mTe_put.2.1.desc).map (fun d => d.parameters.length) = some 2 := ⟨by decide +kernel, by decide +kernel, by decide +kernel⟩
theorem k3_83 : pm_LV 3 83 mTe_put 2 := pm_mkLV (pm_in (List.mem_of_getElem? (i := 368) (by decide +kernel)) (by decide +kernel)) n_mTe_put s_mTe_put i_mTe_put p_mTe_put (by decide +kernel) ok_mTe_put
theorem i_mWh_trait : Cond.initialized mWh_trait.2.1.cls ∈ pm_gw := pm_in (List.mem_of_getElem? (i := 2) (by decide +kernel)) (by decide +kernel)
theorem n_mWh_trait : Cond.instanceMethod mWh_trait.2.1 ∈ pm_gw := pm_in (List.mem_of_getElem? (i := 394) (by decide +kernel)) (by decide +kernel)
theorem s_mWh_trait : Cond.selects mWh_trait.2.1.cls mWh_trait.2.1 mWh_trait.2.1 ∈ pm_gw := pm_in (List.mem_of_getElem? (i := 395) (by decide +kernel)) (by decide +kernel)
theorem p_mWh_trait : mWh_trait.2.1.cls ≠ "java/lang/invoke/MethodHandle" ∧ mWh_trait.2.1.cls ≠ "java/lang/invoke/VarHandle" ∧ (parseMethodDescriptor mWh_trait.2.1.desc).map (fun d => d.parameters.length) = some 2 := ⟨by decide +kernel, by decide +kernel, by decide +kernel⟩
theorem k4_73 : pm_LV 4 73 mWh_trait 2 := pm_mkLV (pm_in (List.mem_of_getElem? (i := 393) (by decide +kernel)) (by decide +kernel)) n_mWh_trait s_mWh_trait i_mWh_trait p_mWh_trait (by decide +kernel) ok_mWh_trait
theorem i_mWh_hasPerson : Cond.initialized mWh_hasPerson.2.1.cls ∈ pm_gw := pm_in (List.mem_of_getElem? (i := 2) (by decide +kernel)) (by decide +kernel)
theorem n_mWh_hasPerson : Cond.instanceMethod mWh_hasPerson.2.1 ∈ pm_gw := pm_in (List.mem_of_getElem? (i := 398) (by decide +kernel)) (by decide +kernel)
theorem s_mWh_hasPerson : Cond.selects mWh_hasPerson.2.1.cls mWh_hasPerson.2.1 mWh_hasPerson.2.1 ∈ pm_gw := pm_in (List.mem_of_getElem? (i := 399) (by decide +kernel)) (by decide +kernel)
theorem p_mWh_hasPerson : mWh_hasPerson.2.1.cls ≠ "java/lang/invoke/MethodHandle" ∧ mWh_hasPerson.2.1.cls ≠ "java/lang/invoke/VarHandle" ∧ (parseMethodDescriptor mWh_hasPerson.2.1.desc).map (fun d => d.parameters.length) = some 1 := ⟨by decide +kernel, by decide +kernel, by decide +kernel⟩
theorem k4_70 : pm_LV 4 70 mWh_hasPerson 1 := pm_mkLV (pm_in (List.mem_of_getElem? (i := 397) (by decide +kernel)) (by decide +kernel)) n_mWh_hasPerson s_mWh_hasPerson i_mWh_hasPerson p_mWh_hasPerson (by decide +kernel) ok_mWh_hasPerson
theorem i_mWh_hasTicket : Cond.initialized mWh_hasTicket.2.1.cls ∈ pm_gw := pm_in (List.mem_of_getElem? (i := 2) (by decide +kernel)) (by decide +kernel)
theorem n_mWh_hasTicket : Cond.instanceMethod mWh_hasTicket.2.1 ∈ pm_gw := pm_in (List.mem_of_getElem? (i := 406) (by decide +kernel)) (by decide +kernel)
theorem s_mWh_hasTicket : Cond.selects mWh_hasTicket.2.1.cls mWh_hasTicket.2.1 mWh_hasTicket.2.1 ∈ pm_gw := pm_in (List.mem_of_getElem? (i := 407) (by decide +kernel)) (by decide +kernel)
theorem p_mWh_hasTicket : mWh_hasTicket.2.1.cls ≠ "java/lang/invoke/MethodHandle" ∧ mWh_hasTicket.2.1.cls ≠ "java/lang/invoke/VarHandle" ∧ (parseMethodDescriptor mWh_hasTicket.2.1.desc).map (fun d => d.parameters.length) = some 1 := ⟨by decide +kernel, by decide +kernel, by decide +kernel⟩
theorem k4_59 : pm_LV 4 59 mWh_hasTicket 1 := pm_mkLV (pm_in (List.mem_of_getElem? (i := 405) (by decide +kernel)) (by decide +kernel)) n_mWh_hasTicket s_mWh_hasTicket i_mWh_hasTicket p_mWh_hasTicket (by decide +kernel) ok_mWh_hasTicket
theorem i_mWh_hasPrize : Cond.initialized mWh_hasPrize.2.1.cls ∈ pm_gw := pm_in (List.mem_of_getElem? (i := 2) (by decide +kernel)) (by decide +kernel)
theorem n_mWh_hasPrize : Cond.instanceMethod mWh_hasPrize.2.1 ∈ pm_gw := pm_in (List.mem_of_getElem? (i := 410) (by decide +kernel)) (by decide +kernel)
theorem s_mWh_hasPrize : Cond.selects mWh_hasPrize.2.1.cls mWh_hasPrize.2.1 mWh_hasPrize.2.1 ∈ pm_gw := pm_in (List.mem_of_getElem? (i := 411) (by decide +kernel)) (by decide +kernel)
theorem p_mWh_hasPrize : mWh_hasPrize.2.1.cls ≠ "java/lang/invoke/MethodHandle" ∧ mWh_hasPrize.2.1.cls ≠ "java/lang/invoke/VarHandle" ∧ (parseMethodDescriptor mWh_hasPrize.2.1.desc).map (fun d => d.parameters.length) = some 1 := ⟨by decide +kernel, by decide +kernel, by decide +kernel⟩
theorem k4_63 : pm_LV 4 63 mWh_hasPrize 1 := pm_mkLV (pm_in (List.mem_of_getElem? (i := 409) (by decide +kernel)) (by decide +kernel)) n_mWh_hasPrize s_mWh_hasPrize i_mWh_hasPrize p_mWh_hasPrize (by decide +kernel) ok_mWh_hasPrize
theorem i_mWh_isTicketIn : Cond.initialized mWh_isTicketIn.2.1.cls ∈ pm_gw := pm_in (List.mem_of_getElem? (i := 2) (by decide +kernel)) (by decide +kernel)
theorem n_mWh_isTicketIn : Cond.instanceMethod mWh_isTicketIn.2.1 ∈ pm_gw := pm_in (List.mem_of_getElem? (i := 414) (by decide +kernel)) (by decide +kernel)
theorem s_mWh_isTicketIn : Cond.selects mWh_isTicketIn.2.1.cls mWh_isTicketIn.2.1 mWh_isTicketIn.2.1 ∈ pm_gw := pm_in (List.mem_of_getElem? (i := 415) (by decide +kernel)) (by decide +kernel)
theorem p_mWh_isTicketIn : mWh_isTicketIn.2.1.cls ≠ "java/lang/invoke/MethodHandle" ∧ mWh_isTicketIn.2.1.cls ≠ "java/lang/invoke/VarHandle" ∧ (parseMethodDescriptor mWh_isTicketIn.2.1.desc).map (fun d => d.parameters.length) = some 1 := ⟨by decide +kernel, by decide +kernel, by decide +kernel⟩
theorem k4_77 : pm_LV 4 77 mWh_isTicketIn 1 := pm_mkLV (pm_in (List.mem_of_getElem? (i := 413) (by decide +kernel)) (by decide +kernel)) n_mWh_isTicketIn s_mWh_isTicketIn i_mWh_isTicketIn p_mWh_isTicketIn (by decide +kernel) ok_mWh_isTicketIn
theorem i_mWh_isPrizeIn : Cond.initialized mWh_isPrizeIn.2.1.cls ∈ pm_gw := pm_in (List.mem_of_getElem? (i := 2) (by decide +kernel)) (by decide +kernel)
theorem n_mWh_isPrizeIn : Cond.instanceMethod mWh_isPrizeIn.2.1 ∈ pm_gw := pm_in (List.mem_of_getElem? (i := 418) (by decide +kernel)) (by decide +kernel)
theorem s_mWh_isPrizeIn : Cond.selects mWh_isPrizeIn.2.1.cls mWh_isPrizeIn.2.1 mWh_isPrizeIn.2.1 ∈ pm_gw := pm_in (List.mem_of_getElem? (i := 419) (by decide +kernel)) (by decide +kernel)
theorem p_mWh_isPrizeIn : mWh_isPrizeIn.2.1.cls ≠ "java/lang/invoke/MethodHandle" ∧ mWh_isPrizeIn.2.1.cls ≠ "java/lang/invoke/VarHandle" ∧ (parseMethodDescriptor mWh_isPrizeIn.2.1.desc).map (fun d => d.parameters.length) = some 1 := ⟨by decide +kernel, by decide +kernel, by decide +kernel⟩
theorem k4_80 : pm_LV 4 80 mWh_isPrizeIn 1 := pm_mkLV (pm_in (List.mem_of_getElem? (i := 417) (by decide +kernel)) (by decide +kernel)) n_mWh_isPrizeIn s_mWh_isPrizeIn i_mWh_isPrizeIn p_mWh_isPrizeIn (by decide +kernel) ok_mWh_isPrizeIn
theorem i_mWh_sharedOut : Cond.initialized mWh_sharedOut.2.1.cls ∈ pm_gw := pm_in (List.mem_of_getElem? (i := 2) (by decide +kernel)) (by decide +kernel)
theorem n_mWh_sharedOut : Cond.instanceMethod mWh_sharedOut.2.1 ∈ pm_gw := pm_in (List.mem_of_getElem? (i := 431) (by decide +kernel)) (by decide +kernel)
theorem s_mWh_sharedOut : Cond.selects mWh_sharedOut.2.1.cls mWh_sharedOut.2.1 mWh_sharedOut.2.1 ∈ pm_gw := pm_ins (List.mem_of_getElem? (i := 10) (by decide +kernel)) (by decide +kernel)
theorem p_mWh_sharedOut : mWh_sharedOut.2.1.cls ≠ "java/lang/invoke/MethodHandle" ∧ mWh_sharedOut.2.1.cls ≠ "java/lang/invoke/VarHandle" ∧ (parseMethodDescriptor mWh_sharedOut.2.1.desc).map (fun d => d.parameters.length) = some 4 := ⟨by decide +kernel, by decide +kernel, by decide +kernel⟩
theorem k4_100 : pm_LV 4 100 mWh_sharedOut 4 := pm_mkLV (pm_in (List.mem_of_getElem? (i := 429) (by decide +kernel)) (by decide +kernel)) n_mWh_sharedOut s_mWh_sharedOut i_mWh_sharedOut p_mWh_sharedOut (by decide +kernel) ok_mWh_sharedOut
theorem i_mWh_feeFor : Cond.initialized mWh_feeFor.2.1.cls ∈ pm_gw := pm_in (List.mem_of_getElem? (i := 2) (by decide +kernel)) (by decide +kernel)
theorem n_mWh_feeFor : Cond.instanceMethod mWh_feeFor.2.1 ∈ pm_gw := pm_in (List.mem_of_getElem? (i := 426) (by decide +kernel)) (by decide +kernel)
theorem s_mWh_feeFor : Cond.selects mWh_feeFor.2.1.cls mWh_feeFor.2.1 mWh_feeFor.2.1 ∈ pm_gw := pm_in (List.mem_of_getElem? (i := 427) (by decide +kernel)) (by decide +kernel)
theorem p_mWh_feeFor : mWh_feeFor.2.1.cls ≠ "java/lang/invoke/MethodHandle" ∧ mWh_feeFor.2.1.cls ≠ "java/lang/invoke/VarHandle" ∧ (parseMethodDescriptor mWh_feeFor.2.1.desc).map (fun d => d.parameters.length) = some 2 := ⟨by decide +kernel, by decide +kernel, by decide +kernel⟩
theorem k4_93 : pm_LV 4 93 mWh_feeFor 2 := pm_mkLV (pm_in (List.mem_of_getElem? (i := 425) (by decide +kernel)) (by decide +kernel)) n_mWh_feeFor s_mWh_feeFor i_mWh_feeFor p_mWh_feeFor (by decide +kernel) ok_mWh_feeFor
theorem i_mWh_shareFor : Cond.initialized mWh_shareFor.2.1.cls ∈ pm_gw := pm_in (List.mem_of_getElem? (i := 2) (by decide +kernel)) (by decide +kernel)
theorem n_mWh_shareFor : Cond.instanceMethod mWh_shareFor.2.1 ∈ pm_gw := pm_in (List.mem_of_getElem? (i := 434) (by decide +kernel)) (by decide +kernel)
theorem s_mWh_shareFor : Cond.selects mWh_shareFor.2.1.cls mWh_shareFor.2.1 mWh_shareFor.2.1 ∈ pm_gw := pm_in (List.mem_of_getElem? (i := 435) (by decide +kernel)) (by decide +kernel)
theorem p_mWh_shareFor : mWh_shareFor.2.1.cls ≠ "java/lang/invoke/MethodHandle" ∧ mWh_shareFor.2.1.cls ≠ "java/lang/invoke/VarHandle" ∧ (parseMethodDescriptor mWh_shareFor.2.1.desc).map (fun d => d.parameters.length) = some 3 := ⟨by decide +kernel, by decide +kernel, by decide +kernel⟩
theorem k4_96 : pm_LV 4 96 mWh_shareFor 3 := pm_mkLV (pm_in (List.mem_of_getElem? (i := 433) (by decide +kernel)) (by decide +kernel)) n_mWh_shareFor s_mWh_shareFor i_mWh_shareFor p_mWh_shareFor (by decide +kernel) ok_mWh_shareFor
theorem i_mWh_lacksPeople : Cond.initialized mWh_lacksPeople.2.1.cls ∈ pm_gw := pm_in (List.mem_of_getElem? (i := 2) (by decide +kernel)) (by decide +kernel)
theorem n_mWh_lacksPeople : Cond.instanceMethod mWh_lacksPeople.2.1 ∈ pm_gw := pm_in (List.mem_of_getElem? (i := 390) (by decide +kernel)) (by decide +kernel)
theorem s_mWh_lacksPeople : Cond.selects mWh_lacksPeople.2.1.cls mWh_lacksPeople.2.1 mWh_lacksPeople.2.1 ∈ pm_gw := pm_in (List.mem_of_getElem? (i := 391) (by decide +kernel)) (by decide +kernel)
theorem p_mWh_lacksPeople : mWh_lacksPeople.2.1.cls ≠ "java/lang/invoke/MethodHandle" ∧ mWh_lacksPeople.2.1.cls ≠ "java/lang/invoke/VarHandle" ∧ (parseMethodDescriptor mWh_lacksPeople.2.1.desc).map (fun d => d.parameters.length) = some 0 := ⟨by decide +kernel, by decide +kernel, by decide +kernel⟩
theorem k3_119 : pm_LV 3 119 mWh_lacksPeople 0 := pm_mkLV (pm_in (List.mem_of_getElem? (i := 389) (by decide +kernel)) (by decide +kernel)) n_mWh_lacksPeople s_mWh_lacksPeople i_mWh_lacksPeople p_mWh_lacksPeople (by decide +kernel) ok_mWh_lacksPeople
theorem i_mWh_refusal : Cond.initialized mWh_refusal.2.1.cls ∈ pm_gw := pm_in (List.mem_of_getElem? (i := 2) (by decide +kernel)) (by decide +kernel)
theorem n_mWh_refusal : Cond.instanceMethod mWh_refusal.2.1 ∈ pm_gw := pm_in (List.mem_of_getElem? (i := 402) (by decide +kernel)) (by decide +kernel)
theorem s_mWh_refusal : Cond.selects mWh_refusal.2.1.cls mWh_refusal.2.1 mWh_refusal.2.1 ∈ pm_gw := pm_in (List.mem_of_getElem? (i := 403) (by decide +kernel)) (by decide +kernel)
theorem p_mWh_refusal : mWh_refusal.2.1.cls ≠ "java/lang/invoke/MethodHandle" ∧ mWh_refusal.2.1.cls ≠ "java/lang/invoke/VarHandle" ∧ (parseMethodDescriptor mWh_refusal.2.1.desc).map (fun d => d.parameters.length) = some 2 := ⟨by decide +kernel, by decide +kernel, by decide +kernel⟩
theorem k3_123 : pm_LV 3 123 mWh_refusal 2 := pm_mkLV (pm_in (List.mem_of_getElem? (i := 401) (by decide +kernel)) (by decide +kernel)) n_mWh_refusal s_mWh_refusal i_mWh_refusal p_mWh_refusal (by decide +kernel) ok_mWh_refusal
theorem i_mWh_pull : Cond.initialized mWh_pull.2.1.cls ∈ pm_gw := pm_in (List.mem_of_getElem? (i := 2) (by decide +kernel)) (by decide +kernel)
theorem n_mWh_pull : Cond.instanceMethod mWh_pull.2.1 ∈ pm_gw := pm_in (List.mem_of_getElem? (i := 422) (by decide +kernel)) (by decide +kernel)
theorem s_mWh_pull : Cond.selects mWh_pull.2.1.cls mWh_pull.2.1 mWh_pull.2.1 ∈ pm_gw := pm_in (List.mem_of_getElem? (i := 423) (by decide +kernel)) (by decide +kernel)
theorem p_mWh_pull : mWh_pull.2.1.cls ≠ "java/lang/invoke/MethodHandle" ∧ mWh_pull.2.1.cls ≠ "java/lang/invoke/VarHandle" ∧ (parseMethodDescriptor mWh_pull.2.1.desc).map (fun d => d.parameters.length) = some 2 := ⟨by decide +kernel, by decide +kernel, by decide +kernel⟩
theorem k3_126 : pm_LV 3 126 mWh_pull 2 := pm_mkLV (pm_in (List.mem_of_getElem? (i := 421) (by decide +kernel)) (by decide +kernel)) n_mWh_pull s_mWh_pull i_mWh_pull p_mWh_pull (by decide +kernel) ok_mWh_pull
theorem i_mTa_rewind : Cond.initialized mTa_rewind.2.1.cls ∈ pm_gw := pm_in (List.mem_of_getElem? (i := 4) (by decide +kernel)) (by decide +kernel)
theorem n_mTa_rewind : Cond.instanceMethod mTa_rewind.2.1 ∈ pm_gw := pm_in (List.mem_of_getElem? (i := 251) (by decide +kernel)) (by decide +kernel)
theorem s_mTa_rewind : Cond.selects mTa_rewind.2.1.cls mTa_rewind.2.1 mTa_rewind.2.1 ∈ pm_gw := pm_in (List.mem_of_getElem? (i := 252) (by decide +kernel)) (by decide +kernel)
theorem p_mTa_rewind : mTa_rewind.2.1.cls ≠ "java/lang/invoke/MethodHandle" ∧ mTa_rewind.2.1.cls ≠ "java/lang/invoke/VarHandle" ∧ (parseMethodDescriptor mTa_rewind.2.1.desc).map (fun d => d.parameters.length) = some 0 := ⟨by decide +kernel, by decide +kernel, by decide +kernel⟩
theorem k3_34 : pm_LV 3 34 mTa_rewind 0 := pm_mkLV (pm_in (List.mem_of_getElem? (i := 250) (by decide +kernel)) (by decide +kernel)) n_mTa_rewind s_mTa_rewind i_mTa_rewind p_mTa_rewind (by decide +kernel) ok_mTa_rewind
theorem i_mWh_clear : Cond.initialized mWh_clear.2.1.cls ∈ pm_gw := pm_in (List.mem_of_getElem? (i := 2) (by decide +kernel)) (by decide +kernel)
theorem n_mWh_clear : Cond.instanceMethod mWh_clear.2.1 ∈ pm_gw := pm_in (List.mem_of_getElem? (i := 255) (by decide +kernel)) (by decide +kernel)
theorem s_mWh_clear : Cond.selects mWh_clear.2.1.cls mWh_clear.2.1 mWh_clear.2.1 ∈ pm_gw := pm_in (List.mem_of_getElem? (i := 256) (by decide +kernel)) (by decide +kernel)
theorem p_mWh_clear : mWh_clear.2.1.cls ≠ "java/lang/invoke/MethodHandle" ∧ mWh_clear.2.1.cls ≠ "java/lang/invoke/VarHandle" ∧ (parseMethodDescriptor mWh_clear.2.1.desc).map (fun d => d.parameters.length) = some 0 := ⟨by decide +kernel, by decide +kernel, by decide +kernel⟩
theorem k3_39 : pm_LV 3 39 mWh_clear 0 := pm_mkLV (pm_in (List.mem_of_getElem? (i := 254) (by decide +kernel)) (by decide +kernel)) n_mWh_clear s_mWh_clear i_mWh_clear p_mWh_clear (by decide +kernel) ok_mWh_clear
theorem i_mTe_takeLine : Cond.initialized mTe_takeLine.2.1.cls ∈ pm_gw := pm_in (List.mem_of_getElem? (i := 5) (by decide +kernel)) (by decide +kernel)
theorem n_mTe_takeLine : Cond.instanceMethod mTe_takeLine.2.1 ∈ pm_gw := pm_in (List.mem_of_getElem? (i := 263) (by decide +kernel)) (by decide +kernel)
theorem s_mTe_takeLine : Cond.selects mTe_takeLine.2.1.cls mTe_takeLine.2.1 mTe_takeLine.2.1 ∈ pm_gw := pm_ins (List.mem_of_getElem? (i := 0) (by decide +kernel)) (by decide +kernel)
theorem p_mTe_takeLine : mTe_takeLine.2.1.cls ≠ "java/lang/invoke/MethodHandle" ∧ mTe_takeLine.2.1.cls ≠ "java/lang/invoke/VarHandle" ∧ (parseMethodDescriptor mTe_takeLine.2.1.desc).map (fun d => d.parameters.length) = some 2 := ⟨by decide +kernel, by decide +kernel, by decide +kernel⟩
theorem k3_44 : pm_LV 3 44 mTe_takeLine 2 := pm_mkLV (pm_in (List.mem_of_getElem? (i := 261) (by decide +kernel)) (by decide +kernel)) n_mTe_takeLine s_mTe_takeLine i_mTe_takeLine p_mTe_takeLine (by decide +kernel) ok_mTe_takeLine
theorem i_mTe_tellBehindAll : Cond.initialized mTe_tellBehindAll.2.1.cls ∈ pm_gw := pm_in (List.mem_of_getElem? (i := 5) (by decide +kernel)) (by decide +kernel)
theorem n_mTe_tellBehindAll : Cond.instanceMethod mTe_tellBehindAll.2.1 ∈ pm_gw := pm_in (List.mem_of_getElem? (i := 387) (by decide +kernel)) (by decide +kernel)
theorem s_mTe_tellBehindAll : Cond.selects mTe_tellBehindAll.2.1.cls mTe_tellBehindAll.2.1 mTe_tellBehindAll.2.1 ∈ pm_gw := pm_ins (List.mem_of_getElem? (i := 9) (by decide +kernel)) (by decide +kernel)
theorem p_mTe_tellBehindAll : mTe_tellBehindAll.2.1.cls ≠ "java/lang/invoke/MethodHandle" ∧ mTe_tellBehindAll.2.1.cls ≠ "java/lang/invoke/VarHandle" ∧ (parseMethodDescriptor mTe_tellBehindAll.2.1.desc).map (fun d => d.parameters.length) = some 2 := ⟨by decide +kernel, by decide +kernel, by decide +kernel⟩
theorem k3_51 : pm_LV 3 51 mTe_tellBehindAll 2 := pm_mkLV (pm_in (List.mem_of_getElem? (i := 385) (by decide +kernel)) (by decide +kernel)) n_mTe_tellBehindAll s_mTe_tellBehindAll i_mTe_tellBehindAll p_mTe_tellBehindAll (by decide +kernel) ok_mTe_tellBehindAll
theorem i_mTe_tell : Cond.initialized mTe_tell.2.1.cls ∈ pm_gw := pm_in (List.mem_of_getElem? (i := 5) (by decide +kernel)) (by decide +kernel)
theorem n_mTe_tell : Cond.instanceMethod mTe_tell.2.1 ∈ pm_gw := pm_in (List.mem_of_getElem? (i := 247) (by decide +kernel)) (by decide +kernel)
theorem s_mTe_tell : Cond.selects mTe_tell.2.1.cls mTe_tell.2.1 mTe_tell.2.1 ∈ pm_gw := pm_in (List.mem_of_getElem? (i := 248) (by decide +kernel)) (by decide +kernel)
theorem p_mTe_tell : mTe_tell.2.1.cls ≠ "java/lang/invoke/MethodHandle" ∧ mTe_tell.2.1.cls ≠ "java/lang/invoke/VarHandle" ∧ (parseMethodDescriptor mTe_tell.2.1.desc).map (fun d => d.parameters.length) = some 2 := ⟨by decide +kernel, by decide +kernel, by decide +kernel⟩
theorem k5_70 : pm_LV 5 70 mTe_tell 2 := pm_mkLV (pm_in (List.mem_of_getElem? (i := 246) (by decide +kernel)) (by decide +kernel)) n_mTe_tell s_mTe_tell i_mTe_tell p_mTe_tell (by decide +kernel) ok_mTe_tell
theorem i_mWh_copy : Cond.initialized mWh_copy.2.1.cls ∈ pm_gw := pm_in (List.mem_of_getElem? (i := 2) (by decide +kernel)) (by decide +kernel)
theorem n_mWh_copy : Cond.instanceMethod mWh_copy.2.1 ∈ pm_gw := pm_in (List.mem_of_getElem? (i := 438) (by decide +kernel)) (by decide +kernel)
theorem s_mWh_copy : Cond.selects mWh_copy.2.1.cls mWh_copy.2.1 mWh_copy.2.1 ∈ pm_gw := pm_in (List.mem_of_getElem? (i := 439) (by decide +kernel)) (by decide +kernel)
theorem p_mWh_copy : mWh_copy.2.1.cls ≠ "java/lang/invoke/MethodHandle" ∧ mWh_copy.2.1.cls ≠ "java/lang/invoke/VarHandle" ∧ (parseMethodDescriptor mWh_copy.2.1.desc).map (fun d => d.parameters.length) = some 1 := ⟨by decide +kernel, by decide +kernel, by decide +kernel⟩
theorem k5_77 : pm_LV 5 77 mWh_copy 1 := pm_mkLV (pm_in (List.mem_of_getElem? (i := 437) (by decide +kernel)) (by decide +kernel)) n_mWh_copy s_mWh_copy i_mWh_copy p_mWh_copy (by decide +kernel) ok_mWh_copy
theorem k5_81 : pm_LS 5 81 mAr_fill 2 := pm_mkLS (pm_in (List.mem_of_getElem? (i := 444) (by decide +kernel)) (by decide +kernel)) n_mAr_fill i_mAr_fill p_mAr_fill ok_mAr_fill
theorem i_mWh_ticketsIn : Cond.initialized mWh_ticketsIn.2.1.cls ∈ pm_gw := pm_in (List.mem_of_getElem? (i := 2) (by decide +kernel)) (by decide +kernel)
theorem n_mWh_ticketsIn : Cond.instanceMethod mWh_ticketsIn.2.1 ∈ pm_gw := pm_in (List.mem_of_getElem? (i := 458) (by decide +kernel)) (by decide +kernel)
theorem s_mWh_ticketsIn : Cond.selects mWh_ticketsIn.2.1.cls mWh_ticketsIn.2.1 mWh_ticketsIn.2.1 ∈ pm_gw := pm_in (List.mem_of_getElem? (i := 459) (by decide +kernel)) (by decide +kernel)
theorem p_mWh_ticketsIn : mWh_ticketsIn.2.1.cls ≠ "java/lang/invoke/MethodHandle" ∧ mWh_ticketsIn.2.1.cls ≠ "java/lang/invoke/VarHandle" ∧ (parseMethodDescriptor mWh_ticketsIn.2.1.desc).map (fun d => d.parameters.length) = some 0 := ⟨by decide +kernel, by decide +kernel, by decide +kernel⟩
theorem k4_83 : pm_LV 4 83 mWh_ticketsIn 0 := pm_mkLV (pm_in (List.mem_of_getElem? (i := 457) (by decide +kernel)) (by decide +kernel)) n_mWh_ticketsIn s_mWh_ticketsIn i_mWh_ticketsIn p_mWh_ticketsIn (by decide +kernel) ok_mWh_ticketsIn
theorem i_mIn_bitCount : Cond.initialized mIn_bitCount.2.1.cls ∈ pm_gw := pm_in (List.mem_of_getElem? (i := 14) (by decide +kernel)) (by decide +kernel)
theorem n_mIn_bitCount : Cond.static mIn_bitCount.2.1 ∈ pm_gw := pm_in (List.mem_of_getElem? (i := 462) (by decide +kernel)) (by decide +kernel)
theorem p_mIn_bitCount : mIn_bitCount.2.1.cls ≠ "java/lang/invoke/MethodHandle" ∧ mIn_bitCount.2.1.cls ≠ "java/lang/invoke/VarHandle" ∧ (parseMethodDescriptor mIn_bitCount.2.1.desc).map (fun d => d.parameters.length) = some 1 := ⟨by decide +kernel, by decide +kernel, by decide +kernel⟩
theorem k4_87 : pm_LS 4 87 mIn_bitCount 1 := pm_mkLS (pm_in (List.mem_of_getElem? (i := 461) (by decide +kernel)) (by decide +kernel)) n_mIn_bitCount i_mIn_bitCount p_mIn_bitCount ok_mIn_bitCount
theorem i_mWh_daysGone : Cond.initialized mWh_daysGone.2.1.cls ∈ pm_gw := pm_in (List.mem_of_getElem? (i := 2) (by decide +kernel)) (by decide +kernel)
theorem n_mWh_daysGone : Cond.instanceMethod mWh_daysGone.2.1 ∈ pm_gw := pm_in (List.mem_of_getElem? (i := 454) (by decide +kernel)) (by decide +kernel)
theorem s_mWh_daysGone : Cond.selects mWh_daysGone.2.1.cls mWh_daysGone.2.1 mWh_daysGone.2.1 ∈ pm_gw := pm_in (List.mem_of_getElem? (i := 455) (by decide +kernel)) (by decide +kernel)
theorem p_mWh_daysGone : mWh_daysGone.2.1.cls ≠ "java/lang/invoke/MethodHandle" ∧ mWh_daysGone.2.1.cls ≠ "java/lang/invoke/VarHandle" ∧ (parseMethodDescriptor mWh_daysGone.2.1.desc).map (fun d => d.parameters.length) = some 0 := ⟨by decide +kernel, by decide +kernel, by decide +kernel⟩
theorem k5_93 : pm_LV 5 93 mWh_daysGone 0 := pm_mkLV (pm_in (List.mem_of_getElem? (i := 453) (by decide +kernel)) (by decide +kernel)) n_mWh_daysGone s_mWh_daysGone i_mWh_daysGone p_mWh_daysGone (by decide +kernel) ok_mWh_daysGone
theorem k5_97 : pm_LV 5 97 mWh_ticketsIn 0 := pm_mkLV (pm_in (List.mem_of_getElem? (i := 467) (by decide +kernel)) (by decide +kernel)) n_mWh_ticketsIn s_mWh_ticketsIn i_mWh_ticketsIn p_mWh_ticketsIn (by decide +kernel) ok_mWh_ticketsIn
theorem i_mWh_prizesIn : Cond.initialized mWh_prizesIn.2.1.cls ∈ pm_gw := pm_in (List.mem_of_getElem? (i := 2) (by decide +kernel)) (by decide +kernel)
theorem n_mWh_prizesIn : Cond.instanceMethod mWh_prizesIn.2.1 ∈ pm_gw := pm_in (List.mem_of_getElem? (i := 469) (by decide +kernel)) (by decide +kernel)
theorem s_mWh_prizesIn : Cond.selects mWh_prizesIn.2.1.cls mWh_prizesIn.2.1 mWh_prizesIn.2.1 ∈ pm_gw := pm_in (List.mem_of_getElem? (i := 470) (by decide +kernel)) (by decide +kernel)
theorem p_mWh_prizesIn : mWh_prizesIn.2.1.cls ≠ "java/lang/invoke/MethodHandle" ∧ mWh_prizesIn.2.1.cls ≠ "java/lang/invoke/VarHandle" ∧ (parseMethodDescriptor mWh_prizesIn.2.1.desc).map (fun d => d.parameters.length) = some 0 := ⟨by decide +kernel, by decide +kernel, by decide +kernel⟩
theorem k5_100 : pm_LV 5 100 mWh_prizesIn 0 := pm_mkLV (pm_in (List.mem_of_getElem? (i := 468) (by decide +kernel)) (by decide +kernel)) n_mWh_prizesIn s_mWh_prizesIn i_mWh_prizesIn p_mWh_prizesIn (by decide +kernel) ok_mWh_prizesIn
theorem i_mWh_amountIn : Cond.initialized mWh_amountIn.2.1.cls ∈ pm_gw := pm_in (List.mem_of_getElem? (i := 2) (by decide +kernel)) (by decide +kernel)
theorem n_mWh_amountIn : Cond.instanceMethod mWh_amountIn.2.1 ∈ pm_gw := pm_in (List.mem_of_getElem? (i := 473) (by decide +kernel)) (by decide +kernel)
theorem s_mWh_amountIn : Cond.selects mWh_amountIn.2.1.cls mWh_amountIn.2.1 mWh_amountIn.2.1 ∈ pm_gw := pm_in (List.mem_of_getElem? (i := 474) (by decide +kernel)) (by decide +kernel)
theorem p_mWh_amountIn : mWh_amountIn.2.1.cls ≠ "java/lang/invoke/MethodHandle" ∧ mWh_amountIn.2.1.cls ≠ "java/lang/invoke/VarHandle" ∧ (parseMethodDescriptor mWh_amountIn.2.1.desc).map (fun d => d.parameters.length) = some 0 := ⟨by decide +kernel, by decide +kernel, by decide +kernel⟩
theorem k5_103 : pm_LV 5 103 mWh_amountIn 0 := pm_mkLV (pm_in (List.mem_of_getElem? (i := 472) (by decide +kernel)) (by decide +kernel)) n_mWh_amountIn s_mWh_amountIn i_mWh_amountIn p_mWh_amountIn (by decide +kernel) ok_mWh_amountIn
theorem k5_106 : pm_LV 5 106 mWh_hasPerson 1 := pm_mkLV (pm_in (List.mem_of_getElem? (i := 480) (by decide +kernel)) (by decide +kernel)) n_mWh_hasPerson s_mWh_hasPerson i_mWh_hasPerson p_mWh_hasPerson (by decide +kernel) ok_mWh_hasPerson
theorem i_mWh_ticketsWith : Cond.initialized mWh_ticketsWith.2.1.cls ∈ pm_gw := pm_in (List.mem_of_getElem? (i := 2) (by decide +kernel)) (by decide +kernel)
theorem n_mWh_ticketsWith : Cond.instanceMethod mWh_ticketsWith.2.1 ∈ pm_gw := pm_in (List.mem_of_getElem? (i := 482) (by decide +kernel)) (by decide +kernel)
theorem s_mWh_ticketsWith : Cond.selects mWh_ticketsWith.2.1.cls mWh_ticketsWith.2.1 mWh_ticketsWith.2.1 ∈ pm_gw := pm_in (List.mem_of_getElem? (i := 483) (by decide +kernel)) (by decide +kernel)
theorem p_mWh_ticketsWith : mWh_ticketsWith.2.1.cls ≠ "java/lang/invoke/MethodHandle" ∧ mWh_ticketsWith.2.1.cls ≠ "java/lang/invoke/VarHandle" ∧ (parseMethodDescriptor mWh_ticketsWith.2.1.desc).map (fun d => d.parameters.length) = some 2 := ⟨by decide +kernel, by decide +kernel, by decide +kernel⟩
theorem k5_112 : pm_LV 5 112 mWh_ticketsWith 2 := pm_mkLV (pm_in (List.mem_of_getElem? (i := 481) (by decide +kernel)) (by decide +kernel)) n_mWh_ticketsWith s_mWh_ticketsWith i_mWh_ticketsWith p_mWh_ticketsWith (by decide +kernel) ok_mWh_ticketsWith
theorem k5_116 : pm_LV 5 116 mWh_hasTicket 1 := pm_mkLV (pm_in (List.mem_of_getElem? (i := 489) (by decide +kernel)) (by decide +kernel)) n_mWh_hasTicket s_mWh_hasTicket i_mWh_hasTicket p_mWh_hasTicket (by decide +kernel) ok_mWh_hasTicket
theorem k5_119 : pm_LV 5 119 mWh_trait 2 := pm_mkLV (pm_in (List.mem_of_getElem? (i := 490) (by decide +kernel)) (by decide +kernel)) n_mWh_trait s_mWh_trait i_mWh_trait p_mWh_trait (by decide +kernel) ok_mWh_trait
theorem k5_125 : pm_LV 5 125 mWh_hasPrize 1 := pm_mkLV (pm_in (List.mem_of_getElem? (i := 495) (by decide +kernel)) (by decide +kernel)) n_mWh_hasPrize s_mWh_hasPrize i_mWh_hasPrize p_mWh_hasPrize (by decide +kernel) ok_mWh_hasPrize
theorem k4_66 : pm_LN 4 66 mWt_within 3 := pm_mkLN (by decide +kernel) n_mWt_within i_mWt_within p_mWt_within ok_mWt_within
theorem i_mWh_takesTrait : Cond.initialized mWh_takesTrait.2.1.cls ∈ pm_gw := pm_in (List.mem_of_getElem? (i := 2) (by decide +kernel)) (by decide +kernel)
theorem n_mWh_takesTrait : Cond.instanceMethod mWh_takesTrait.2.1 ∈ pm_gw := pm_in (List.mem_of_getElem? (i := 501) (by decide +kernel)) (by decide +kernel)
theorem s_mWh_takesTrait : Cond.selects mWh_takesTrait.2.1.cls mWh_takesTrait.2.1 mWh_takesTrait.2.1 ∈ pm_gw := pm_in (List.mem_of_getElem? (i := 502) (by decide +kernel)) (by decide +kernel)
theorem p_mWh_takesTrait : mWh_takesTrait.2.1.cls ≠ "java/lang/invoke/MethodHandle" ∧ mWh_takesTrait.2.1.cls ≠ "java/lang/invoke/VarHandle" ∧ (parseMethodDescriptor mWh_takesTrait.2.1.desc).map (fun d => d.parameters.length) = some 2 := ⟨by decide +kernel, by decide +kernel, by decide +kernel⟩
theorem k5_134 : pm_LV 5 134 mWh_takesTrait 2 := pm_mkLV (pm_in (List.mem_of_getElem? (i := 500) (by decide +kernel)) (by decide +kernel)) n_mWh_takesTrait s_mWh_takesTrait i_mWh_takesTrait p_mWh_takesTrait (by decide +kernel) ok_mWh_takesTrait
theorem k5_138 : pm_LV 5 138 mWh_isTicketIn 1 := pm_mkLV (pm_in (List.mem_of_getElem? (i := 505) (by decide +kernel)) (by decide +kernel)) n_mWh_isTicketIn s_mWh_isTicketIn i_mWh_isTicketIn p_mWh_isTicketIn (by decide +kernel) ok_mWh_isTicketIn
theorem k5_141 : pm_LV 5 141 mWh_setTrait 3 := pm_mkLV (pm_in (List.mem_of_getElem? (i := 506) (by decide +kernel)) (by decide +kernel)) n_mWh_setTrait s_mWh_setTrait i_mWh_setTrait p_mWh_setTrait (by decide +kernel) ok_mWh_setTrait
theorem k5_145 : pm_LV 5 145 mWh_isPrizeIn 1 := pm_mkLV (pm_in (List.mem_of_getElem? (i := 515) (by decide +kernel)) (by decide +kernel)) n_mWh_isPrizeIn s_mWh_isPrizeIn i_mWh_isPrizeIn p_mWh_isPrizeIn (by decide +kernel) ok_mWh_isPrizeIn
theorem k5_148 : pm_LV 5 148 mWh_refusal 2 := pm_mkLV (pm_in (List.mem_of_getElem? (i := 520) (by decide +kernel)) (by decide +kernel)) n_mWh_refusal s_mWh_refusal i_mWh_refusal p_mWh_refusal (by decide +kernel) ok_mWh_refusal
theorem k5_151 : pm_LV 5 151 mWh_pull 2 := pm_mkLV (pm_in (List.mem_of_getElem? (i := 521) (by decide +kernel)) (by decide +kernel)) n_mWh_pull s_mWh_pull i_mWh_pull p_mWh_pull (by decide +kernel) ok_mWh_pull
theorem i_mMa_abs : Cond.initialized mMa_abs.2.1.cls ∈ pm_gw := pm_in (List.mem_of_getElem? (i := 15) (by decide +kernel)) (by decide +kernel)
theorem n_mMa_abs : Cond.static mMa_abs.2.1 ∈ pm_gw := pm_in (List.mem_of_getElem? (i := 536) (by decide +kernel)) (by decide +kernel)
theorem p_mMa_abs : mMa_abs.2.1.cls ≠ "java/lang/invoke/MethodHandle" ∧ mMa_abs.2.1.cls ≠ "java/lang/invoke/VarHandle" ∧ (parseMethodDescriptor mMa_abs.2.1.desc).map (fun d => d.parameters.length) = some 1 := ⟨by decide +kernel, by decide +kernel, by decide +kernel⟩
theorem k5_275 : pm_LS 5 275 mMa_abs 1 := pm_mkLS (pm_in (List.mem_of_getElem? (i := 535) (by decide +kernel)) (by decide +kernel)) n_mMa_abs i_mMa_abs p_mMa_abs ok_mMa_abs
theorem i_mWt_commonDivisor : Cond.initialized mWt_commonDivisor.2.1.cls ∈ pm_gw := pm_in (List.mem_of_getElem? (i := 1) (by decide +kernel)) (by decide +kernel)
theorem n_mWt_commonDivisor : Cond.static mWt_commonDivisor.2.1 ∈ pm_gw := pm_in (List.mem_of_getElem? (i := 539) (by decide +kernel)) (by decide +kernel)
theorem p_mWt_commonDivisor : mWt_commonDivisor.2.1.cls ≠ "java/lang/invoke/MethodHandle" ∧ mWt_commonDivisor.2.1.cls ≠ "java/lang/invoke/VarHandle" ∧ (parseMethodDescriptor mWt_commonDivisor.2.1.desc).map (fun d => d.parameters.length) = some 2 := ⟨by decide +kernel, by decide +kernel, by decide +kernel⟩
theorem k5_280 : pm_LS 5 280 mWt_commonDivisor 2 := pm_mkLS (pm_in (List.mem_of_getElem? (i := 538) (by decide +kernel)) (by decide +kernel)) n_mWt_commonDivisor i_mWt_commonDivisor p_mWt_commonDivisor ok_mWt_commonDivisor
theorem i_mWt_isPart : Cond.initialized mWt_isPart.2.1.cls ∈ pm_gw := pm_in (List.mem_of_getElem? (i := 1) (by decide +kernel)) (by decide +kernel)
theorem n_mWt_isPart : Cond.static mWt_isPart.2.1 ∈ pm_gw := pm_in (List.mem_of_getElem? (i := 527) (by decide +kernel)) (by decide +kernel)
theorem p_mWt_isPart : mWt_isPart.2.1.cls ≠ "java/lang/invoke/MethodHandle" ∧ mWt_isPart.2.1.cls ≠ "java/lang/invoke/VarHandle" ∧ (parseMethodDescriptor mWt_isPart.2.1.desc).map (fun d => d.parameters.length) = some 1 := ⟨by decide +kernel, by decide +kernel, by decide +kernel⟩
theorem k5_155 : pm_LS 5 155 mWt_isPart 1 := pm_mkLS (pm_in (List.mem_of_getElem? (i := 526) (by decide +kernel)) (by decide +kernel)) n_mWt_isPart i_mWt_isPart p_mWt_isPart ok_mWt_isPart
theorem k5_160 : pm_LS 5 160 mIn_bitCount 1 := pm_mkLS (pm_in (List.mem_of_getElem? (i := 530) (by decide +kernel)) (by decide +kernel)) n_mIn_bitCount i_mIn_bitCount p_mIn_bitCount ok_mIn_bitCount
theorem i_mWt_part : Cond.initialized mWt_part.2.1.cls ∈ pm_gw := pm_in (List.mem_of_getElem? (i := 1) (by decide +kernel)) (by decide +kernel)
theorem n_mWt_part : Cond.static mWt_part.2.1 ∈ pm_gw := pm_in (List.mem_of_getElem? (i := 533) (by decide +kernel)) (by decide +kernel)
theorem p_mWt_part : mWt_part.2.1.cls ≠ "java/lang/invoke/MethodHandle" ∧ mWt_part.2.1.cls ≠ "java/lang/invoke/VarHandle" ∧ (parseMethodDescriptor mWt_part.2.1.desc).map (fun d => d.parameters.length) = some 3 := ⟨by decide +kernel, by decide +kernel, by decide +kernel⟩
theorem k5_168 : pm_LS 5 168 mWt_part 3 := pm_mkLS (pm_in (List.mem_of_getElem? (i := 532) (by decide +kernel)) (by decide +kernel)) n_mWt_part i_mWt_part p_mWt_part ok_mWt_part
theorem k0_46 : pm_LV 0 46 mWh_isTicketIn 1 := pm_mkLV (pm_in (List.mem_of_getElem? (i := 562) (by decide +kernel)) (by decide +kernel)) n_mWh_isTicketIn s_mWh_isTicketIn i_mWh_isTicketIn p_mWh_isTicketIn (by decide +kernel) ok_mWh_isTicketIn
theorem k0_52 : pm_LV 0 52 mWh_isPrizeIn 1 := pm_mkLV (pm_in (List.mem_of_getElem? (i := 563) (by decide +kernel)) (by decide +kernel)) n_mWh_isPrizeIn s_mWh_isPrizeIn i_mWh_isPrizeIn p_mWh_isPrizeIn (by decide +kernel) ok_mWh_isPrizeIn
theorem i_mRe_look : Cond.initialized mRe_look.2.1.cls ∈ pm_gw := pm_in (List.mem_of_getElem? (i := 3) (by decide +kernel)) (by decide +kernel)
theorem n_mRe_look : Cond.instanceMethod mRe_look.2.1 ∈ pm_gw := pm_in (List.mem_of_getElem? (i := 560) (by decide +kernel)) (by decide +kernel)
theorem s_mRe_look : Cond.selects mRe_look.2.1.cls mRe_look.2.1 mRe_look.2.1 ∈ pm_gw := pm_ins (List.mem_of_getElem? (i := 12) (by decide +kernel)) (by decide +kernel)
theorem p_mRe_look : mRe_look.2.1.cls ≠ "java/lang/invoke/MethodHandle" ∧ mRe_look.2.1.cls ≠ "java/lang/invoke/VarHandle" ∧ (parseMethodDescriptor mRe_look.2.1.desc).map (fun d => d.parameters.length) = some 1 := ⟨by decide +kernel, by decide +kernel, by decide +kernel⟩
theorem k0_55 : pm_LV 0 55 mRe_look 1 := pm_mkLV (pm_in (List.mem_of_getElem? (i := 558) (by decide +kernel)) (by decide +kernel)) n_mRe_look s_mRe_look i_mRe_look p_mRe_look (by decide +kernel) ok_mRe_look
theorem k0_59 : pm_LV 0 59 mWh_feeFor 2 := pm_mkLV (pm_in (List.mem_of_getElem? (i := 564) (by decide +kernel)) (by decide +kernel)) n_mWh_feeFor s_mWh_feeFor i_mWh_feeFor p_mWh_feeFor (by decide +kernel) ok_mWh_feeFor
theorem k0_66 : pm_LV 0 66 mWh_shareFor 3 := pm_mkLV (pm_in (List.mem_of_getElem? (i := 565) (by decide +kernel)) (by decide +kernel)) n_mWh_shareFor s_mWh_shareFor i_mWh_shareFor p_mWh_shareFor (by decide +kernel) ok_mWh_shareFor
theorem i_mRe_weigh : Cond.initialized mRe_weigh.2.1.cls ∈ pm_gw := pm_in (List.mem_of_getElem? (i := 3) (by decide +kernel)) (by decide +kernel)
theorem n_mRe_weigh : Cond.instanceMethod mRe_weigh.2.1 ∈ pm_gw := pm_in (List.mem_of_getElem? (i := 556) (by decide +kernel)) (by decide +kernel)
theorem s_mRe_weigh : Cond.selects mRe_weigh.2.1.cls mRe_weigh.2.1 mRe_weigh.2.1 ∈ pm_gw := pm_ins (List.mem_of_getElem? (i := 11) (by decide +kernel)) (by decide +kernel)
theorem p_mRe_weigh : mRe_weigh.2.1.cls ≠ "java/lang/invoke/MethodHandle" ∧ mRe_weigh.2.1.cls ≠ "java/lang/invoke/VarHandle" ∧ (parseMethodDescriptor mRe_weigh.2.1.desc).map (fun d => d.parameters.length) = some 2 := ⟨by decide +kernel, by decide +kernel, by decide +kernel⟩
theorem k0_70 : pm_LV 0 70 mRe_weigh 2 := pm_mkLV (pm_in (List.mem_of_getElem? (i := 554) (by decide +kernel)) (by decide +kernel)) n_mRe_weigh s_mRe_weigh i_mRe_weigh p_mRe_weigh (by decide +kernel) ok_mRe_weigh
theorem i_mRe_meanParts : Cond.initialized mRe_meanParts.2.1.cls ∈ pm_gw := pm_in (List.mem_of_getElem? (i := 3) (by decide +kernel)) (by decide +kernel)
theorem n_mRe_meanParts : Cond.instanceMethod mRe_meanParts.2.1 ∈ pm_gw := pm_in (List.mem_of_getElem? (i := 567) (by decide +kernel)) (by decide +kernel)
theorem s_mRe_meanParts : Cond.selects mRe_meanParts.2.1.cls mRe_meanParts.2.1 mRe_meanParts.2.1 ∈ pm_gw := pm_in (List.mem_of_getElem? (i := 568) (by decide +kernel)) (by decide +kernel)
theorem p_mRe_meanParts : mRe_meanParts.2.1.cls ≠ "java/lang/invoke/MethodHandle" ∧ mRe_meanParts.2.1.cls ≠ "java/lang/invoke/VarHandle" ∧ (parseMethodDescriptor mRe_meanParts.2.1.desc).map (fun d => d.parameters.length) = some 0 := ⟨by decide +kernel, by decide +kernel, by decide +kernel⟩
theorem k0_77 : pm_LV 0 77 mRe_meanParts 0 := pm_mkLV (pm_in (List.mem_of_getElem? (i := 566) (by decide +kernel)) (by decide +kernel)) n_mRe_meanParts s_mRe_meanParts i_mRe_meanParts p_mRe_meanParts (by decide +kernel) ok_mRe_meanParts
theorem i_mRe_meanSum : Cond.initialized mRe_meanSum.2.1.cls ∈ pm_gw := pm_in (List.mem_of_getElem? (i := 3) (by decide +kernel)) (by decide +kernel)
theorem n_mRe_meanSum : Cond.instanceMethod mRe_meanSum.2.1 ∈ pm_gw := pm_in (List.mem_of_getElem? (i := 551) (by decide +kernel)) (by decide +kernel)
theorem s_mRe_meanSum : Cond.selects mRe_meanSum.2.1.cls mRe_meanSum.2.1 mRe_meanSum.2.1 ∈ pm_gw := pm_in (List.mem_of_getElem? (i := 552) (by decide +kernel)) (by decide +kernel)
theorem p_mRe_meanSum : mRe_meanSum.2.1.cls ≠ "java/lang/invoke/MethodHandle" ∧ mRe_meanSum.2.1.cls ≠ "java/lang/invoke/VarHandle" ∧ (parseMethodDescriptor mRe_meanSum.2.1.desc).map (fun d => d.parameters.length) = some 2 := ⟨by decide +kernel, by decide +kernel, by decide +kernel⟩
theorem k5_174 : pm_LV 5 174 mRe_meanSum 2 := pm_mkLV (pm_in (List.mem_of_getElem? (i := 550) (by decide +kernel)) (by decide +kernel)) n_mRe_meanSum s_mRe_meanSum i_mRe_meanSum p_mRe_meanSum (by decide +kernel) ok_mRe_meanSum
theorem k5_178 : pm_LV 5 178 mRe_meanParts 0 := pm_mkLV (pm_in (List.mem_of_getElem? (i := 570) (by decide +kernel)) (by decide +kernel)) n_mRe_meanParts s_mRe_meanParts i_mRe_meanParts p_mRe_meanParts (by decide +kernel) ok_mRe_meanParts
theorem i_mRe_gain : Cond.initialized mRe_gain.2.1.cls ∈ pm_gw := pm_in (List.mem_of_getElem? (i := 3) (by decide +kernel)) (by decide +kernel)
theorem n_mRe_gain : Cond.instanceMethod mRe_gain.2.1 ∈ pm_gw := pm_in (List.mem_of_getElem? (i := 590) (by decide +kernel)) (by decide +kernel)
theorem s_mRe_gain : Cond.selects mRe_gain.2.1.cls mRe_gain.2.1 mRe_gain.2.1 ∈ pm_gw := pm_ins (List.mem_of_getElem? (i := 13) (by decide +kernel)) (by decide +kernel)
theorem p_mRe_gain : mRe_gain.2.1.cls ≠ "java/lang/invoke/MethodHandle" ∧ mRe_gain.2.1.cls ≠ "java/lang/invoke/VarHandle" ∧ (parseMethodDescriptor mRe_gain.2.1.desc).map (fun d => d.parameters.length) = some 3 := ⟨by decide +kernel, by decide +kernel, by decide +kernel⟩
theorem k0_90 : pm_LV 0 90 mRe_gain 3 := pm_mkLV (pm_in (List.mem_of_getElem? (i := 588) (by decide +kernel)) (by decide +kernel)) n_mRe_gain s_mRe_gain i_mRe_gain p_mRe_gain (by decide +kernel) ok_mRe_gain
theorem i_mWt_isEnd : Cond.initialized mWt_isEnd.2.1.cls ∈ pm_gw := pm_in (List.mem_of_getElem? (i := 1) (by decide +kernel)) (by decide +kernel)
theorem n_mWt_isEnd : Cond.static mWt_isEnd.2.1 ∈ pm_gw := pm_in (List.mem_of_getElem? (i := 576) (by decide +kernel)) (by decide +kernel)
theorem p_mWt_isEnd : mWt_isEnd.2.1.cls ≠ "java/lang/invoke/MethodHandle" ∧ mWt_isEnd.2.1.cls ≠ "java/lang/invoke/VarHandle" ∧ (parseMethodDescriptor mWt_isEnd.2.1.desc).map (fun d => d.parameters.length) = some 1 := ⟨by decide +kernel, by decide +kernel, by decide +kernel⟩
theorem k5_181 : pm_LS 5 181 mWt_isEnd 1 := pm_mkLS (pm_in (List.mem_of_getElem? (i := 575) (by decide +kernel)) (by decide +kernel)) n_mWt_isEnd i_mWt_isEnd p_mWt_isEnd ok_mWt_isEnd
theorem i_mRe_spread : Cond.initialized mRe_spread.2.1.cls ∈ pm_gw := pm_in (List.mem_of_getElem? (i := 3) (by decide +kernel)) (by decide +kernel)
theorem n_mRe_spread : Cond.instanceMethod mRe_spread.2.1 ∈ pm_gw := pm_in (List.mem_of_getElem? (i := 579) (by decide +kernel)) (by decide +kernel)
theorem s_mRe_spread : Cond.selects mRe_spread.2.1.cls mRe_spread.2.1 mRe_spread.2.1 ∈ pm_gw := pm_in (List.mem_of_getElem? (i := 580) (by decide +kernel)) (by decide +kernel)
theorem p_mRe_spread : mRe_spread.2.1.cls ≠ "java/lang/invoke/MethodHandle" ∧ mRe_spread.2.1.cls ≠ "java/lang/invoke/VarHandle" ∧ (parseMethodDescriptor mRe_spread.2.1.desc).map (fun d => d.parameters.length) = some 2 := ⟨by decide +kernel, by decide +kernel, by decide +kernel⟩
theorem k5_184 : pm_LV 5 184 mRe_spread 2 := pm_mkLV (pm_in (List.mem_of_getElem? (i := 578) (by decide +kernel)) (by decide +kernel)) n_mRe_spread s_mRe_spread i_mRe_spread p_mRe_spread (by decide +kernel) ok_mRe_spread
theorem i_mRe_waysNoLess : Cond.initialized mRe_waysNoLess.2.1.cls ∈ pm_gw := pm_in (List.mem_of_getElem? (i := 3) (by decide +kernel)) (by decide +kernel)
theorem n_mRe_waysNoLess : Cond.instanceMethod mRe_waysNoLess.2.1 ∈ pm_gw := pm_in (List.mem_of_getElem? (i := 585) (by decide +kernel)) (by decide +kernel)
theorem s_mRe_waysNoLess : Cond.selects mRe_waysNoLess.2.1.cls mRe_waysNoLess.2.1 mRe_waysNoLess.2.1 ∈ pm_gw := pm_in (List.mem_of_getElem? (i := 586) (by decide +kernel)) (by decide +kernel)
theorem p_mRe_waysNoLess : mRe_waysNoLess.2.1.cls ≠ "java/lang/invoke/MethodHandle" ∧ mRe_waysNoLess.2.1.cls ≠ "java/lang/invoke/VarHandle" ∧ (parseMethodDescriptor mRe_waysNoLess.2.1.desc).map (fun d => d.parameters.length) = some 2 := ⟨by decide +kernel, by decide +kernel, by decide +kernel⟩
theorem k5_188 : pm_LV 5 188 mRe_waysNoLess 2 := pm_mkLV (pm_in (List.mem_of_getElem? (i := 584) (by decide +kernel)) (by decide +kernel)) n_mRe_waysNoLess s_mRe_waysNoLess i_mRe_waysNoLess p_mRe_waysNoLess (by decide +kernel) ok_mRe_waysNoLess
theorem i_mRe_allWays : Cond.initialized mRe_allWays.2.1.cls ∈ pm_gw := pm_in (List.mem_of_getElem? (i := 3) (by decide +kernel)) (by decide +kernel)
theorem n_mRe_allWays : Cond.instanceMethod mRe_allWays.2.1 ∈ pm_gw := pm_in (List.mem_of_getElem? (i := 593) (by decide +kernel)) (by decide +kernel)
theorem s_mRe_allWays : Cond.selects mRe_allWays.2.1.cls mRe_allWays.2.1 mRe_allWays.2.1 ∈ pm_gw := pm_in (List.mem_of_getElem? (i := 594) (by decide +kernel)) (by decide +kernel)
theorem p_mRe_allWays : mRe_allWays.2.1.cls ≠ "java/lang/invoke/MethodHandle" ∧ mRe_allWays.2.1.cls ≠ "java/lang/invoke/VarHandle" ∧ (parseMethodDescriptor mRe_allWays.2.1.desc).map (fun d => d.parameters.length) = some 0 := ⟨by decide +kernel, by decide +kernel, by decide +kernel⟩
theorem k5_191 : pm_LV 5 191 mRe_allWays 0 := pm_mkLV (pm_in (List.mem_of_getElem? (i := 592) (by decide +kernel)) (by decide +kernel)) n_mRe_allWays s_mRe_allWays i_mRe_allWays p_mRe_allWays (by decide +kernel) ok_mRe_allWays
theorem k0_84 : pm_LV 0 84 mRe_spread 2 := pm_mkLV (pm_in (List.mem_of_getElem? (i := 604) (by decide +kernel)) (by decide +kernel)) n_mRe_spread s_mRe_spread i_mRe_spread p_mRe_spread (by decide +kernel) ok_mRe_spread
theorem i_mRe_isSolid : Cond.initialized mRe_isSolid.2.1.cls ∈ pm_gw := pm_in (List.mem_of_getElem? (i := 3) (by decide +kernel)) (by decide +kernel)
theorem n_mRe_isSolid : Cond.instanceMethod mRe_isSolid.2.1 ∈ pm_gw := pm_in (List.mem_of_getElem? (i := 611) (by decide +kernel)) (by decide +kernel)
theorem s_mRe_isSolid : Cond.selects mRe_isSolid.2.1.cls mRe_isSolid.2.1 mRe_isSolid.2.1 ∈ pm_gw := pm_ins (List.mem_of_getElem? (i := 14) (by decide +kernel)) (by decide +kernel)
theorem p_mRe_isSolid : mRe_isSolid.2.1.cls ≠ "java/lang/invoke/MethodHandle" ∧ mRe_isSolid.2.1.cls ≠ "java/lang/invoke/VarHandle" ∧ (parseMethodDescriptor mRe_isSolid.2.1.desc).map (fun d => d.parameters.length) = some 3 := ⟨by decide +kernel, by decide +kernel, by decide +kernel⟩
theorem k0_93 : pm_LV 0 93 mRe_isSolid 3 := pm_mkLV (pm_in (List.mem_of_getElem? (i := 609) (by decide +kernel)) (by decide +kernel)) n_mRe_isSolid s_mRe_isSolid i_mRe_isSolid p_mRe_isSolid (by decide +kernel) ok_mRe_isSolid
theorem i_mRe_spreadAll : Cond.initialized mRe_spreadAll.2.1.cls ∈ pm_gw := pm_in (List.mem_of_getElem? (i := 3) (by decide +kernel)) (by decide +kernel)
theorem n_mRe_spreadAll : Cond.instanceMethod mRe_spreadAll.2.1 ∈ pm_gw := pm_in (List.mem_of_getElem? (i := 601) (by decide +kernel)) (by decide +kernel)
theorem s_mRe_spreadAll : Cond.selects mRe_spreadAll.2.1.cls mRe_spreadAll.2.1 mRe_spreadAll.2.1 ∈ pm_gw := pm_in (List.mem_of_getElem? (i := 602) (by decide +kernel)) (by decide +kernel)
theorem p_mRe_spreadAll : mRe_spreadAll.2.1.cls ≠ "java/lang/invoke/MethodHandle" ∧ mRe_spreadAll.2.1.cls ≠ "java/lang/invoke/VarHandle" ∧ (parseMethodDescriptor mRe_spreadAll.2.1.desc).map (fun d => d.parameters.length) = some 1 := ⟨by decide +kernel, by decide +kernel, by decide +kernel⟩
theorem k5_194 : pm_LV 5 194 mRe_spreadAll 1 := pm_mkLV (pm_in (List.mem_of_getElem? (i := 600) (by decide +kernel)) (by decide +kernel)) n_mRe_spreadAll s_mRe_spreadAll i_mRe_spreadAll p_mRe_spreadAll (by decide +kernel) ok_mRe_spreadAll
theorem i_mRe_waysSolid : Cond.initialized mRe_waysSolid.2.1.cls ∈ pm_gw := pm_in (List.mem_of_getElem? (i := 3) (by decide +kernel)) (by decide +kernel)
theorem n_mRe_waysSolid : Cond.instanceMethod mRe_waysSolid.2.1 ∈ pm_gw := pm_in (List.mem_of_getElem? (i := 606) (by decide +kernel)) (by decide +kernel)
theorem s_mRe_waysSolid : Cond.selects mRe_waysSolid.2.1.cls mRe_waysSolid.2.1 mRe_waysSolid.2.1 ∈ pm_gw := pm_in (List.mem_of_getElem? (i := 607) (by decide +kernel)) (by decide +kernel)
theorem p_mRe_waysSolid : mRe_waysSolid.2.1.cls ≠ "java/lang/invoke/MethodHandle" ∧ mRe_waysSolid.2.1.cls ≠ "java/lang/invoke/VarHandle" ∧ (parseMethodDescriptor mRe_waysSolid.2.1.desc).map (fun d => d.parameters.length) = some 1 := ⟨by decide +kernel, by decide +kernel, by decide +kernel⟩
theorem k5_197 : pm_LV 5 197 mRe_waysSolid 1 := pm_mkLV (pm_in (List.mem_of_getElem? (i := 605) (by decide +kernel)) (by decide +kernel)) n_mRe_waysSolid s_mRe_waysSolid i_mRe_waysSolid p_mRe_waysSolid (by decide +kernel) ok_mRe_waysSolid
theorem i_mMa_min : Cond.initialized mMa_min.2.1.cls ∈ pm_gw := pm_in (List.mem_of_getElem? (i := 15) (by decide +kernel)) (by decide +kernel)
theorem n_mMa_min : Cond.static mMa_min.2.1 ∈ pm_gw := pm_in (List.mem_of_getElem? (i := 626) (by decide +kernel)) (by decide +kernel)
theorem p_mMa_min : mMa_min.2.1.cls ≠ "java/lang/invoke/MethodHandle" ∧ mMa_min.2.1.cls ≠ "java/lang/invoke/VarHandle" ∧ (parseMethodDescriptor mMa_min.2.1.desc).map (fun d => d.parameters.length) = some 2 := ⟨by decide +kernel, by decide +kernel, by decide +kernel⟩
theorem k0_104 : pm_LS 0 104 mMa_min 2 := pm_mkLS (pm_in (List.mem_of_getElem? (i := 625) (by decide +kernel)) (by decide +kernel)) n_mMa_min i_mMa_min p_mMa_min ok_mMa_min
theorem i_mRe_leastOf : Cond.initialized mRe_leastOf.2.1.cls ∈ pm_gw := pm_in (List.mem_of_getElem? (i := 3) (by decide +kernel)) (by decide +kernel)
theorem n_mRe_leastOf : Cond.instanceMethod mRe_leastOf.2.1 ∈ pm_gw := pm_in (List.mem_of_getElem? (i := 623) (by decide +kernel)) (by decide +kernel)
theorem s_mRe_leastOf : Cond.selects mRe_leastOf.2.1.cls mRe_leastOf.2.1 mRe_leastOf.2.1 ∈ pm_gw := pm_ins (List.mem_of_getElem? (i := 15) (by decide +kernel)) (by decide +kernel)
theorem p_mRe_leastOf : mRe_leastOf.2.1.cls ≠ "java/lang/invoke/MethodHandle" ∧ mRe_leastOf.2.1.cls ≠ "java/lang/invoke/VarHandle" ∧ (parseMethodDescriptor mRe_leastOf.2.1.desc).map (fun d => d.parameters.length) = some 2 := ⟨by decide +kernel, by decide +kernel, by decide +kernel⟩
theorem k0_97 : pm_LV 0 97 mRe_leastOf 2 := pm_mkLV (pm_in (List.mem_of_getElem? (i := 621) (by decide +kernel)) (by decide +kernel)) n_mRe_leastOf s_mRe_leastOf i_mRe_leastOf p_mRe_leastOf (by decide +kernel) ok_mRe_leastOf
theorem i_mMa_max : Cond.initialized mMa_max.2.1.cls ∈ pm_gw := pm_in (List.mem_of_getElem? (i := 15) (by decide +kernel)) (by decide +kernel)
theorem n_mMa_max : Cond.static mMa_max.2.1 ∈ pm_gw := pm_in (List.mem_of_getElem? (i := 637) (by decide +kernel)) (by decide +kernel)
theorem p_mMa_max : mMa_max.2.1.cls ≠ "java/lang/invoke/MethodHandle" ∧ mMa_max.2.1.cls ≠ "java/lang/invoke/VarHandle" ∧ (parseMethodDescriptor mMa_max.2.1.desc).map (fun d => d.parameters.length) = some 2 := ⟨by decide +kernel, by decide +kernel, by decide +kernel⟩
theorem k0_109 : pm_LS 0 109 mMa_max 2 := pm_mkLS (pm_in (List.mem_of_getElem? (i := 636) (by decide +kernel)) (by decide +kernel)) n_mMa_max i_mMa_max p_mMa_max ok_mMa_max
theorem i_mRe_mostOf : Cond.initialized mRe_mostOf.2.1.cls ∈ pm_gw := pm_in (List.mem_of_getElem? (i := 3) (by decide +kernel)) (by decide +kernel)
theorem n_mRe_mostOf : Cond.instanceMethod mRe_mostOf.2.1 ∈ pm_gw := pm_in (List.mem_of_getElem? (i := 634) (by decide +kernel)) (by decide +kernel)
theorem s_mRe_mostOf : Cond.selects mRe_mostOf.2.1.cls mRe_mostOf.2.1 mRe_mostOf.2.1 ∈ pm_gw := pm_ins (List.mem_of_getElem? (i := 16) (by decide +kernel)) (by decide +kernel)
theorem p_mRe_mostOf : mRe_mostOf.2.1.cls ≠ "java/lang/invoke/MethodHandle" ∧ mRe_mostOf.2.1.cls ≠ "java/lang/invoke/VarHandle" ∧ (parseMethodDescriptor mRe_mostOf.2.1.desc).map (fun d => d.parameters.length) = some 2 := ⟨by decide +kernel, by decide +kernel, by decide +kernel⟩
theorem k0_101 : pm_LV 0 101 mRe_mostOf 2 := pm_mkLV (pm_in (List.mem_of_getElem? (i := 632) (by decide +kernel)) (by decide +kernel)) n_mRe_mostOf s_mRe_mostOf i_mRe_mostOf p_mRe_mostOf (by decide +kernel) ok_mRe_mostOf
theorem i_mRe_mostByFees : Cond.initialized mRe_mostByFees.2.1.cls ∈ pm_gw := pm_in (List.mem_of_getElem? (i := 3) (by decide +kernel)) (by decide +kernel)
theorem n_mRe_mostByFees : Cond.instanceMethod mRe_mostByFees.2.1 ∈ pm_gw := pm_in (List.mem_of_getElem? (i := 644) (by decide +kernel)) (by decide +kernel)
theorem s_mRe_mostByFees : Cond.selects mRe_mostByFees.2.1.cls mRe_mostByFees.2.1 mRe_mostByFees.2.1 ∈ pm_gw := pm_in (List.mem_of_getElem? (i := 645) (by decide +kernel)) (by decide +kernel)
theorem p_mRe_mostByFees : mRe_mostByFees.2.1.cls ≠ "java/lang/invoke/MethodHandle" ∧ mRe_mostByFees.2.1.cls ≠ "java/lang/invoke/VarHandle" ∧ (parseMethodDescriptor mRe_mostByFees.2.1.desc).map (fun d => d.parameters.length) = some 1 := ⟨by decide +kernel, by decide +kernel, by decide +kernel⟩
theorem k0_112 : pm_LV 0 112 mRe_mostByFees 1 := pm_mkLV (pm_in (List.mem_of_getElem? (i := 643) (by decide +kernel)) (by decide +kernel)) n_mRe_mostByFees s_mRe_mostByFees i_mRe_mostByFees p_mRe_mostByFees (by decide +kernel) ok_mRe_mostByFees
theorem i_mRe_leastGain : Cond.initialized mRe_leastGain.2.1.cls ∈ pm_gw := pm_in (List.mem_of_getElem? (i := 3) (by decide +kernel)) (by decide +kernel)
theorem n_mRe_leastGain : Cond.instanceMethod mRe_leastGain.2.1 ∈ pm_gw := pm_in (List.mem_of_getElem? (i := 618) (by decide +kernel)) (by decide +kernel)
theorem s_mRe_leastGain : Cond.selects mRe_leastGain.2.1.cls mRe_leastGain.2.1 mRe_leastGain.2.1 ∈ pm_gw := pm_in (List.mem_of_getElem? (i := 619) (by decide +kernel)) (by decide +kernel)
theorem p_mRe_leastGain : mRe_leastGain.2.1.cls ≠ "java/lang/invoke/MethodHandle" ∧ mRe_leastGain.2.1.cls ≠ "java/lang/invoke/VarHandle" ∧ (parseMethodDescriptor mRe_leastGain.2.1.desc).map (fun d => d.parameters.length) = some 1 := ⟨by decide +kernel, by decide +kernel, by decide +kernel⟩
theorem k5_201 : pm_LV 5 201 mRe_leastGain 1 := pm_mkLV (pm_in (List.mem_of_getElem? (i := 617) (by decide +kernel)) (by decide +kernel)) n_mRe_leastGain s_mRe_leastGain i_mRe_leastGain p_mRe_leastGain (by decide +kernel) ok_mRe_leastGain
theorem i_mRe_mostGain : Cond.initialized mRe_mostGain.2.1.cls ∈ pm_gw := pm_in (List.mem_of_getElem? (i := 3) (by decide +kernel)) (by decide +kernel)
theorem n_mRe_mostGain : Cond.instanceMethod mRe_mostGain.2.1 ∈ pm_gw := pm_in (List.mem_of_getElem? (i := 629) (by decide +kernel)) (by decide +kernel)
theorem s_mRe_mostGain : Cond.selects mRe_mostGain.2.1.cls mRe_mostGain.2.1 mRe_mostGain.2.1 ∈ pm_gw := pm_in (List.mem_of_getElem? (i := 630) (by decide +kernel)) (by decide +kernel)
theorem p_mRe_mostGain : mRe_mostGain.2.1.cls ≠ "java/lang/invoke/MethodHandle" ∧ mRe_mostGain.2.1.cls ≠ "java/lang/invoke/VarHandle" ∧ (parseMethodDescriptor mRe_mostGain.2.1.desc).map (fun d => d.parameters.length) = some 1 := ⟨by decide +kernel, by decide +kernel, by decide +kernel⟩
theorem k5_204 : pm_LV 5 204 mRe_mostGain 1 := pm_mkLV (pm_in (List.mem_of_getElem? (i := 628) (by decide +kernel)) (by decide +kernel)) n_mRe_mostGain s_mRe_mostGain i_mRe_mostGain p_mRe_mostGain (by decide +kernel) ok_mRe_mostGain
theorem i_mRe_firstToMost : Cond.initialized mRe_firstToMost.2.1.cls ∈ pm_gw := pm_in (List.mem_of_getElem? (i := 3) (by decide +kernel)) (by decide +kernel)
theorem n_mRe_firstToMost : Cond.instanceMethod mRe_firstToMost.2.1 ∈ pm_gw := pm_in (List.mem_of_getElem? (i := 640) (by decide +kernel)) (by decide +kernel)
theorem s_mRe_firstToMost : Cond.selects mRe_firstToMost.2.1.cls mRe_firstToMost.2.1 mRe_firstToMost.2.1 ∈ pm_gw := pm_in (List.mem_of_getElem? (i := 641) (by decide +kernel)) (by decide +kernel)
theorem p_mRe_firstToMost : mRe_firstToMost.2.1.cls ≠ "java/lang/invoke/MethodHandle" ∧ mRe_firstToMost.2.1.cls ≠ "java/lang/invoke/VarHandle" ∧ (parseMethodDescriptor mRe_firstToMost.2.1.desc).map (fun d => d.parameters.length) = some 1 := ⟨by decide +kernel, by decide +kernel, by decide +kernel⟩
theorem k5_207 : pm_LV 5 207 mRe_firstToMost 1 := pm_mkLV (pm_in (List.mem_of_getElem? (i := 639) (by decide +kernel)) (by decide +kernel)) n_mRe_firstToMost s_mRe_firstToMost i_mRe_firstToMost p_mRe_firstToMost (by decide +kernel) ok_mRe_firstToMost
theorem k0_119 : pm_LS 0 119 mAr_fill 2 := pm_mkLS (pm_in (List.mem_of_getElem? (i := 669) (by decide +kernel)) (by decide +kernel)) n_mAr_fill i_mAr_fill p_mAr_fill ok_mAr_fill
theorem i_mRe_findBeside : Cond.initialized mRe_findBeside.2.1.cls ∈ pm_gw := pm_in (List.mem_of_getElem? (i := 3) (by decide +kernel)) (by decide +kernel)
theorem n_mRe_findBeside : Cond.instanceMethod mRe_findBeside.2.1 ∈ pm_gw := pm_in (List.mem_of_getElem? (i := 665) (by decide +kernel)) (by decide +kernel)
theorem s_mRe_findBeside : Cond.selects mRe_findBeside.2.1.cls mRe_findBeside.2.1 mRe_findBeside.2.1 ∈ pm_gw := pm_in (List.mem_of_getElem? (i := 666) (by decide +kernel)) (by decide +kernel)
theorem p_mRe_findBeside : mRe_findBeside.2.1.cls ≠ "java/lang/invoke/MethodHandle" ∧ mRe_findBeside.2.1.cls ≠ "java/lang/invoke/VarHandle" ∧ (parseMethodDescriptor mRe_findBeside.2.1.desc).map (fun d => d.parameters.length) = some 2 := ⟨by decide +kernel, by decide +kernel, by decide +kernel⟩
theorem k5_211 : pm_LV 5 211 mRe_findBeside 2 := pm_mkLV (pm_in (List.mem_of_getElem? (i := 664) (by decide +kernel)) (by decide +kernel)) n_mRe_findBeside s_mRe_findBeside i_mRe_findBeside p_mRe_findBeside (by decide +kernel) ok_mRe_findBeside
theorem k5_214 : pm_LV 5 214 mRe_mostByFees 1 := pm_mkLV (pm_in (List.mem_of_getElem? (i := 670) (by decide +kernel)) (by decide +kernel)) n_mRe_mostByFees s_mRe_mostByFees i_mRe_mostByFees p_mRe_mostByFees (by decide +kernel) ok_mRe_mostByFees
theorem i_mRe_mostByPrizesWith : Cond.initialized mRe_mostByPrizesWith.2.1.cls ∈ pm_gw := pm_in (List.mem_of_getElem? (i := 3) (by decide +kernel)) (by decide +kernel)
theorem n_mRe_mostByPrizesWith : Cond.instanceMethod mRe_mostByPrizesWith.2.1 ∈ pm_gw := pm_in (List.mem_of_getElem? (i := 672) (by decide +kernel)) (by decide +kernel)
theorem s_mRe_mostByPrizesWith : Cond.selects mRe_mostByPrizesWith.2.1.cls mRe_mostByPrizesWith.2.1 mRe_mostByPrizesWith.2.1 ∈ pm_gw := pm_in (List.mem_of_getElem? (i := 673) (by decide +kernel)) (by decide +kernel)
theorem p_mRe_mostByPrizesWith : mRe_mostByPrizesWith.2.1.cls ≠ "java/lang/invoke/MethodHandle" ∧ mRe_mostByPrizesWith.2.1.cls ≠ "java/lang/invoke/VarHandle" ∧ (parseMethodDescriptor mRe_mostByPrizesWith.2.1.desc).map (fun d => d.parameters.length) = some 3 := ⟨by decide +kernel, by decide +kernel, by decide +kernel⟩
theorem k5_217 : pm_LV 5 217 mRe_mostByPrizesWith 3 := pm_mkLV (pm_in (List.mem_of_getElem? (i := 671) (by decide +kernel)) (by decide +kernel)) n_mRe_mostByPrizesWith s_mRe_mostByPrizesWith i_mRe_mostByPrizesWith p_mRe_mostByPrizesWith (by decide +kernel) ok_mRe_mostByPrizesWith
theorem i_mWh_noteSeen : Cond.initialized mWh_noteSeen.2.1.cls ∈ pm_gw := pm_in (List.mem_of_getElem? (i := 2) (by decide +kernel)) (by decide +kernel)
theorem n_mWh_noteSeen : Cond.instanceMethod mWh_noteSeen.2.1 ∈ pm_gw := pm_in (List.mem_of_getElem? (i := 680) (by decide +kernel)) (by decide +kernel)
theorem s_mWh_noteSeen : Cond.selects mWh_noteSeen.2.1.cls mWh_noteSeen.2.1 mWh_noteSeen.2.1 ∈ pm_gw := pm_in (List.mem_of_getElem? (i := 681) (by decide +kernel)) (by decide +kernel)
theorem p_mWh_noteSeen : mWh_noteSeen.2.1.cls ≠ "java/lang/invoke/MethodHandle" ∧ mWh_noteSeen.2.1.cls ≠ "java/lang/invoke/VarHandle" ∧ (parseMethodDescriptor mWh_noteSeen.2.1.desc).map (fun d => d.parameters.length) = some 2 := ⟨by decide +kernel, by decide +kernel, by decide +kernel⟩
theorem k5_221 : pm_LV 5 221 mWh_noteSeen 2 := pm_mkLV (pm_in (List.mem_of_getElem? (i := 679) (by decide +kernel)) (by decide +kernel)) n_mWh_noteSeen s_mWh_noteSeen i_mWh_noteSeen p_mWh_noteSeen (by decide +kernel) ok_mWh_noteSeen
theorem i_mRe_isAsSeen : Cond.initialized mRe_isAsSeen.2.1.cls ∈ pm_gw := pm_in (List.mem_of_getElem? (i := 3) (by decide +kernel)) (by decide +kernel)
theorem n_mRe_isAsSeen : Cond.instanceMethod mRe_isAsSeen.2.1 ∈ pm_gw := pm_in (List.mem_of_getElem? (i := 701) (by decide +kernel)) (by decide +kernel)
theorem s_mRe_isAsSeen : Cond.selects mRe_isAsSeen.2.1.cls mRe_isAsSeen.2.1 mRe_isAsSeen.2.1 ∈ pm_gw := pm_ins (List.mem_of_getElem? (i := 18) (by decide +kernel)) (by decide +kernel)
theorem p_mRe_isAsSeen : mRe_isAsSeen.2.1.cls ≠ "java/lang/invoke/MethodHandle" ∧ mRe_isAsSeen.2.1.cls ≠ "java/lang/invoke/VarHandle" ∧ (parseMethodDescriptor mRe_isAsSeen.2.1.desc).map (fun d => d.parameters.length) = some 3 := ⟨by decide +kernel, by decide +kernel, by decide +kernel⟩
theorem k0_129 : pm_LV 0 129 mRe_isAsSeen 3 := pm_mkLV (pm_in (List.mem_of_getElem? (i := 699) (by decide +kernel)) (by decide +kernel)) n_mRe_isAsSeen s_mRe_isAsSeen i_mRe_isAsSeen p_mRe_isAsSeen (by decide +kernel) ok_mRe_isAsSeen
theorem i_mRe_ordersThatFit : Cond.initialized mRe_ordersThatFit.2.1.cls ∈ pm_gw := pm_in (List.mem_of_getElem? (i := 3) (by decide +kernel)) (by decide +kernel)
theorem n_mRe_ordersThatFit : Cond.instanceMethod mRe_ordersThatFit.2.1 ∈ pm_gw := pm_in (List.mem_of_getElem? (i := 697) (by decide +kernel)) (by decide +kernel)
theorem s_mRe_ordersThatFit : Cond.selects mRe_ordersThatFit.2.1.cls mRe_ordersThatFit.2.1 mRe_ordersThatFit.2.1 ∈ pm_gw := pm_ins (List.mem_of_getElem? (i := 17) (by decide +kernel)) (by decide +kernel)
theorem p_mRe_ordersThatFit : mRe_ordersThatFit.2.1.cls ≠ "java/lang/invoke/MethodHandle" ∧ mRe_ordersThatFit.2.1.cls ≠ "java/lang/invoke/VarHandle" ∧ (parseMethodDescriptor mRe_ordersThatFit.2.1.desc).map (fun d => d.parameters.length) = some 2 := ⟨by decide +kernel, by decide +kernel, by decide +kernel⟩
theorem k0_125 : pm_LV 0 125 mRe_ordersThatFit 2 := pm_mkLV (pm_in (List.mem_of_getElem? (i := 695) (by decide +kernel)) (by decide +kernel)) n_mRe_ordersThatFit s_mRe_ordersThatFit i_mRe_ordersThatFit p_mRe_ordersThatFit (by decide +kernel) ok_mRe_ordersThatFit
theorem i_mRe_tally : Cond.initialized mRe_tally.2.1.cls ∈ pm_gw := pm_in (List.mem_of_getElem? (i := 3) (by decide +kernel)) (by decide +kernel)
theorem n_mRe_tally : Cond.instanceMethod mRe_tally.2.1 ∈ pm_gw := pm_in (List.mem_of_getElem? (i := 692) (by decide +kernel)) (by decide +kernel)
theorem s_mRe_tally : Cond.selects mRe_tally.2.1.cls mRe_tally.2.1 mRe_tally.2.1 ∈ pm_gw := pm_in (List.mem_of_getElem? (i := 693) (by decide +kernel)) (by decide +kernel)
theorem p_mRe_tally : mRe_tally.2.1.cls ≠ "java/lang/invoke/MethodHandle" ∧ mRe_tally.2.1.cls ≠ "java/lang/invoke/VarHandle" ∧ (parseMethodDescriptor mRe_tally.2.1.desc).map (fun d => d.parameters.length) = some 1 := ⟨by decide +kernel, by decide +kernel, by decide +kernel⟩
theorem k5_227 : pm_LV 5 227 mRe_tally 1 := pm_mkLV (pm_in (List.mem_of_getElem? (i := 691) (by decide +kernel)) (by decide +kernel)) n_mRe_tally s_mRe_tally i_mRe_tally p_mRe_tally (by decide +kernel) ok_mRe_tally
theorem i_mRe_prizesOf : Cond.initialized mRe_prizesOf.2.1.cls ∈ pm_gw := pm_in (List.mem_of_getElem? (i := 3) (by decide +kernel)) (by decide +kernel)
theorem n_mRe_prizesOf : Cond.instanceMethod mRe_prizesOf.2.1 ∈ pm_gw := pm_in (List.mem_of_getElem? (i := 704) (by decide +kernel)) (by decide +kernel)
theorem s_mRe_prizesOf : Cond.selects mRe_prizesOf.2.1.cls mRe_prizesOf.2.1 mRe_prizesOf.2.1 ∈ pm_gw := pm_in (List.mem_of_getElem? (i := 705) (by decide +kernel)) (by decide +kernel)
theorem p_mRe_prizesOf : mRe_prizesOf.2.1.cls ≠ "java/lang/invoke/MethodHandle" ∧ mRe_prizesOf.2.1.cls ≠ "java/lang/invoke/VarHandle" ∧ (parseMethodDescriptor mRe_prizesOf.2.1.desc).map (fun d => d.parameters.length) = some 1 := ⟨by decide +kernel, by decide +kernel, by decide +kernel⟩
theorem k5_230 : pm_LV 5 230 mRe_prizesOf 1 := pm_mkLV (pm_in (List.mem_of_getElem? (i := 703) (by decide +kernel)) (by decide +kernel)) n_mRe_prizesOf s_mRe_prizesOf i_mRe_prizesOf p_mRe_prizesOf (by decide +kernel) ok_mRe_prizesOf
theorem i_mRe_worstOf : Cond.initialized mRe_worstOf.2.1.cls ∈ pm_gw := pm_in (List.mem_of_getElem? (i := 3) (by decide +kernel)) (by decide +kernel)
theorem n_mRe_worstOf : Cond.instanceMethod mRe_worstOf.2.1 ∈ pm_gw := pm_in (List.mem_of_getElem? (i := 712) (by decide +kernel)) (by decide +kernel)
theorem s_mRe_worstOf : Cond.selects mRe_worstOf.2.1.cls mRe_worstOf.2.1 mRe_worstOf.2.1 ∈ pm_gw := pm_in (List.mem_of_getElem? (i := 713) (by decide +kernel)) (by decide +kernel)
theorem p_mRe_worstOf : mRe_worstOf.2.1.cls ≠ "java/lang/invoke/MethodHandle" ∧ mRe_worstOf.2.1.cls ≠ "java/lang/invoke/VarHandle" ∧ (parseMethodDescriptor mRe_worstOf.2.1.desc).map (fun d => d.parameters.length) = some 1 := ⟨by decide +kernel, by decide +kernel, by decide +kernel⟩
theorem k5_236 : pm_LV 5 236 mRe_worstOf 1 := pm_mkLV (pm_in (List.mem_of_getElem? (i := 711) (by decide +kernel)) (by decide +kernel)) n_mRe_worstOf s_mRe_worstOf i_mRe_worstOf p_mRe_worstOf (by decide +kernel) ok_mRe_worstOf
theorem i_mWt_turnSeed : Cond.initialized mWt_turnSeed.2.1.cls ∈ pm_gw := pm_in (List.mem_of_getElem? (i := 1) (by decide +kernel)) (by decide +kernel)
theorem n_mWt_turnSeed : Cond.static mWt_turnSeed.2.1 ∈ pm_gw := pm_in (List.mem_of_getElem? (i := 720) (by decide +kernel)) (by decide +kernel)
theorem p_mWt_turnSeed : mWt_turnSeed.2.1.cls ≠ "java/lang/invoke/MethodHandle" ∧ mWt_turnSeed.2.1.cls ≠ "java/lang/invoke/VarHandle" ∧ (parseMethodDescriptor mWt_turnSeed.2.1.desc).map (fun d => d.parameters.length) = some 1 := ⟨by decide +kernel, by decide +kernel, by decide +kernel⟩
theorem k5_239 : pm_LS 5 239 mWt_turnSeed 1 := pm_mkLS (pm_in (List.mem_of_getElem? (i := 719) (by decide +kernel)) (by decide +kernel)) n_mWt_turnSeed i_mWt_turnSeed p_mWt_turnSeed ok_mWt_turnSeed
theorem i_mWt_seedBits : Cond.initialized mWt_seedBits.2.1.cls ∈ pm_gw := pm_in (List.mem_of_getElem? (i := 1) (by decide +kernel)) (by decide +kernel)
theorem n_mWt_seedBits : Cond.static mWt_seedBits.2.1 ∈ pm_gw := pm_in (List.mem_of_getElem? (i := 724) (by decide +kernel)) (by decide +kernel)
theorem p_mWt_seedBits : mWt_seedBits.2.1.cls ≠ "java/lang/invoke/MethodHandle" ∧ mWt_seedBits.2.1.cls ≠ "java/lang/invoke/VarHandle" ∧ (parseMethodDescriptor mWt_seedBits.2.1.desc).map (fun d => d.parameters.length) = some 1 := ⟨by decide +kernel, by decide +kernel, by decide +kernel⟩
theorem k5_242 : pm_LS 5 242 mWt_seedBits 1 := pm_mkLS (pm_in (List.mem_of_getElem? (i := 723) (by decide +kernel)) (by decide +kernel)) n_mWt_seedBits i_mWt_seedBits p_mWt_seedBits ok_mWt_seedBits
theorem i_mWt_bitByOrder : Cond.initialized mWt_bitByOrder.2.1.cls ∈ pm_gw := pm_in (List.mem_of_getElem? (i := 1) (by decide +kernel)) (by decide +kernel)
theorem n_mWt_bitByOrder : Cond.static mWt_bitByOrder.2.1 ∈ pm_gw := pm_in (List.mem_of_getElem? (i := 727) (by decide +kernel)) (by decide +kernel)
theorem p_mWt_bitByOrder : mWt_bitByOrder.2.1.cls ≠ "java/lang/invoke/MethodHandle" ∧ mWt_bitByOrder.2.1.cls ≠ "java/lang/invoke/VarHandle" ∧ (parseMethodDescriptor mWt_bitByOrder.2.1.desc).map (fun d => d.parameters.length) = some 2 := ⟨by decide +kernel, by decide +kernel, by decide +kernel⟩
theorem k5_245 : pm_LS 5 245 mWt_bitByOrder 2 := pm_mkLS (pm_in (List.mem_of_getElem? (i := 726) (by decide +kernel)) (by decide +kernel)) n_mWt_bitByOrder i_mWt_bitByOrder p_mWt_bitByOrder ok_mWt_bitByOrder
theorem k1_22 : pm_LN 1 22 mWt_within 3 := pm_mkLN (by decide +kernel) n_mWt_within i_mWt_within p_mWt_within ok_mWt_within
theorem k1_26 : pm_LS 1 26 mAr_fill 2 := pm_mkLS (pm_in (List.mem_of_getElem? (i := 752) (by decide +kernel)) (by decide +kernel)) n_mAr_fill i_mAr_fill p_mAr_fill ok_mAr_fill
theorem i_mWt_isSheet : Cond.initialized mWt_isSheet.2.1.cls ∈ pm_gw := pm_in (List.mem_of_getElem? (i := 1) (by decide +kernel)) (by decide +kernel)
theorem n_mWt_isSheet : Cond.static mWt_isSheet.2.1 ∈ pm_gw := pm_in (List.mem_of_getElem? (i := 742) (by decide +kernel)) (by decide +kernel)
theorem p_mWt_isSheet : mWt_isSheet.2.1.cls ≠ "java/lang/invoke/MethodHandle" ∧ mWt_isSheet.2.1.cls ≠ "java/lang/invoke/VarHandle" ∧ (parseMethodDescriptor mWt_isSheet.2.1.desc).map (fun d => d.parameters.length) = some 1 := ⟨by decide +kernel, by decide +kernel, by decide +kernel⟩
theorem k5_248 : pm_LS 5 248 mWt_isSheet 1 := pm_mkLS (pm_in (List.mem_of_getElem? (i := 741) (by decide +kernel)) (by decide +kernel)) n_mWt_isSheet i_mWt_isSheet p_mWt_isSheet ok_mWt_isSheet
theorem i_mSh_isLane : Cond.initialized mSh_isLane.2.1.cls ∈ pm_gw := pm_in (List.mem_of_getElem? (i := 6) (by decide +kernel)) (by decide +kernel)
theorem n_mSh_isLane : Cond.static mSh_isLane.2.1 ∈ pm_gw := pm_in (List.mem_of_getElem? (i := 745) (by decide +kernel)) (by decide +kernel)
theorem p_mSh_isLane : mSh_isLane.2.1.cls ≠ "java/lang/invoke/MethodHandle" ∧ mSh_isLane.2.1.cls ≠ "java/lang/invoke/VarHandle" ∧ (parseMethodDescriptor mSh_isLane.2.1.desc).map (fun d => d.parameters.length) = some 1 := ⟨by decide +kernel, by decide +kernel, by decide +kernel⟩
theorem k5_251 : pm_LS 5 251 mSh_isLane 1 := pm_mkLS (pm_in (List.mem_of_getElem? (i := 744) (by decide +kernel)) (by decide +kernel)) n_mSh_isLane i_mSh_isLane p_mSh_isLane ok_mSh_isLane
theorem i_mSh_renew : Cond.initialized mSh_renew.2.1.cls ∈ pm_gw := pm_in (List.mem_of_getElem? (i := 6) (by decide +kernel)) (by decide +kernel)
theorem n_mSh_renew : Cond.instanceMethod mSh_renew.2.1 ∈ pm_gw := pm_in (List.mem_of_getElem? (i := 749) (by decide +kernel)) (by decide +kernel)
theorem s_mSh_renew : Cond.selects mSh_renew.2.1.cls mSh_renew.2.1 mSh_renew.2.1 ∈ pm_gw := pm_in (List.mem_of_getElem? (i := 750) (by decide +kernel)) (by decide +kernel)
theorem p_mSh_renew : mSh_renew.2.1.cls ≠ "java/lang/invoke/MethodHandle" ∧ mSh_renew.2.1.cls ≠ "java/lang/invoke/VarHandle" ∧ (parseMethodDescriptor mSh_renew.2.1.desc).map (fun d => d.parameters.length) = some 2 := ⟨by decide +kernel, by decide +kernel, by decide +kernel⟩
theorem k5_254 : pm_LV 5 254 mSh_renew 2 := pm_mkLV (pm_in (List.mem_of_getElem? (i := 748) (by decide +kernel)) (by decide +kernel)) n_mSh_renew s_mSh_renew i_mSh_renew p_mSh_renew (by decide +kernel) ok_mSh_renew
theorem i_mSh_faultAt : Cond.initialized mSh_faultAt.2.1.cls ∈ pm_gw := pm_in (List.mem_of_getElem? (i := 6) (by decide +kernel)) (by decide +kernel)
theorem n_mSh_faultAt : Cond.instanceMethod mSh_faultAt.2.1 ∈ pm_gw := pm_in (List.mem_of_getElem? (i := 758) (by decide +kernel)) (by decide +kernel)
theorem s_mSh_faultAt : Cond.selects mSh_faultAt.2.1.cls mSh_faultAt.2.1 mSh_faultAt.2.1 ∈ pm_gw := pm_in (List.mem_of_getElem? (i := 759) (by decide +kernel)) (by decide +kernel)
theorem p_mSh_faultAt : mSh_faultAt.2.1.cls ≠ "java/lang/invoke/MethodHandle" ∧ mSh_faultAt.2.1.cls ≠ "java/lang/invoke/VarHandle" ∧ (parseMethodDescriptor mSh_faultAt.2.1.desc).map (fun d => d.parameters.length) = some 1 := ⟨by decide +kernel, by decide +kernel, by decide +kernel⟩
theorem k5_257 : pm_LV 5 257 mSh_faultAt 1 := pm_mkLV (pm_in (List.mem_of_getElem? (i := 757) (by decide +kernel)) (by decide +kernel)) n_mSh_faultAt s_mSh_faultAt i_mSh_faultAt p_mSh_faultAt (by decide +kernel) ok_mSh_faultAt
theorem i_mSh_setCell : Cond.initialized mSh_setCell.2.1.cls ∈ pm_gw := pm_in (List.mem_of_getElem? (i := 6) (by decide +kernel)) (by decide +kernel)
theorem n_mSh_setCell : Cond.instanceMethod mSh_setCell.2.1 ∈ pm_gw := pm_in (List.mem_of_getElem? (i := 762) (by decide +kernel)) (by decide +kernel)
theorem s_mSh_setCell : Cond.selects mSh_setCell.2.1.cls mSh_setCell.2.1 mSh_setCell.2.1 ∈ pm_gw := pm_in (List.mem_of_getElem? (i := 763) (by decide +kernel)) (by decide +kernel)
theorem p_mSh_setCell : mSh_setCell.2.1.cls ≠ "java/lang/invoke/MethodHandle" ∧ mSh_setCell.2.1.cls ≠ "java/lang/invoke/VarHandle" ∧ (parseMethodDescriptor mSh_setCell.2.1.desc).map (fun d => d.parameters.length) = some 2 := ⟨by decide +kernel, by decide +kernel, by decide +kernel⟩
theorem k5_260 : pm_LV 5 260 mSh_setCell 2 := pm_mkLV (pm_in (List.mem_of_getElem? (i := 761) (by decide +kernel)) (by decide +kernel)) n_mSh_setCell s_mSh_setCell i_mSh_setCell p_mSh_setCell (by decide +kernel) ok_mSh_setCell
theorem k1_32 : pm_LV 1 32 mSh_faultAt 1 := pm_mkLV (pm_in (List.mem_of_getElem? (i := 773) (by decide +kernel)) (by decide +kernel)) n_mSh_faultAt s_mSh_faultAt i_mSh_faultAt p_mSh_faultAt (by decide +kernel) ok_mSh_faultAt
theorem i_mSh_faultAtPair : Cond.initialized mSh_faultAtPair.2.1.cls ∈ pm_gw := pm_in (List.mem_of_getElem? (i := 6) (by decide +kernel)) (by decide +kernel)
theorem n_mSh_faultAtPair : Cond.instanceMethod mSh_faultAtPair.2.1 ∈ pm_gw := pm_in (List.mem_of_getElem? (i := 770) (by decide +kernel)) (by decide +kernel)
theorem s_mSh_faultAtPair : Cond.selects mSh_faultAtPair.2.1.cls mSh_faultAtPair.2.1 mSh_faultAtPair.2.1 ∈ pm_gw := pm_in (List.mem_of_getElem? (i := 771) (by decide +kernel)) (by decide +kernel)
theorem p_mSh_faultAtPair : mSh_faultAtPair.2.1.cls ≠ "java/lang/invoke/MethodHandle" ∧ mSh_faultAtPair.2.1.cls ≠ "java/lang/invoke/VarHandle" ∧ (parseMethodDescriptor mSh_faultAtPair.2.1.desc).map (fun d => d.parameters.length) = some 2 := ⟨by decide +kernel, by decide +kernel, by decide +kernel⟩
theorem k5_263 : pm_LV 5 263 mSh_faultAtPair 2 := pm_mkLV (pm_in (List.mem_of_getElem? (i := 769) (by decide +kernel)) (by decide +kernel)) n_mSh_faultAtPair s_mSh_faultAtPair i_mSh_faultAtPair p_mSh_faultAtPair (by decide +kernel) ok_mSh_faultAtPair
theorem i_mWh_allPurses : Cond.initialized mWh_allPurses.2.1.cls ∈ pm_gw := pm_in (List.mem_of_getElem? (i := 2) (by decide +kernel)) (by decide +kernel)
theorem n_mWh_allPurses : Cond.instanceMethod mWh_allPurses.2.1 ∈ pm_gw := pm_in (List.mem_of_getElem? (i := 783) (by decide +kernel)) (by decide +kernel)
theorem s_mWh_allPurses : Cond.selects mWh_allPurses.2.1.cls mWh_allPurses.2.1 mWh_allPurses.2.1 ∈ pm_gw := pm_in (List.mem_of_getElem? (i := 784) (by decide +kernel)) (by decide +kernel)
theorem p_mWh_allPurses : mWh_allPurses.2.1.cls ≠ "java/lang/invoke/MethodHandle" ∧ mWh_allPurses.2.1.cls ≠ "java/lang/invoke/VarHandle" ∧ (parseMethodDescriptor mWh_allPurses.2.1.desc).map (fun d => d.parameters.length) = some 0 := ⟨by decide +kernel, by decide +kernel, by decide +kernel⟩
theorem k5_269 : pm_LV 5 269 mWh_allPurses 0 := pm_mkLV (pm_in (List.mem_of_getElem? (i := 782) (by decide +kernel)) (by decide +kernel)) n_mWh_allPurses s_mWh_allPurses i_mWh_allPurses p_mWh_allPurses (by decide +kernel) ok_mWh_allPurses
theorem i_mMo_in : Cond.initialized mMo_in.2.1.cls ∈ pm_gw := pm_in (List.mem_of_getElem? (i := 7) (by decide +kernel)) (by decide +kernel)
theorem n_mMo_in : Cond.static mMo_in.2.1 ∈ pm_gw := pm_in (List.mem_of_getElem? (i := 919) (by decide +kernel)) (by decide +kernel)
theorem p_mMo_in : mMo_in.2.1.cls ≠ "java/lang/invoke/MethodHandle" ∧ mMo_in.2.1.cls ≠ "java/lang/invoke/VarHandle" ∧ (parseMethodDescriptor mMo_in.2.1.desc).map (fun d => d.parameters.length) = some 3 := ⟨by decide +kernel, by decide +kernel, by decide +kernel⟩
theorem k6_83 : pm_LS 6 83 mMo_in 3 := pm_mkLS (pm_in (List.mem_of_getElem? (i := 918) (by decide +kernel)) (by decide +kernel)) n_mMo_in i_mMo_in p_mMo_in ok_mMo_in
theorem i_mMo_byteAt : Cond.initialized mMo_byteAt.2.1.cls ∈ pm_gw := pm_in (List.mem_of_getElem? (i := 7) (by decide +kernel)) (by decide +kernel)
theorem n_mMo_byteAt : Cond.instanceMethod mMo_byteAt.2.1 ∈ pm_gw := pm_in (List.mem_of_getElem? (i := 935) (by decide +kernel)) (by decide +kernel)
theorem s_mMo_byteAt : Cond.selects mMo_byteAt.2.1.cls mMo_byteAt.2.1 mMo_byteAt.2.1 ∈ pm_gw := pm_ins (List.mem_of_getElem? (i := 22) (by decide +kernel)) (by decide +kernel)
theorem p_mMo_byteAt : mMo_byteAt.2.1.cls ≠ "java/lang/invoke/MethodHandle" ∧ mMo_byteAt.2.1.cls ≠ "java/lang/invoke/VarHandle" ∧ (parseMethodDescriptor mMo_byteAt.2.1.desc).map (fun d => d.parameters.length) = some 1 := ⟨by decide +kernel, by decide +kernel, by decide +kernel⟩
theorem k6_102 : pm_LV 6 102 mMo_byteAt 1 := pm_mkLV (pm_in (List.mem_of_getElem? (i := 933) (by decide +kernel)) (by decide +kernel)) n_mMo_byteAt s_mMo_byteAt i_mMo_byteAt p_mMo_byteAt (by decide +kernel) ok_mMo_byteAt
theorem i_mMo_needs : Cond.initialized mMo_needs.2.1.cls ∈ pm_gw := pm_in (List.mem_of_getElem? (i := 7) (by decide +kernel)) (by decide +kernel)
theorem n_mMo_needs : Cond.instanceMethod mMo_needs.2.1 ∈ pm_gw := pm_in (List.mem_of_getElem? (i := 943) (by decide +kernel)) (by decide +kernel)
theorem s_mMo_needs : Cond.selects mMo_needs.2.1.cls mMo_needs.2.1 mMo_needs.2.1 ∈ pm_gw := pm_ins (List.mem_of_getElem? (i := 23) (by decide +kernel)) (by decide +kernel)
theorem p_mMo_needs : mMo_needs.2.1.cls ≠ "java/lang/invoke/MethodHandle" ∧ mMo_needs.2.1.cls ≠ "java/lang/invoke/VarHandle" ∧ (parseMethodDescriptor mMo_needs.2.1.desc).map (fun d => d.parameters.length) = some 2 := ⟨by decide +kernel, by decide +kernel, by decide +kernel⟩
theorem k6_127 : pm_LV 6 127 mMo_needs 2 := pm_mkLV (pm_in (List.mem_of_getElem? (i := 941) (by decide +kernel)) (by decide +kernel)) n_mMo_needs s_mMo_needs i_mMo_needs p_mMo_needs (by decide +kernel) ok_mMo_needs
theorem i_mMo_is : Cond.initialized mMo_is.2.1.cls ∈ pm_gw := pm_in (List.mem_of_getElem? (i := 7) (by decide +kernel)) (by decide +kernel)
theorem n_mMo_is : Cond.instanceMethod mMo_is.2.1 ∈ pm_gw := pm_in (List.mem_of_getElem? (i := 955) (by decide +kernel)) (by decide +kernel)
theorem s_mMo_is : Cond.selects mMo_is.2.1.cls mMo_is.2.1 mMo_is.2.1 ∈ pm_gw := pm_ins (List.mem_of_getElem? (i := 26) (by decide +kernel)) (by decide +kernel)
theorem p_mMo_is : mMo_is.2.1.cls ≠ "java/lang/invoke/MethodHandle" ∧ mMo_is.2.1.cls ≠ "java/lang/invoke/VarHandle" ∧ (parseMethodDescriptor mMo_is.2.1.desc).map (fun d => d.parameters.length) = some 4 := ⟨by decide +kernel, by decide +kernel, by decide +kernel⟩
theorem k6_106 : pm_LV 6 106 mMo_is 4 := pm_mkLV (pm_in (List.mem_of_getElem? (i := 953) (by decide +kernel)) (by decide +kernel)) n_mMo_is s_mMo_is i_mMo_is p_mMo_is (by decide +kernel) ok_mMo_is
theorem i_mMo_hasEnd : Cond.initialized mMo_hasEnd.2.1.cls ∈ pm_gw := pm_in (List.mem_of_getElem? (i := 7) (by decide +kernel)) (by decide +kernel)
theorem n_mMo_hasEnd : Cond.instanceMethod mMo_hasEnd.2.1 ∈ pm_gw := pm_in (List.mem_of_getElem? (i := 959) (by decide +kernel)) (by decide +kernel)
theorem s_mMo_hasEnd : Cond.selects mMo_hasEnd.2.1.cls mMo_hasEnd.2.1 mMo_hasEnd.2.1 ∈ pm_gw := pm_ins (List.mem_of_getElem? (i := 27) (by decide +kernel)) (by decide +kernel)
theorem p_mMo_hasEnd : mMo_hasEnd.2.1.cls ≠ "java/lang/invoke/MethodHandle" ∧ mMo_hasEnd.2.1.cls ≠ "java/lang/invoke/VarHandle" ∧ (parseMethodDescriptor mMo_hasEnd.2.1.desc).map (fun d => d.parameters.length) = some 4 := ⟨by decide +kernel, by decide +kernel, by decide +kernel⟩
theorem k6_110 : pm_LV 6 110 mMo_hasEnd 4 := pm_mkLV (pm_in (List.mem_of_getElem? (i := 957) (by decide +kernel)) (by decide +kernel)) n_mMo_hasEnd s_mMo_hasEnd i_mMo_hasEnd p_mMo_hasEnd (by decide +kernel) ok_mMo_hasEnd
theorem i_mMo_next : Cond.initialized mMo_next.2.1.cls ∈ pm_gw := pm_in (List.mem_of_getElem? (i := 7) (by decide +kernel)) (by decide +kernel)
theorem n_mMo_next : Cond.instanceMethod mMo_next.2.1 ∈ pm_gw := pm_in (List.mem_of_getElem? (i := 931) (by decide +kernel)) (by decide +kernel)
theorem s_mMo_next : Cond.selects mMo_next.2.1.cls mMo_next.2.1 mMo_next.2.1 ∈ pm_gw := pm_ins (List.mem_of_getElem? (i := 21) (by decide +kernel)) (by decide +kernel)
theorem p_mMo_next : mMo_next.2.1.cls ≠ "java/lang/invoke/MethodHandle" ∧ mMo_next.2.1.cls ≠ "java/lang/invoke/VarHandle" ∧ (parseMethodDescriptor mMo_next.2.1.desc).map (fun d => d.parameters.length) = some 0 := ⟨by decide +kernel, by decide +kernel, by decide +kernel⟩
theorem k6_131 : pm_LV 6 131 mMo_next 0 := pm_mkLV (pm_in (List.mem_of_getElem? (i := 929) (by decide +kernel)) (by decide +kernel)) n_mMo_next s_mMo_next i_mMo_next p_mMo_next (by decide +kernel) ok_mMo_next
theorem i_mMo_readNumber : Cond.initialized mMo_readNumber.2.1.cls ∈ pm_gw := pm_in (List.mem_of_getElem? (i := 7) (by decide +kernel)) (by decide +kernel)
theorem n_mMo_readNumber : Cond.instanceMethod mMo_readNumber.2.1 ∈ pm_gw := pm_in (List.mem_of_getElem? (i := 971) (by decide +kernel)) (by decide +kernel)
theorem s_mMo_readNumber : Cond.selects mMo_readNumber.2.1.cls mMo_readNumber.2.1 mMo_readNumber.2.1 ∈ pm_gw := pm_ins (List.mem_of_getElem? (i := 30) (by decide +kernel)) (by decide +kernel)
theorem p_mMo_readNumber : mMo_readNumber.2.1.cls ≠ "java/lang/invoke/MethodHandle" ∧ mMo_readNumber.2.1.cls ≠ "java/lang/invoke/VarHandle" ∧ (parseMethodDescriptor mMo_readNumber.2.1.desc).map (fun d => d.parameters.length) = some 2 := ⟨by decide +kernel, by decide +kernel, by decide +kernel⟩
theorem k6_134 : pm_LV 6 134 mMo_readNumber 2 := pm_mkLV (pm_in (List.mem_of_getElem? (i := 969) (by decide +kernel)) (by decide +kernel)) n_mMo_readNumber s_mMo_readNumber i_mMo_readNumber p_mMo_readNumber (by decide +kernel) ok_mMo_readNumber
theorem i_mMo_readPerson : Cond.initialized mMo_readPerson.2.1.cls ∈ pm_gw := pm_in (List.mem_of_getElem? (i := 7) (by decide +kernel)) (by decide +kernel)
theorem n_mMo_readPerson : Cond.instanceMethod mMo_readPerson.2.1 ∈ pm_gw := pm_in (List.mem_of_getElem? (i := 979) (by decide +kernel)) (by decide +kernel)
theorem s_mMo_readPerson : Cond.selects mMo_readPerson.2.1.cls mMo_readPerson.2.1 mMo_readPerson.2.1 ∈ pm_gw := pm_ins (List.mem_of_getElem? (i := 32) (by decide +kernel)) (by decide +kernel)
theorem p_mMo_readPerson : mMo_readPerson.2.1.cls ≠ "java/lang/invoke/MethodHandle" ∧ mMo_readPerson.2.1.cls ≠ "java/lang/invoke/VarHandle" ∧ (parseMethodDescriptor mMo_readPerson.2.1.desc).map (fun d => d.parameters.length) = some 0 := ⟨by decide +kernel, by decide +kernel, by decide +kernel⟩
theorem k6_138 : pm_LV 6 138 mMo_readPerson 0 := pm_mkLV (pm_in (List.mem_of_getElem? (i := 977) (by decide +kernel)) (by decide +kernel)) n_mMo_readPerson s_mMo_readPerson i_mMo_readPerson p_mMo_readPerson (by decide +kernel) ok_mMo_readPerson
theorem i_mMo_readTicket : Cond.initialized mMo_readTicket.2.1.cls ∈ pm_gw := pm_in (List.mem_of_getElem? (i := 7) (by decide +kernel)) (by decide +kernel)
theorem n_mMo_readTicket : Cond.instanceMethod mMo_readTicket.2.1 ∈ pm_gw := pm_in (List.mem_of_getElem? (i := 975) (by decide +kernel)) (by decide +kernel)
theorem s_mMo_readTicket : Cond.selects mMo_readTicket.2.1.cls mMo_readTicket.2.1 mMo_readTicket.2.1 ∈ pm_gw := pm_ins (List.mem_of_getElem? (i := 31) (by decide +kernel)) (by decide +kernel)
theorem p_mMo_readTicket : mMo_readTicket.2.1.cls ≠ "java/lang/invoke/MethodHandle" ∧ mMo_readTicket.2.1.cls ≠ "java/lang/invoke/VarHandle" ∧ (parseMethodDescriptor mMo_readTicket.2.1.desc).map (fun d => d.parameters.length) = some 1 := ⟨by decide +kernel, by decide +kernel, by decide +kernel⟩
theorem k6_142 : pm_LV 6 142 mMo_readTicket 1 := pm_mkLV (pm_in (List.mem_of_getElem? (i := 973) (by decide +kernel)) (by decide +kernel)) n_mMo_readTicket s_mMo_readTicket i_mMo_readTicket p_mMo_readTicket (by decide +kernel) ok_mMo_readTicket
theorem i_mMo_lineNow : Cond.initialized mMo_lineNow.2.1.cls ∈ pm_gw := pm_in (List.mem_of_getElem? (i := 7) (by decide +kernel)) (by decide +kernel)
theorem n_mMo_lineNow : Cond.instanceMethod mMo_lineNow.2.1 ∈ pm_gw := pm_in (List.mem_of_getElem? (i := 951) (by decide +kernel)) (by decide +kernel)
theorem s_mMo_lineNow : Cond.selects mMo_lineNow.2.1.cls mMo_lineNow.2.1 mMo_lineNow.2.1 ∈ pm_gw := pm_ins (List.mem_of_getElem? (i := 25) (by decide +kernel)) (by decide +kernel)
theorem p_mMo_lineNow : mMo_lineNow.2.1.cls ≠ "java/lang/invoke/MethodHandle" ∧ mMo_lineNow.2.1.cls ≠ "java/lang/invoke/VarHandle" ∧ (parseMethodDescriptor mMo_lineNow.2.1.desc).map (fun d => d.parameters.length) = some 0 := ⟨by decide +kernel, by decide +kernel, by decide +kernel⟩
theorem k6_146 : pm_LV 6 146 mMo_lineNow 0 := pm_mkLV (pm_in (List.mem_of_getElem? (i := 949) (by decide +kernel)) (by decide +kernel)) n_mMo_lineNow s_mMo_lineNow i_mMo_lineNow p_mMo_lineNow (by decide +kernel) ok_mMo_lineNow
theorem i_mMo_hasRoom : Cond.initialized mMo_hasRoom.2.1.cls ∈ pm_gw := pm_in (List.mem_of_getElem? (i := 7) (by decide +kernel)) (by decide +kernel)
theorem n_mMo_hasRoom : Cond.instanceMethod mMo_hasRoom.2.1 ∈ pm_gw := pm_in (List.mem_of_getElem? (i := 963) (by decide +kernel)) (by decide +kernel)
theorem s_mMo_hasRoom : Cond.selects mMo_hasRoom.2.1.cls mMo_hasRoom.2.1 mMo_hasRoom.2.1 ∈ pm_gw := pm_ins (List.mem_of_getElem? (i := 28) (by decide +kernel)) (by decide +kernel)
theorem p_mMo_hasRoom : mMo_hasRoom.2.1.cls ≠ "java/lang/invoke/MethodHandle" ∧ mMo_hasRoom.2.1.cls ≠ "java/lang/invoke/VarHandle" ∧ (parseMethodDescriptor mMo_hasRoom.2.1.desc).map (fun d => d.parameters.length) = some 1 := ⟨by decide +kernel, by decide +kernel, by decide +kernel⟩
theorem k6_149 : pm_LV 6 149 mMo_hasRoom 1 := pm_mkLV (pm_in (List.mem_of_getElem? (i := 961) (by decide +kernel)) (by decide +kernel)) n_mMo_hasRoom s_mMo_hasRoom i_mMo_hasRoom p_mMo_hasRoom (by decide +kernel) ok_mMo_hasRoom
theorem i_mMo_readLineOf : Cond.initialized mMo_readLineOf.2.1.cls ∈ pm_gw := pm_in (List.mem_of_getElem? (i := 7) (by decide +kernel)) (by decide +kernel)
theorem n_mMo_readLineOf : Cond.instanceMethod mMo_readLineOf.2.1 ∈ pm_gw := pm_in (List.mem_of_getElem? (i := 967) (by decide +kernel)) (by decide +kernel)
theorem s_mMo_readLineOf : Cond.selects mMo_readLineOf.2.1.cls mMo_readLineOf.2.1 mMo_readLineOf.2.1 ∈ pm_gw := pm_ins (List.mem_of_getElem? (i := 29) (by decide +kernel)) (by decide +kernel)
theorem p_mMo_readLineOf : mMo_readLineOf.2.1.cls ≠ "java/lang/invoke/MethodHandle" ∧ mMo_readLineOf.2.1.cls ≠ "java/lang/invoke/VarHandle" ∧ (parseMethodDescriptor mMo_readLineOf.2.1.desc).map (fun d => d.parameters.length) = some 1 := ⟨by decide +kernel, by decide +kernel, by decide +kernel⟩
theorem k6_153 : pm_LV 6 153 mMo_readLineOf 1 := pm_mkLV (pm_in (List.mem_of_getElem? (i := 965) (by decide +kernel)) (by decide +kernel)) n_mMo_readLineOf s_mMo_readLineOf i_mMo_readLineOf p_mMo_readLineOf (by decide +kernel) ok_mMo_readLineOf
theorem i_mMo_of : Cond.initialized mMo_of.2.1.cls ∈ pm_gw := pm_in (List.mem_of_getElem? (i := 7) (by decide +kernel)) (by decide +kernel)
theorem n_mMo_of : Cond.instanceMethod mMo_of.2.1 ∈ pm_gw := pm_in (List.mem_of_getElem? (i := 991) (by decide +kernel)) (by decide +kernel)
theorem s_mMo_of : Cond.selects mMo_of.2.1.cls mMo_of.2.1 mMo_of.2.1 ∈ pm_gw := pm_ins (List.mem_of_getElem? (i := 35) (by decide +kernel)) (by decide +kernel)
theorem p_mMo_of : mMo_of.2.1.cls ≠ "java/lang/invoke/MethodHandle" ∧ mMo_of.2.1.cls ≠ "java/lang/invoke/VarHandle" ∧ (parseMethodDescriptor mMo_of.2.1.desc).map (fun d => d.parameters.length) = some 2 := ⟨by decide +kernel, by decide +kernel, by decide +kernel⟩
theorem k6_169 : pm_LV 6 169 mMo_of 2 := pm_mkLV (pm_in (List.mem_of_getElem? (i := 989) (by decide +kernel)) (by decide +kernel)) n_mMo_of s_mMo_of i_mMo_of p_mMo_of (by decide +kernel) ok_mMo_of
theorem i_mMo_isInWheel : Cond.initialized mMo_isInWheel.2.1.cls ∈ pm_gw := pm_in (List.mem_of_getElem? (i := 7) (by decide +kernel)) (by decide +kernel)
theorem n_mMo_isInWheel : Cond.instanceMethod mMo_isInWheel.2.1 ∈ pm_gw := pm_in (List.mem_of_getElem? (i := 987) (by decide +kernel)) (by decide +kernel)
theorem s_mMo_isInWheel : Cond.selects mMo_isInWheel.2.1.cls mMo_isInWheel.2.1 mMo_isInWheel.2.1 ∈ pm_gw := pm_ins (List.mem_of_getElem? (i := 34) (by decide +kernel)) (by decide +kernel)
theorem p_mMo_isInWheel : mMo_isInWheel.2.1.cls ≠ "java/lang/invoke/MethodHandle" ∧ mMo_isInWheel.2.1.cls ≠ "java/lang/invoke/VarHandle" ∧ (parseMethodDescriptor mMo_isInWheel.2.1.desc).map (fun d => d.parameters.length) = some 1 := ⟨by decide +kernel, by decide +kernel, by decide +kernel⟩
theorem k6_156 : pm_LV 6 156 mMo_isInWheel 1 := pm_mkLV (pm_in (List.mem_of_getElem? (i := 985) (by decide +kernel)) (by decide +kernel)) n_mMo_isInWheel s_mMo_isInWheel i_mMo_isInWheel p_mMo_isInWheel (by decide +kernel) ok_mMo_isInWheel
theorem i_mMo_pays : Cond.initialized mMo_pays.2.1.cls ∈ pm_gw := pm_in (List.mem_of_getElem? (i := 7) (by decide +kernel)) (by decide +kernel)
theorem n_mMo_pays : Cond.instanceMethod mMo_pays.2.1 ∈ pm_gw := pm_in (List.mem_of_getElem? (i := 999) (by decide +kernel)) (by decide +kernel)
theorem s_mMo_pays : Cond.selects mMo_pays.2.1.cls mMo_pays.2.1 mMo_pays.2.1 ∈ pm_gw := pm_ins (List.mem_of_getElem? (i := 37) (by decide +kernel)) (by decide +kernel)
theorem p_mMo_pays : mMo_pays.2.1.cls ≠ "java/lang/invoke/MethodHandle" ∧ mMo_pays.2.1.cls ≠ "java/lang/invoke/VarHandle" ∧ (parseMethodDescriptor mMo_pays.2.1.desc).map (fun d => d.parameters.length) = some 3 := ⟨by decide +kernel, by decide +kernel, by decide +kernel⟩
theorem k6_172 : pm_LV 6 172 mMo_pays 3 := pm_mkLV (pm_in (List.mem_of_getElem? (i := 997) (by decide +kernel)) (by decide +kernel)) n_mMo_pays s_mMo_pays i_mMo_pays p_mMo_pays (by decide +kernel) ok_mMo_pays
theorem i_mMo_draws : Cond.initialized mMo_draws.2.1.cls ∈ pm_gw := pm_in (List.mem_of_getElem? (i := 7) (by decide +kernel)) (by decide +kernel)
theorem n_mMo_draws : Cond.instanceMethod mMo_draws.2.1 ∈ pm_gw := pm_in (List.mem_of_getElem? (i := 995) (by decide +kernel)) (by decide +kernel)
theorem s_mMo_draws : Cond.selects mMo_draws.2.1.cls mMo_draws.2.1 mMo_draws.2.1 ∈ pm_gw := pm_ins (List.mem_of_getElem? (i := 36) (by decide +kernel)) (by decide +kernel)
theorem p_mMo_draws : mMo_draws.2.1.cls ≠ "java/lang/invoke/MethodHandle" ∧ mMo_draws.2.1.cls ≠ "java/lang/invoke/VarHandle" ∧ (parseMethodDescriptor mMo_draws.2.1.desc).map (fun d => d.parameters.length) = some 3 := ⟨by decide +kernel, by decide +kernel, by decide +kernel⟩
theorem k6_159 : pm_LV 6 159 mMo_draws 3 := pm_mkLV (pm_in (List.mem_of_getElem? (i := 993) (by decide +kernel)) (by decide +kernel)) n_mMo_draws s_mMo_draws i_mMo_draws p_mMo_draws (by decide +kernel) ok_mMo_draws
theorem i_mMo_firstDraft : Cond.initialized mMo_firstDraft.2.1.cls ∈ pm_gw := pm_in (List.mem_of_getElem? (i := 7) (by decide +kernel)) (by decide +kernel)
theorem n_mMo_firstDraft : Cond.instanceMethod mMo_firstDraft.2.1 ∈ pm_gw := pm_in (List.mem_of_getElem? (i := 794) (by decide +kernel)) (by decide +kernel)
theorem s_mMo_firstDraft : Cond.selects mMo_firstDraft.2.1.cls mMo_firstDraft.2.1 mMo_firstDraft.2.1 ∈ pm_gw := pm_ins (List.mem_of_getElem? (i := 19) (by decide +kernel)) (by decide +kernel)
theorem p_mMo_firstDraft : mMo_firstDraft.2.1.cls ≠ "java/lang/invoke/MethodHandle" ∧ mMo_firstDraft.2.1.cls ≠ "java/lang/invoke/VarHandle" ∧ (parseMethodDescriptor mMo_firstDraft.2.1.desc).map (fun d => d.parameters.length) = some 0 := ⟨by decide +kernel, by decide +kernel, by decide +kernel⟩
theorem k6_53 : pm_LV 6 53 mMo_firstDraft 0 := pm_mkLV (pm_in (List.mem_of_getElem? (i := 792) (by decide +kernel)) (by decide +kernel)) n_mMo_firstDraft s_mMo_firstDraft i_mMo_firstDraft p_mMo_firstDraft (by decide +kernel) ok_mMo_firstDraft
theorem i_mMo_readLine : Cond.initialized mMo_readLine.2.1.cls ∈ pm_gw := pm_in (List.mem_of_getElem? (i := 7) (by decide +kernel)) (by decide +kernel)
theorem n_mMo_readLine : Cond.instanceMethod mMo_readLine.2.1 ∈ pm_gw := pm_in (List.mem_of_getElem? (i := 947) (by decide +kernel)) (by decide +kernel)
theorem s_mMo_readLine : Cond.selects mMo_readLine.2.1.cls mMo_readLine.2.1 mMo_readLine.2.1 ∈ pm_gw := pm_ins (List.mem_of_getElem? (i := 24) (by decide +kernel)) (by decide +kernel)
theorem p_mMo_readLine : mMo_readLine.2.1.cls ≠ "java/lang/invoke/MethodHandle" ∧ mMo_readLine.2.1.cls ≠ "java/lang/invoke/VarHandle" ∧ (parseMethodDescriptor mMo_readLine.2.1.desc).map (fun d => d.parameters.length) = some 0 := ⟨by decide +kernel, by decide +kernel, by decide +kernel⟩
theorem k6_163 : pm_LV 6 163 mMo_readLine 0 := pm_mkLV (pm_in (List.mem_of_getElem? (i := 945) (by decide +kernel)) (by decide +kernel)) n_mMo_readLine s_mMo_readLine i_mMo_readLine p_mMo_readLine (by decide +kernel) ok_mMo_readLine
theorem i_mMo_drawsCome : Cond.initialized mMo_drawsCome.2.1.cls ∈ pm_gw := pm_in (List.mem_of_getElem? (i := 7) (by decide +kernel)) (by decide +kernel)
theorem n_mMo_drawsCome : Cond.instanceMethod mMo_drawsCome.2.1 ∈ pm_gw := pm_in (List.mem_of_getElem? (i := 983) (by decide +kernel)) (by decide +kernel)
theorem s_mMo_drawsCome : Cond.selects mMo_drawsCome.2.1.cls mMo_drawsCome.2.1 mMo_drawsCome.2.1 ∈ pm_gw := pm_ins (List.mem_of_getElem? (i := 33) (by decide +kernel)) (by decide +kernel)
theorem p_mMo_drawsCome : mMo_drawsCome.2.1.cls ≠ "java/lang/invoke/MethodHandle" ∧ mMo_drawsCome.2.1.cls ≠ "java/lang/invoke/VarHandle" ∧ (parseMethodDescriptor mMo_drawsCome.2.1.desc).map (fun d => d.parameters.length) = some 0 := ⟨by decide +kernel, by decide +kernel, by decide +kernel⟩
theorem k6_166 : pm_LV 6 166 mMo_drawsCome 0 := pm_mkLV (pm_in (List.mem_of_getElem? (i := 981) (by decide +kernel)) (by decide +kernel)) n_mMo_drawsCome s_mMo_drawsCome i_mMo_drawsCome p_mMo_drawsCome (by decide +kernel) ok_mMo_drawsCome
theorem i_mMo_keepDraft : Cond.initialized mMo_keepDraft.2.1.cls ∈ pm_gw := pm_in (List.mem_of_getElem? (i := 7) (by decide +kernel)) (by decide +kernel)
theorem n_mMo_keepDraft : Cond.instanceMethod mMo_keepDraft.2.1 ∈ pm_gw := pm_in (List.mem_of_getElem? (i := 798) (by decide +kernel)) (by decide +kernel)
theorem s_mMo_keepDraft : Cond.selects mMo_keepDraft.2.1.cls mMo_keepDraft.2.1 mMo_keepDraft.2.1 ∈ pm_gw := pm_ins (List.mem_of_getElem? (i := 20) (by decide +kernel)) (by decide +kernel)
theorem p_mMo_keepDraft : mMo_keepDraft.2.1.cls ≠ "java/lang/invoke/MethodHandle" ∧ mMo_keepDraft.2.1.cls ≠ "java/lang/invoke/VarHandle" ∧ (parseMethodDescriptor mMo_keepDraft.2.1.desc).map (fun d => d.parameters.length) = some 0 := ⟨by decide +kernel, by decide +kernel, by decide +kernel⟩
theorem k6_56 : pm_LV 6 56 mMo_keepDraft 0 := pm_mkLV (pm_in (List.mem_of_getElem? (i := 796) (by decide +kernel)) (by decide +kernel)) n_mMo_keepDraft s_mMo_keepDraft i_mMo_keepDraft p_mMo_keepDraft (by decide +kernel) ok_mMo_keepDraft
theorem i_mMo_flag : Cond.initialized mMo_flag.2.1.cls ∈ pm_gw := pm_in (List.mem_of_getElem? (i := 7) (by decide +kernel)) (by decide +kernel)
theorem n_mMo_flag : Cond.static mMo_flag.2.1 ∈ pm_gw := pm_in (List.mem_of_getElem? (i := 1018) (by decide +kernel)) (by decide +kernel)
theorem p_mMo_flag : mMo_flag.2.1.cls ≠ "java/lang/invoke/MethodHandle" ∧ mMo_flag.2.1.cls ≠ "java/lang/invoke/VarHandle" ∧ (parseMethodDescriptor mMo_flag.2.1.desc).map (fun d => d.parameters.length) = some 1 := ⟨by decide +kernel, by decide +kernel, by decide +kernel⟩
theorem k6_181 : pm_LS 6 181 mMo_flag 1 := pm_mkLS (pm_in (List.mem_of_getElem? (i := 1017) (by decide +kernel)) (by decide +kernel)) n_mMo_flag i_mMo_flag p_mMo_flag ok_mMo_flag
theorem i_mMo_findLeft : Cond.initialized mMo_findLeft.2.1.cls ∈ pm_gw := pm_in (List.mem_of_getElem? (i := 7) (by decide +kernel)) (by decide +kernel)
theorem n_mMo_findLeft : Cond.instanceMethod mMo_findLeft.2.1 ∈ pm_gw := pm_in (List.mem_of_getElem? (i := 1011) (by decide +kernel)) (by decide +kernel)
theorem s_mMo_findLeft : Cond.selects mMo_findLeft.2.1.cls mMo_findLeft.2.1 mMo_findLeft.2.1 ∈ pm_gw := pm_ins (List.mem_of_getElem? (i := 38) (by decide +kernel)) (by decide +kernel)
theorem p_mMo_findLeft : mMo_findLeft.2.1.cls ≠ "java/lang/invoke/MethodHandle" ∧ mMo_findLeft.2.1.cls ≠ "java/lang/invoke/VarHandle" ∧ (parseMethodDescriptor mMo_findLeft.2.1.desc).map (fun d => d.parameters.length) = some 0 := ⟨by decide +kernel, by decide +kernel, by decide +kernel⟩
theorem k6_185 : pm_LV 6 185 mMo_findLeft 0 := pm_mkLV (pm_in (List.mem_of_getElem? (i := 1009) (by decide +kernel)) (by decide +kernel)) n_mMo_findLeft s_mMo_findLeft i_mMo_findLeft p_mMo_findLeft (by decide +kernel) ok_mMo_findLeft
theorem i_mMo_wheel : Cond.initialized mMo_wheel.2.1.cls ∈ pm_gw := pm_in (List.mem_of_getElem? (i := 7) (by decide +kernel)) (by decide +kernel)
theorem n_mMo_wheel : Cond.instanceMethod mMo_wheel.2.1 ∈ pm_gw := pm_in (List.mem_of_getElem? (i := 1015) (by decide +kernel)) (by decide +kernel)
theorem s_mMo_wheel : Cond.selects mMo_wheel.2.1.cls mMo_wheel.2.1 mMo_wheel.2.1 ∈ pm_gw := pm_ins (List.mem_of_getElem? (i := 39) (by decide +kernel)) (by decide +kernel)
theorem p_mMo_wheel : mMo_wheel.2.1.cls ≠ "java/lang/invoke/MethodHandle" ∧ mMo_wheel.2.1.cls ≠ "java/lang/invoke/VarHandle" ∧ (parseMethodDescriptor mMo_wheel.2.1.desc).map (fun d => d.parameters.length) = some 0 := ⟨by decide +kernel, by decide +kernel, by decide +kernel⟩
theorem k6_233 : pm_LV 6 233 mMo_wheel 0 := pm_mkLV (pm_in (List.mem_of_getElem? (i := 1013) (by decide +kernel)) (by decide +kernel)) n_mMo_wheel s_mMo_wheel i_mMo_wheel p_mMo_wheel (by decide +kernel) ok_mMo_wheel
theorem i_mMo_wheelPrizes : Cond.initialized mMo_wheelPrizes.2.1.cls ∈ pm_gw := pm_in (List.mem_of_getElem? (i := 7) (by decide +kernel)) (by decide +kernel)
theorem n_mMo_wheelPrizes : Cond.instanceMethod mMo_wheelPrizes.2.1 ∈ pm_gw := pm_in (List.mem_of_getElem? (i := 1022) (by decide +kernel)) (by decide +kernel)
theorem s_mMo_wheelPrizes : Cond.selects mMo_wheelPrizes.2.1.cls mMo_wheelPrizes.2.1 mMo_wheelPrizes.2.1 ∈ pm_gw := pm_ins (List.mem_of_getElem? (i := 40) (by decide +kernel)) (by decide +kernel)
theorem p_mMo_wheelPrizes : mMo_wheelPrizes.2.1.cls ≠ "java/lang/invoke/MethodHandle" ∧ mMo_wheelPrizes.2.1.cls ≠ "java/lang/invoke/VarHandle" ∧ (parseMethodDescriptor mMo_wheelPrizes.2.1.desc).map (fun d => d.parameters.length) = some 0 := ⟨by decide +kernel, by decide +kernel, by decide +kernel⟩
theorem k6_236 : pm_LV 6 236 mMo_wheelPrizes 0 := pm_mkLV (pm_in (List.mem_of_getElem? (i := 1020) (by decide +kernel)) (by decide +kernel)) n_mMo_wheelPrizes s_mMo_wheelPrizes i_mMo_wheelPrizes p_mMo_wheelPrizes (by decide +kernel) ok_mMo_wheelPrizes
theorem i_mMo_sumInWheel : Cond.initialized mMo_sumInWheel.2.1.cls ∈ pm_gw := pm_in (List.mem_of_getElem? (i := 7) (by decide +kernel)) (by decide +kernel)
theorem n_mMo_sumInWheel : Cond.instanceMethod mMo_sumInWheel.2.1 ∈ pm_gw := pm_in (List.mem_of_getElem? (i := 1026) (by decide +kernel)) (by decide +kernel)
theorem s_mMo_sumInWheel : Cond.selects mMo_sumInWheel.2.1.cls mMo_sumInWheel.2.1 mMo_sumInWheel.2.1 ∈ pm_gw := pm_ins (List.mem_of_getElem? (i := 41) (by decide +kernel)) (by decide +kernel)
theorem p_mMo_sumInWheel : mMo_sumInWheel.2.1.cls ≠ "java/lang/invoke/MethodHandle" ∧ mMo_sumInWheel.2.1.cls ≠ "java/lang/invoke/VarHandle" ∧ (parseMethodDescriptor mMo_sumInWheel.2.1.desc).map (fun d => d.parameters.length) = some 0 := ⟨by decide +kernel, by decide +kernel, by decide +kernel⟩
theorem k6_239 : pm_LV 6 239 mMo_sumInWheel 0 := pm_mkLV (pm_in (List.mem_of_getElem? (i := 1024) (by decide +kernel)) (by decide +kernel)) n_mMo_sumInWheel s_mMo_sumInWheel i_mMo_sumInWheel p_mMo_sumInWheel (by decide +kernel) ok_mMo_sumInWheel
theorem i_mMo_isPerson : Cond.initialized mMo_isPerson.2.1.cls ∈ pm_gw := pm_in (List.mem_of_getElem? (i := 7) (by decide +kernel)) (by decide +kernel)
theorem n_mMo_isPerson : Cond.instanceMethod mMo_isPerson.2.1 ∈ pm_gw := pm_in (List.mem_of_getElem? (i := 1034) (by decide +kernel)) (by decide +kernel)
theorem s_mMo_isPerson : Cond.selects mMo_isPerson.2.1.cls mMo_isPerson.2.1 mMo_isPerson.2.1 ∈ pm_gw := pm_ins (List.mem_of_getElem? (i := 42) (by decide +kernel)) (by decide +kernel)
theorem p_mMo_isPerson : mMo_isPerson.2.1.cls ≠ "java/lang/invoke/MethodHandle" ∧ mMo_isPerson.2.1.cls ≠ "java/lang/invoke/VarHandle" ∧ (parseMethodDescriptor mMo_isPerson.2.1.desc).map (fun d => d.parameters.length) = some 1 := ⟨by decide +kernel, by decide +kernel, by decide +kernel⟩
theorem k6_242 : pm_LV 6 242 mMo_isPerson 1 := pm_mkLV (pm_in (List.mem_of_getElem? (i := 1032) (by decide +kernel)) (by decide +kernel)) n_mMo_isPerson s_mMo_isPerson i_mMo_isPerson p_mMo_isPerson (by decide +kernel) ok_mMo_isPerson
theorem i_mMo_starts : Cond.initialized mMo_starts.2.1.cls ∈ pm_gw := pm_in (List.mem_of_getElem? (i := 7) (by decide +kernel)) (by decide +kernel)
theorem n_mMo_starts : Cond.instanceMethod mMo_starts.2.1 ∈ pm_gw := pm_in (List.mem_of_getElem? (i := 1039) (by decide +kernel)) (by decide +kernel)
theorem s_mMo_starts : Cond.selects mMo_starts.2.1.cls mMo_starts.2.1 mMo_starts.2.1 ∈ pm_gw := pm_ins (List.mem_of_getElem? (i := 43) (by decide +kernel)) (by decide +kernel)
theorem p_mMo_starts : mMo_starts.2.1.cls ≠ "java/lang/invoke/MethodHandle" ∧ mMo_starts.2.1.cls ≠ "java/lang/invoke/VarHandle" ∧ (parseMethodDescriptor mMo_starts.2.1.desc).map (fun d => d.parameters.length) = some 0 := ⟨by decide +kernel, by decide +kernel, by decide +kernel⟩
theorem k6_194 : pm_LV 6 194 mMo_starts 0 := pm_mkLV (pm_in (List.mem_of_getElem? (i := 1037) (by decide +kernel)) (by decide +kernel)) n_mMo_starts s_mMo_starts i_mMo_starts p_mMo_starts (by decide +kernel) ok_mMo_starts
theorem i_mMo_isTicket : Cond.initialized mMo_isTicket.2.1.cls ∈ pm_gw := pm_in (List.mem_of_getElem? (i := 7) (by decide +kernel)) (by decide +kernel)
theorem n_mMo_isTicket : Cond.instanceMethod mMo_isTicket.2.1 ∈ pm_gw := pm_in (List.mem_of_getElem? (i := 1047) (by decide +kernel)) (by decide +kernel)
theorem s_mMo_isTicket : Cond.selects mMo_isTicket.2.1.cls mMo_isTicket.2.1 mMo_isTicket.2.1 ∈ pm_gw := pm_ins (List.mem_of_getElem? (i := 44) (by decide +kernel)) (by decide +kernel)
theorem p_mMo_isTicket : mMo_isTicket.2.1.cls ≠ "java/lang/invoke/MethodHandle" ∧ mMo_isTicket.2.1.cls ≠ "java/lang/invoke/VarHandle" ∧ (parseMethodDescriptor mMo_isTicket.2.1.desc).map (fun d => d.parameters.length) = some 1 := ⟨by decide +kernel, by decide +kernel, by decide +kernel⟩
theorem k6_247 : pm_LV 6 247 mMo_isTicket 1 := pm_mkLV (pm_in (List.mem_of_getElem? (i := 1045) (by decide +kernel)) (by decide +kernel)) n_mMo_isTicket s_mMo_isTicket i_mMo_isTicket p_mMo_isTicket (by decide +kernel) ok_mMo_isTicket
theorem i_mMo_isPart : Cond.initialized mMo_isPart.2.1.cls ∈ pm_gw := pm_in (List.mem_of_getElem? (i := 7) (by decide +kernel)) (by decide +kernel)
theorem n_mMo_isPart : Cond.static mMo_isPart.2.1 ∈ pm_gw := pm_in (List.mem_of_getElem? (i := 1055) (by decide +kernel)) (by decide +kernel)
theorem p_mMo_isPart : mMo_isPart.2.1.cls ≠ "java/lang/invoke/MethodHandle" ∧ mMo_isPart.2.1.cls ≠ "java/lang/invoke/VarHandle" ∧ (parseMethodDescriptor mMo_isPart.2.1.desc).map (fun d => d.parameters.length) = some 1 := ⟨by decide +kernel, by decide +kernel, by decide +kernel⟩
theorem k6_252 : pm_LS 6 252 mMo_isPart 1 := pm_mkLS (pm_in (List.mem_of_getElem? (i := 1054) (by decide +kernel)) (by decide +kernel)) n_mMo_isPart i_mMo_isPart p_mMo_isPart ok_mMo_isPart
theorem i_mMo_isDrawn : Cond.initialized mMo_isDrawn.2.1.cls ∈ pm_gw := pm_in (List.mem_of_getElem? (i := 7) (by decide +kernel)) (by decide +kernel)
theorem n_mMo_isDrawn : Cond.instanceMethod mMo_isDrawn.2.1 ∈ pm_gw := pm_in (List.mem_of_getElem? (i := 1065) (by decide +kernel)) (by decide +kernel)
theorem s_mMo_isDrawn : Cond.selects mMo_isDrawn.2.1.cls mMo_isDrawn.2.1 mMo_isDrawn.2.1 ∈ pm_gw := pm_ins (List.mem_of_getElem? (i := 45) (by decide +kernel)) (by decide +kernel)
theorem p_mMo_isDrawn : mMo_isDrawn.2.1.cls ≠ "java/lang/invoke/MethodHandle" ∧ mMo_isDrawn.2.1.cls ≠ "java/lang/invoke/VarHandle" ∧ (parseMethodDescriptor mMo_isDrawn.2.1.desc).map (fun d => d.parameters.length) = some 1 := ⟨by decide +kernel, by decide +kernel, by decide +kernel⟩
theorem k6_259 : pm_LV 6 259 mMo_isDrawn 1 := pm_mkLV (pm_in (List.mem_of_getElem? (i := 1063) (by decide +kernel)) (by decide +kernel)) n_mMo_isDrawn s_mMo_isDrawn i_mMo_isDrawn p_mMo_isDrawn (by decide +kernel) ok_mMo_isDrawn
theorem i_mMo_becomes : Cond.initialized mMo_becomes.2.1.cls ∈ pm_gw := pm_in (List.mem_of_getElem? (i := 7) (by decide +kernel)) (by decide +kernel)
theorem n_mMo_becomes : Cond.instanceMethod mMo_becomes.2.1 ∈ pm_gw := pm_in (List.mem_of_getElem? (i := 1069) (by decide +kernel)) (by decide +kernel)
theorem s_mMo_becomes : Cond.selects mMo_becomes.2.1.cls mMo_becomes.2.1 mMo_becomes.2.1 ∈ pm_gw := pm_ins (List.mem_of_getElem? (i := 46) (by decide +kernel)) (by decide +kernel)
theorem p_mMo_becomes : mMo_becomes.2.1.cls ≠ "java/lang/invoke/MethodHandle" ∧ mMo_becomes.2.1.cls ≠ "java/lang/invoke/VarHandle" ∧ (parseMethodDescriptor mMo_becomes.2.1.desc).map (fun d => d.parameters.length) = some 2 := ⟨by decide +kernel, by decide +kernel, by decide +kernel⟩
theorem k6_262 : pm_LV 6 262 mMo_becomes 2 := pm_mkLV (pm_in (List.mem_of_getElem? (i := 1067) (by decide +kernel)) (by decide +kernel)) n_mMo_becomes s_mMo_becomes i_mMo_becomes p_mMo_becomes (by decide +kernel) ok_mMo_becomes
theorem i_mMo_settles : Cond.initialized mMo_settles.2.1.cls ∈ pm_gw := pm_in (List.mem_of_getElem? (i := 7) (by decide +kernel)) (by decide +kernel)
theorem n_mMo_settles : Cond.instanceMethod mMo_settles.2.1 ∈ pm_gw := pm_in (List.mem_of_getElem? (i := 1086) (by decide +kernel)) (by decide +kernel)
theorem s_mMo_settles : Cond.selects mMo_settles.2.1.cls mMo_settles.2.1 mMo_settles.2.1 ∈ pm_gw := pm_ins (List.mem_of_getElem? (i := 47) (by decide +kernel)) (by decide +kernel)
theorem p_mMo_settles : mMo_settles.2.1.cls ≠ "java/lang/invoke/MethodHandle" ∧ mMo_settles.2.1.cls ≠ "java/lang/invoke/VarHandle" ∧ (parseMethodDescriptor mMo_settles.2.1.desc).map (fun d => d.parameters.length) = some 0 := ⟨by decide +kernel, by decide +kernel, by decide +kernel⟩
theorem k6_267 : pm_LV 6 267 mMo_settles 0 := pm_mkLV (pm_in (List.mem_of_getElem? (i := 1084) (by decide +kernel)) (by decide +kernel)) n_mMo_settles s_mMo_settles i_mMo_settles p_mMo_settles (by decide +kernel) ok_mMo_settles
theorem i_mMo_common : Cond.initialized mMo_common.2.1.cls ∈ pm_gw := pm_in (List.mem_of_getElem? (i := 7) (by decide +kernel)) (by decide +kernel)
theorem n_mMo_common : Cond.static mMo_common.2.1 ∈ pm_gw := pm_in (List.mem_of_getElem? (i := 1098) (by decide +kernel)) (by decide +kernel)
theorem p_mMo_common : mMo_common.2.1.cls ≠ "java/lang/invoke/MethodHandle" ∧ mMo_common.2.1.cls ≠ "java/lang/invoke/VarHandle" ∧ (parseMethodDescriptor mMo_common.2.1.desc).map (fun d => d.parameters.length) = some 2 := ⟨by decide +kernel, by decide +kernel, by decide +kernel⟩
theorem k6_270 : pm_LS 6 270 mMo_common 2 := pm_mkLS (pm_in (List.mem_of_getElem? (i := 1097) (by decide +kernel)) (by decide +kernel)) n_mMo_common i_mMo_common p_mMo_common ok_mMo_common
theorem i_mMo_told : Cond.initialized mMo_told.2.1.cls ∈ pm_gw := pm_in (List.mem_of_getElem? (i := 7) (by decide +kernel)) (by decide +kernel)
theorem n_mMo_told : Cond.static mMo_told.2.1 ∈ pm_gw := pm_in (List.mem_of_getElem? (i := 1095) (by decide +kernel)) (by decide +kernel)
theorem p_mMo_told : mMo_told.2.1.cls ≠ "java/lang/invoke/MethodHandle" ∧ mMo_told.2.1.cls ≠ "java/lang/invoke/VarHandle" ∧ (parseMethodDescriptor mMo_told.2.1.desc).map (fun d => d.parameters.length) = some 3 := ⟨by decide +kernel, by decide +kernel, by decide +kernel⟩
theorem k6_278 : pm_LS 6 278 mMo_told 3 := pm_mkLS (pm_in (List.mem_of_getElem? (i := 1094) (by decide +kernel)) (by decide +kernel)) n_mMo_told i_mMo_told p_mMo_told ok_mMo_told
theorem i_mMo_power : Cond.initialized mMo_power.2.1.cls ∈ pm_gw := pm_in (List.mem_of_getElem? (i := 7) (by decide +kernel)) (by decide +kernel)
theorem n_mMo_power : Cond.instanceMethod mMo_power.2.1 ∈ pm_gw := pm_in (List.mem_of_getElem? (i := 1123) (by decide +kernel)) (by decide +kernel)
theorem s_mMo_power : Cond.selects mMo_power.2.1.cls mMo_power.2.1 mMo_power.2.1 ∈ pm_gw := pm_ins (List.mem_of_getElem? (i := 51) (by decide +kernel)) (by decide +kernel)
theorem p_mMo_power : mMo_power.2.1.cls ≠ "java/lang/invoke/MethodHandle" ∧ mMo_power.2.1.cls ≠ "java/lang/invoke/VarHandle" ∧ (parseMethodDescriptor mMo_power.2.1.desc).map (fun d => d.parameters.length) = some 1 := ⟨by decide +kernel, by decide +kernel, by decide +kernel⟩
theorem k6_188 : pm_LV 6 188 mMo_power 1 := pm_mkLV (pm_in (List.mem_of_getElem? (i := 1121) (by decide +kernel)) (by decide +kernel)) n_mMo_power s_mMo_power i_mMo_power p_mMo_power (by decide +kernel) ok_mMo_power
theorem i_mMo_addsOrder : Cond.initialized mMo_addsOrder.2.1.cls ∈ pm_gw := pm_in (List.mem_of_getElem? (i := 7) (by decide +kernel)) (by decide +kernel)
theorem n_mMo_addsOrder : Cond.instanceMethod mMo_addsOrder.2.1 ∈ pm_gw := pm_in (List.mem_of_getElem? (i := 1127) (by decide +kernel)) (by decide +kernel)
theorem s_mMo_addsOrder : Cond.selects mMo_addsOrder.2.1.cls mMo_addsOrder.2.1 mMo_addsOrder.2.1 ∈ pm_gw := pm_ins (List.mem_of_getElem? (i := 52) (by decide +kernel)) (by decide +kernel)
theorem p_mMo_addsOrder : mMo_addsOrder.2.1.cls ≠ "java/lang/invoke/MethodHandle" ∧ mMo_addsOrder.2.1.cls ≠ "java/lang/invoke/VarHandle" ∧ (parseMethodDescriptor mMo_addsOrder.2.1.desc).map (fun d => d.parameters.length) = some 1 := ⟨by decide +kernel, by decide +kernel, by decide +kernel⟩
theorem k6_191 : pm_LV 6 191 mMo_addsOrder 1 := pm_mkLV (pm_in (List.mem_of_getElem? (i := 1125) (by decide +kernel)) (by decide +kernel)) n_mMo_addsOrder s_mMo_addsOrder i_mMo_addsOrder p_mMo_addsOrder (by decide +kernel) ok_mMo_addsOrder
theorem i_mMo_findOrders : Cond.initialized mMo_findOrders.2.1.cls ∈ pm_gw := pm_in (List.mem_of_getElem? (i := 7) (by decide +kernel)) (by decide +kernel)
theorem n_mMo_findOrders : Cond.instanceMethod mMo_findOrders.2.1 ∈ pm_gw := pm_in (List.mem_of_getElem? (i := 1119) (by decide +kernel)) (by decide +kernel)
theorem s_mMo_findOrders : Cond.selects mMo_findOrders.2.1.cls mMo_findOrders.2.1 mMo_findOrders.2.1 ∈ pm_gw := pm_ins (List.mem_of_getElem? (i := 50) (by decide +kernel)) (by decide +kernel)
theorem p_mMo_findOrders : mMo_findOrders.2.1.cls ≠ "java/lang/invoke/MethodHandle" ∧ mMo_findOrders.2.1.cls ≠ "java/lang/invoke/VarHandle" ∧ (parseMethodDescriptor mMo_findOrders.2.1.desc).map (fun d => d.parameters.length) = some 0 := ⟨by decide +kernel, by decide +kernel, by decide +kernel⟩
theorem k6_203 : pm_LV 6 203 mMo_findOrders 0 := pm_mkLV (pm_in (List.mem_of_getElem? (i := 1117) (by decide +kernel)) (by decide +kernel)) n_mMo_findOrders s_mMo_findOrders i_mMo_findOrders p_mMo_findOrders (by decide +kernel) ok_mMo_findOrders
theorem i_mMo_waysMany : Cond.initialized mMo_waysMany.2.1.cls ∈ pm_gw := pm_in (List.mem_of_getElem? (i := 7) (by decide +kernel)) (by decide +kernel)
theorem n_mMo_waysMany : Cond.instanceMethod mMo_waysMany.2.1 ∈ pm_gw := pm_in (List.mem_of_getElem? (i := 1133) (by decide +kernel)) (by decide +kernel)
theorem s_mMo_waysMany : Cond.selects mMo_waysMany.2.1.cls mMo_waysMany.2.1 mMo_waysMany.2.1 ∈ pm_gw := pm_ins (List.mem_of_getElem? (i := 53) (by decide +kernel)) (by decide +kernel)
theorem p_mMo_waysMany : mMo_waysMany.2.1.cls ≠ "java/lang/invoke/MethodHandle" ∧ mMo_waysMany.2.1.cls ≠ "java/lang/invoke/VarHandle" ∧ (parseMethodDescriptor mMo_waysMany.2.1.desc).map (fun d => d.parameters.length) = some 0 := ⟨by decide +kernel, by decide +kernel, by decide +kernel⟩
theorem k6_221 : pm_LV 6 221 mMo_waysMany 0 := pm_mkLV (pm_in (List.mem_of_getElem? (i := 1131) (by decide +kernel)) (by decide +kernel)) n_mMo_waysMany s_mMo_waysMany i_mMo_waysMany p_mMo_waysMany (by decide +kernel) ok_mMo_waysMany
theorem i_mMo_startsTried : Cond.initialized mMo_startsTried.2.1.cls ∈ pm_gw := pm_in (List.mem_of_getElem? (i := 7) (by decide +kernel)) (by decide +kernel)
theorem n_mMo_startsTried : Cond.instanceMethod mMo_startsTried.2.1 ∈ pm_gw := pm_in (List.mem_of_getElem? (i := 1137) (by decide +kernel)) (by decide +kernel)
theorem s_mMo_startsTried : Cond.selects mMo_startsTried.2.1.cls mMo_startsTried.2.1 mMo_startsTried.2.1 ∈ pm_gw := pm_ins (List.mem_of_getElem? (i := 54) (by decide +kernel)) (by decide +kernel)
theorem p_mMo_startsTried : mMo_startsTried.2.1.cls ≠ "java/lang/invoke/MethodHandle" ∧ mMo_startsTried.2.1.cls ≠ "java/lang/invoke/VarHandle" ∧ (parseMethodDescriptor mMo_startsTried.2.1.desc).map (fun d => d.parameters.length) = some 0 := ⟨by decide +kernel, by decide +kernel, by decide +kernel⟩
theorem k6_224 : pm_LV 6 224 mMo_startsTried 0 := pm_mkLV (pm_in (List.mem_of_getElem? (i := 1135) (by decide +kernel)) (by decide +kernel)) n_mMo_startsTried s_mMo_startsTried i_mMo_startsTried p_mMo_startsTried (by decide +kernel) ok_mMo_startsTried
theorem i_mMo_goesBy : Cond.initialized mMo_goesBy.2.1.cls ∈ pm_gw := pm_in (List.mem_of_getElem? (i := 7) (by decide +kernel)) (by decide +kernel)
theorem n_mMo_goesBy : Cond.instanceMethod mMo_goesBy.2.1 ∈ pm_gw := pm_in (List.mem_of_getElem? (i := 1141) (by decide +kernel)) (by decide +kernel)
theorem s_mMo_goesBy : Cond.selects mMo_goesBy.2.1.cls mMo_goesBy.2.1 mMo_goesBy.2.1 ∈ pm_gw := pm_ins (List.mem_of_getElem? (i := 55) (by decide +kernel)) (by decide +kernel)
theorem p_mMo_goesBy : mMo_goesBy.2.1.cls ≠ "java/lang/invoke/MethodHandle" ∧ mMo_goesBy.2.1.cls ≠ "java/lang/invoke/VarHandle" ∧ (parseMethodDescriptor mMo_goesBy.2.1.desc).map (fun d => d.parameters.length) = some 1 := ⟨by decide +kernel, by decide +kernel, by decide +kernel⟩
theorem k6_227 : pm_LV 6 227 mMo_goesBy 1 := pm_mkLV (pm_in (List.mem_of_getElem? (i := 1139) (by decide +kernel)) (by decide +kernel)) n_mMo_goesBy s_mMo_goesBy i_mMo_goesBy p_mMo_goesBy (by decide +kernel) ok_mMo_goesBy
theorem i_mMo_firstTicket : Cond.initialized mMo_firstTicket.2.1.cls ∈ pm_gw := pm_in (List.mem_of_getElem? (i := 7) (by decide +kernel)) (by decide +kernel)
theorem n_mMo_firstTicket : Cond.instanceMethod mMo_firstTicket.2.1 ∈ pm_gw := pm_in (List.mem_of_getElem? (i := 1145) (by decide +kernel)) (by decide +kernel)
theorem s_mMo_firstTicket : Cond.selects mMo_firstTicket.2.1.cls mMo_firstTicket.2.1 mMo_firstTicket.2.1 ∈ pm_gw := pm_ins (List.mem_of_getElem? (i := 56) (by decide +kernel)) (by decide +kernel)
theorem p_mMo_firstTicket : mMo_firstTicket.2.1.cls ≠ "java/lang/invoke/MethodHandle" ∧ mMo_firstTicket.2.1.cls ≠ "java/lang/invoke/VarHandle" ∧ (parseMethodDescriptor mMo_firstTicket.2.1.desc).map (fun d => d.parameters.length) = some 1 := ⟨by decide +kernel, by decide +kernel, by decide +kernel⟩
theorem k6_230 : pm_LV 6 230 mMo_firstTicket 1 := pm_mkLV (pm_in (List.mem_of_getElem? (i := 1143) (by decide +kernel)) (by decide +kernel)) n_mMo_firstTicket s_mMo_firstTicket i_mMo_firstTicket p_mMo_firstTicket (by decide +kernel) ok_mMo_firstTicket
theorem i_mMo_tries : Cond.initialized mMo_tries.2.1.cls ∈ pm_gw := pm_in (List.mem_of_getElem? (i := 7) (by decide +kernel)) (by decide +kernel)
theorem n_mMo_tries : Cond.instanceMethod mMo_tries.2.1 ∈ pm_gw := pm_in (List.mem_of_getElem? (i := 1111) (by decide +kernel)) (by decide +kernel)
theorem s_mMo_tries : Cond.selects mMo_tries.2.1.cls mMo_tries.2.1 mMo_tries.2.1 ∈ pm_gw := pm_ins (List.mem_of_getElem? (i := 48) (by decide +kernel)) (by decide +kernel)
theorem p_mMo_tries : mMo_tries.2.1.cls ≠ "java/lang/invoke/MethodHandle" ∧ mMo_tries.2.1.cls ≠ "java/lang/invoke/VarHandle" ∧ (parseMethodDescriptor mMo_tries.2.1.desc).map (fun d => d.parameters.length) = some 2 := ⟨by decide +kernel, by decide +kernel, by decide +kernel⟩
theorem k6_284 : pm_LV 6 284 mMo_tries 2 := pm_mkLV (pm_in (List.mem_of_getElem? (i := 1109) (by decide +kernel)) (by decide +kernel)) n_mMo_tries s_mMo_tries i_mMo_tries p_mMo_tries (by decide +kernel) ok_mMo_tries
theorem i_mMo_findEnds : Cond.initialized mMo_findEnds.2.1.cls ∈ pm_gw := pm_in (List.mem_of_getElem? (i := 7) (by decide +kernel)) (by decide +kernel)
theorem n_mMo_findEnds : Cond.instanceMethod mMo_findEnds.2.1 ∈ pm_gw := pm_in (List.mem_of_getElem? (i := 1115) (by decide +kernel)) (by decide +kernel)
theorem s_mMo_findEnds : Cond.selects mMo_findEnds.2.1.cls mMo_findEnds.2.1 mMo_findEnds.2.1 ∈ pm_gw := pm_ins (List.mem_of_getElem? (i := 49) (by decide +kernel)) (by decide +kernel)
theorem p_mMo_findEnds : mMo_findEnds.2.1.cls ≠ "java/lang/invoke/MethodHandle" ∧ mMo_findEnds.2.1.cls ≠ "java/lang/invoke/VarHandle" ∧ (parseMethodDescriptor mMo_findEnds.2.1.desc).map (fun d => d.parameters.length) = some 1 := ⟨by decide +kernel, by decide +kernel, by decide +kernel⟩
theorem k6_288 : pm_LV 6 288 mMo_findEnds 1 := pm_mkLV (pm_in (List.mem_of_getElem? (i := 1113) (by decide +kernel)) (by decide +kernel)) n_mMo_findEnds s_mMo_findEnds i_mMo_findEnds p_mMo_findEnds (by decide +kernel) ok_mMo_findEnds
theorem i_mMo_ownerOf : Cond.initialized mMo_ownerOf.2.1.cls ∈ pm_gw := pm_in (List.mem_of_getElem? (i := 7) (by decide +kernel)) (by decide +kernel)
theorem n_mMo_ownerOf : Cond.instanceMethod mMo_ownerOf.2.1 ∈ pm_gw := pm_in (List.mem_of_getElem? (i := 1167) (by decide +kernel)) (by decide +kernel)
theorem s_mMo_ownerOf : Cond.selects mMo_ownerOf.2.1.cls mMo_ownerOf.2.1 mMo_ownerOf.2.1 ∈ pm_gw := pm_ins (List.mem_of_getElem? (i := 57) (by decide +kernel)) (by decide +kernel)
theorem p_mMo_ownerOf : mMo_ownerOf.2.1.cls ≠ "java/lang/invoke/MethodHandle" ∧ mMo_ownerOf.2.1.cls ≠ "java/lang/invoke/VarHandle" ∧ (parseMethodDescriptor mMo_ownerOf.2.1.desc).map (fun d => d.parameters.length) = some 1 := ⟨by decide +kernel, by decide +kernel, by decide +kernel⟩
theorem k6_295 : pm_LV 6 295 mMo_ownerOf 1 := pm_mkLV (pm_in (List.mem_of_getElem? (i := 1165) (by decide +kernel)) (by decide +kernel)) n_mMo_ownerOf s_mMo_ownerOf i_mMo_ownerOf p_mMo_ownerOf (by decide +kernel) ok_mMo_ownerOf
theorem i_mMo_isFit : Cond.initialized mMo_isFit.2.1.cls ∈ pm_gw := pm_in (List.mem_of_getElem? (i := 7) (by decide +kernel)) (by decide +kernel)
theorem n_mMo_isFit : Cond.instanceMethod mMo_isFit.2.1 ∈ pm_gw := pm_in (List.mem_of_getElem? (i := 1195) (by decide +kernel)) (by decide +kernel)
theorem s_mMo_isFit : Cond.selects mMo_isFit.2.1.cls mMo_isFit.2.1 mMo_isFit.2.1 ∈ pm_gw := pm_ins (List.mem_of_getElem? (i := 58) (by decide +kernel)) (by decide +kernel)
theorem p_mMo_isFit : mMo_isFit.2.1.cls ≠ "java/lang/invoke/MethodHandle" ∧ mMo_isFit.2.1.cls ≠ "java/lang/invoke/VarHandle" ∧ (parseMethodDescriptor mMo_isFit.2.1.desc).map (fun d => d.parameters.length) = some 1 := ⟨by decide +kernel, by decide +kernel, by decide +kernel⟩
theorem k6_298 : pm_LV 6 298 mMo_isFit 1 := pm_mkLV (pm_in (List.mem_of_getElem? (i := 1193) (by decide +kernel)) (by decide +kernel)) n_mMo_isFit s_mMo_isFit i_mMo_isFit p_mMo_isFit (by decide +kernel) ok_mMo_isFit
theorem i_mMo_atOf : Cond.initialized mMo_atOf.2.1.cls ∈ pm_gw := pm_in (List.mem_of_getElem? (i := 7) (by decide +kernel)) (by decide +kernel)
theorem n_mMo_atOf : Cond.instanceMethod mMo_atOf.2.1 ∈ pm_gw := pm_in (List.mem_of_getElem? (i := 1208) (by decide +kernel)) (by decide +kernel)
theorem s_mMo_atOf : Cond.selects mMo_atOf.2.1.cls mMo_atOf.2.1 mMo_atOf.2.1 ∈ pm_gw := pm_ins (List.mem_of_getElem? (i := 59) (by decide +kernel)) (by decide +kernel)
theorem p_mMo_atOf : mMo_atOf.2.1.cls ≠ "java/lang/invoke/MethodHandle" ∧ mMo_atOf.2.1.cls ≠ "java/lang/invoke/VarHandle" ∧ (parseMethodDescriptor mMo_atOf.2.1.desc).map (fun d => d.parameters.length) = some 2 := ⟨by decide +kernel, by decide +kernel, by decide +kernel⟩
theorem k6_302 : pm_LV 6 302 mMo_atOf 2 := pm_mkLV (pm_in (List.mem_of_getElem? (i := 1206) (by decide +kernel)) (by decide +kernel)) n_mMo_atOf s_mMo_atOf i_mMo_atOf p_mMo_atOf (by decide +kernel) ok_mMo_atOf
theorem i_mMo_copies : Cond.initialized mMo_copies.2.1.cls ∈ pm_gw := pm_in (List.mem_of_getElem? (i := 7) (by decide +kernel)) (by decide +kernel)
theorem n_mMo_copies : Cond.instanceMethod mMo_copies.2.1 ∈ pm_gw := pm_in (List.mem_of_getElem? (i := 1216) (by decide +kernel)) (by decide +kernel)
theorem s_mMo_copies : Cond.selects mMo_copies.2.1.cls mMo_copies.2.1 mMo_copies.2.1 ∈ pm_gw := pm_ins (List.mem_of_getElem? (i := 60) (by decide +kernel)) (by decide +kernel)
theorem p_mMo_copies : mMo_copies.2.1.cls ≠ "java/lang/invoke/MethodHandle" ∧ mMo_copies.2.1.cls ≠ "java/lang/invoke/VarHandle" ∧ (parseMethodDescriptor mMo_copies.2.1.desc).map (fun d => d.parameters.length) = some 2 := ⟨by decide +kernel, by decide +kernel, by decide +kernel⟩
theorem k6_306 : pm_LV 6 306 mMo_copies 2 := pm_mkLV (pm_in (List.mem_of_getElem? (i := 1214) (by decide +kernel)) (by decide +kernel)) n_mMo_copies s_mMo_copies i_mMo_copies p_mMo_copies (by decide +kernel) ok_mMo_copies
theorem i_mMo_isSheet : Cond.initialized mMo_isSheet.2.1.cls ∈ pm_gw := pm_in (List.mem_of_getElem? (i := 7) (by decide +kernel)) (by decide +kernel)
theorem n_mMo_isSheet : Cond.static mMo_isSheet.2.1 ∈ pm_gw := pm_in (List.mem_of_getElem? (i := 1227) (by decide +kernel)) (by decide +kernel)
theorem p_mMo_isSheet : mMo_isSheet.2.1.cls ≠ "java/lang/invoke/MethodHandle" ∧ mMo_isSheet.2.1.cls ≠ "java/lang/invoke/VarHandle" ∧ (parseMethodDescriptor mMo_isSheet.2.1.desc).map (fun d => d.parameters.length) = some 2 := ⟨by decide +kernel, by decide +kernel, by decide +kernel⟩
theorem k6_309 : pm_LS 6 309 mMo_isSheet 2 := pm_mkLS (pm_in (List.mem_of_getElem? (i := 1226) (by decide +kernel)) (by decide +kernel)) n_mMo_isSheet i_mMo_isSheet p_mMo_isSheet ok_mMo_isSheet
theorem i_mMo_draw : Cond.initialized mMo_draw.2.1.cls ∈ pm_gw := pm_in (List.mem_of_getElem? (i := 7) (by decide +kernel)) (by decide +kernel)
theorem n_mMo_draw : Cond.instanceMethod mMo_draw.2.1 ∈ pm_gw := pm_in (List.mem_of_getElem? (i := 1081) (by decide +kernel)) (by decide +kernel)
theorem s_mMo_draw : Cond.selects mMo_draw.2.1.cls mMo_draw.2.1 mMo_draw.2.1 ∈ pm_gw := pm_in (List.mem_of_getElem? (i := 1082) (by decide +kernel)) (by decide +kernel)
theorem p_mMo_draw : mMo_draw.2.1.cls ≠ "java/lang/invoke/MethodHandle" ∧ mMo_draw.2.1.cls ≠ "java/lang/invoke/VarHandle" ∧ (parseMethodDescriptor mMo_draw.2.1.desc).map (fun d => d.parameters.length) = some 2 := ⟨by decide +kernel, by decide +kernel, by decide +kernel⟩
theorem k6_315 : pm_LV 6 315 mMo_draw 2 := pm_mkLV (pm_in (List.mem_of_getElem? (i := 1238) (by decide +kernel)) (by decide +kernel)) n_mMo_draw s_mMo_draw i_mMo_draw p_mMo_draw (by decide +kernel) ok_mMo_draw
theorem i_mWt_feed : Cond.initialized mWt_feed.2.1.cls ∈ pm_gw := pm_in (List.mem_of_getElem? (i := 1) (by decide +kernel)) (by decide +kernel)
theorem n_mWt_feed : Cond.instanceMethod mWt_feed.2.1 ∈ pm_gw := pm_in (List.mem_of_getElem? (i := 228) (by decide +kernel)) (by decide +kernel)
theorem s_mWt_feed : Cond.selects mWt_feed.2.1.cls mWt_feed.2.1 mWt_feed.2.1 ∈ pm_gw := pm_in (List.mem_of_getElem? (i := 229) (by decide +kernel)) (by decide +kernel)
theorem p_mWt_feed : mWt_feed.2.1.cls ≠ "java/lang/invoke/MethodHandle" ∧ mWt_feed.2.1.cls ≠ "java/lang/invoke/VarHandle" ∧ (parseMethodDescriptor mWt_feed.2.1.desc).map (fun d => d.parameters.length) = some 1 := ⟨by decide +kernel, by decide +kernel, by decide +kernel⟩
theorem k7_13 : pm_LV 7 13 mWt_feed 1 := pm_mkLV (pm_in (List.mem_of_getElem? (i := 227) (by decide +kernel)) (by decide +kernel)) n_mWt_feed s_mWt_feed i_mWt_feed p_mWt_feed (by decide +kernel) ok_mWt_feed
theorem i_mMo_feed : Cond.initialized mMo_feed.2.1.cls ∈ pm_gw := pm_in (List.mem_of_getElem? (i := 7) (by decide +kernel)) (by decide +kernel)
theorem n_mMo_feed : Cond.instanceMethod mMo_feed.2.1 ∈ pm_gw := pm_in (List.mem_of_getElem? (i := 914) (by decide +kernel)) (by decide +kernel)
theorem s_mMo_feed : Cond.selects mMo_feed.2.1.cls mMo_feed.2.1 mMo_feed.2.1 ∈ pm_gw := pm_in (List.mem_of_getElem? (i := 915) (by decide +kernel)) (by decide +kernel)
theorem p_mMo_feed : mMo_feed.2.1.cls ≠ "java/lang/invoke/MethodHandle" ∧ mMo_feed.2.1.cls ≠ "java/lang/invoke/VarHandle" ∧ (parseMethodDescriptor mMo_feed.2.1.desc).map (fun d => d.parameters.length) = some 1 := ⟨by decide +kernel, by decide +kernel, by decide +kernel⟩
theorem k7_17 : pm_LV 7 17 mMo_feed 1 := pm_mkLV (pm_in (List.mem_of_getElem? (i := 913) (by decide +kernel)) (by decide +kernel)) n_mMo_feed s_mMo_feed i_mMo_feed p_mMo_feed (by decide +kernel) ok_mMo_feed
theorem i_mWt_end : Cond.initialized mWt_end.2.1.cls ∈ pm_gw := pm_in (List.mem_of_getElem? (i := 1) (by decide +kernel)) (by decide +kernel)
theorem n_mWt_end : Cond.instanceMethod mWt_end.2.1 ∈ pm_gw := pm_in (List.mem_of_getElem? (i := 239) (by decide +kernel)) (by decide +kernel)
theorem s_mWt_end : Cond.selects mWt_end.2.1.cls mWt_end.2.1 mWt_end.2.1 ∈ pm_gw := pm_in (List.mem_of_getElem? (i := 240) (by decide +kernel)) (by decide +kernel)
theorem p_mWt_end : mWt_end.2.1.cls ≠ "java/lang/invoke/MethodHandle" ∧ mWt_end.2.1.cls ≠ "java/lang/invoke/VarHandle" ∧ (parseMethodDescriptor mWt_end.2.1.desc).map (fun d => d.parameters.length) = some 1 := ⟨by decide +kernel, by decide +kernel, by decide +kernel⟩
theorem k7_18 : pm_LV 7 18 mWt_end 1 := pm_mkLV (pm_in (List.mem_of_getElem? (i := 238) (by decide +kernel)) (by decide +kernel)) n_mWt_end s_mWt_end i_mWt_end p_mWt_end (by decide +kernel) ok_mWt_end
theorem i_mMo_end : Cond.initialized mMo_end.2.1.cls ∈ pm_gw := pm_in (List.mem_of_getElem? (i := 7) (by decide +kernel)) (by decide +kernel)
theorem n_mMo_end : Cond.instanceMethod mMo_end.2.1 ∈ pm_gw := pm_in (List.mem_of_getElem? (i := 922) (by decide +kernel)) (by decide +kernel)
theorem s_mMo_end : Cond.selects mMo_end.2.1.cls mMo_end.2.1 mMo_end.2.1 ∈ pm_gw := pm_in (List.mem_of_getElem? (i := 923) (by decide +kernel)) (by decide +kernel)
theorem p_mMo_end : mMo_end.2.1.cls ≠ "java/lang/invoke/MethodHandle" ∧ mMo_end.2.1.cls ≠ "java/lang/invoke/VarHandle" ∧ (parseMethodDescriptor mMo_end.2.1.desc).map (fun d => d.parameters.length) = some 1 := ⟨by decide +kernel, by decide +kernel, by decide +kernel⟩
theorem k7_21 : pm_LV 7 21 mMo_end 1 := pm_mkLV (pm_in (List.mem_of_getElem? (i := 921) (by decide +kernel)) (by decide +kernel)) n_mMo_end s_mMo_end i_mMo_end p_mMo_end (by decide +kernel) ok_mMo_end
theorem i_mWt_text : Cond.initialized mWt_text.2.1.cls ∈ pm_gw := pm_in (List.mem_of_getElem? (i := 1) (by decide +kernel)) (by decide +kernel)
theorem n_mWt_text : Cond.instanceMethod mWt_text.2.1 ∈ pm_gw := pm_in (List.mem_of_getElem? (i := 243) (by decide +kernel)) (by decide +kernel)
theorem s_mWt_text : Cond.selects mWt_text.2.1.cls mWt_text.2.1 mWt_text.2.1 ∈ pm_gw := pm_in (List.mem_of_getElem? (i := 244) (by decide +kernel)) (by decide +kernel)
theorem p_mWt_text : mWt_text.2.1.cls ≠ "java/lang/invoke/MethodHandle" ∧ mWt_text.2.1.cls ≠ "java/lang/invoke/VarHandle" ∧ (parseMethodDescriptor mWt_text.2.1.desc).map (fun d => d.parameters.length) = some 0 := ⟨by decide +kernel, by decide +kernel, by decide +kernel⟩
theorem k7_22 : pm_LV 7 22 mWt_text 0 := pm_mkLV (pm_in (List.mem_of_getElem? (i := 242) (by decide +kernel)) (by decide +kernel)) n_mWt_text s_mWt_text i_mWt_text p_mWt_text (by decide +kernel) ok_mWt_text
theorem i_mMo_text : Cond.initialized mMo_text.2.1.cls ∈ pm_gw := pm_in (List.mem_of_getElem? (i := 7) (by decide +kernel)) (by decide +kernel)
theorem n_mMo_text : Cond.instanceMethod mMo_text.2.1 ∈ pm_gw := pm_in (List.mem_of_getElem? (i := 926) (by decide +kernel)) (by decide +kernel)
theorem s_mMo_text : Cond.selects mMo_text.2.1.cls mMo_text.2.1 mMo_text.2.1 ∈ pm_gw := pm_in (List.mem_of_getElem? (i := 927) (by decide +kernel)) (by decide +kernel)
theorem p_mMo_text : mMo_text.2.1.cls ≠ "java/lang/invoke/MethodHandle" ∧ mMo_text.2.1.cls ≠ "java/lang/invoke/VarHandle" ∧ (parseMethodDescriptor mMo_text.2.1.desc).map (fun d => d.parameters.length) = some 0 := ⟨by decide +kernel, by decide +kernel, by decide +kernel⟩
theorem k7_26 : pm_LV 7 26 mMo_text 0 := pm_mkLV (pm_in (List.mem_of_getElem? (i := 925) (by decide +kernel)) (by decide +kernel)) n_mMo_text s_mMo_text i_mMo_text p_mMo_text (by decide +kernel) ok_mMo_text
theorem i_mWt_fault : Cond.initialized mWt_fault.2.1.cls ∈ pm_gw := pm_in (List.mem_of_getElem? (i := 1) (by decide +kernel)) (by decide +kernel)
theorem n_mWt_fault : Cond.instanceMethod mWt_fault.2.1 ∈ pm_gw := pm_in (List.mem_of_getElem? (i := 446) (by decide +kernel)) (by decide +kernel)
theorem s_mWt_fault : Cond.selects mWt_fault.2.1.cls mWt_fault.2.1 mWt_fault.2.1 ∈ pm_gw := pm_in (List.mem_of_getElem? (i := 447) (by decide +kernel)) (by decide +kernel)
theorem p_mWt_fault : mWt_fault.2.1.cls ≠ "java/lang/invoke/MethodHandle" ∧ mWt_fault.2.1.cls ≠ "java/lang/invoke/VarHandle" ∧ (parseMethodDescriptor mWt_fault.2.1.desc).map (fun d => d.parameters.length) = some 0 := ⟨by decide +kernel, by decide +kernel, by decide +kernel⟩
theorem k7_27 : pm_LV 7 27 mWt_fault 0 := pm_mkLV (pm_in (List.mem_of_getElem? (i := 445) (by decide +kernel)) (by decide +kernel)) n_mWt_fault s_mWt_fault i_mWt_fault p_mWt_fault (by decide +kernel) ok_mWt_fault
theorem i_mMo_fault : Cond.initialized mMo_fault.2.1.cls ∈ pm_gw := pm_in (List.mem_of_getElem? (i := 7) (by decide +kernel)) (by decide +kernel)
theorem n_mMo_fault : Cond.instanceMethod mMo_fault.2.1 ∈ pm_gw := pm_in (List.mem_of_getElem? (i := 1002) (by decide +kernel)) (by decide +kernel)
theorem s_mMo_fault : Cond.selects mMo_fault.2.1.cls mMo_fault.2.1 mMo_fault.2.1 ∈ pm_gw := pm_in (List.mem_of_getElem? (i := 1003) (by decide +kernel)) (by decide +kernel)
theorem p_mMo_fault : mMo_fault.2.1.cls ≠ "java/lang/invoke/MethodHandle" ∧ mMo_fault.2.1.cls ≠ "java/lang/invoke/VarHandle" ∧ (parseMethodDescriptor mMo_fault.2.1.desc).map (fun d => d.parameters.length) = some 0 := ⟨by decide +kernel, by decide +kernel, by decide +kernel⟩
theorem k7_30 : pm_LV 7 30 mMo_fault 0 := pm_mkLV (pm_in (List.mem_of_getElem? (i := 1001) (by decide +kernel)) (by decide +kernel)) n_mMo_fault s_mMo_fault i_mMo_fault p_mMo_fault (by decide +kernel) ok_mMo_fault
theorem i_mWt_rule : Cond.initialized mWt_rule.2.1.cls ∈ pm_gw := pm_in (List.mem_of_getElem? (i := 1) (by decide +kernel)) (by decide +kernel)
theorem n_mWt_rule : Cond.instanceMethod mWt_rule.2.1 ∈ pm_gw := pm_in (List.mem_of_getElem? (i := 450) (by decide +kernel)) (by decide +kernel)
theorem s_mWt_rule : Cond.selects mWt_rule.2.1.cls mWt_rule.2.1 mWt_rule.2.1 ∈ pm_gw := pm_in (List.mem_of_getElem? (i := 451) (by decide +kernel)) (by decide +kernel)
theorem p_mWt_rule : mWt_rule.2.1.cls ≠ "java/lang/invoke/MethodHandle" ∧ mWt_rule.2.1.cls ≠ "java/lang/invoke/VarHandle" ∧ (parseMethodDescriptor mWt_rule.2.1.desc).map (fun d => d.parameters.length) = some 1 := ⟨by decide +kernel, by decide +kernel, by decide +kernel⟩
theorem k7_31 : pm_LV 7 31 mWt_rule 1 := pm_mkLV (pm_in (List.mem_of_getElem? (i := 449) (by decide +kernel)) (by decide +kernel)) n_mWt_rule s_mWt_rule i_mWt_rule p_mWt_rule (by decide +kernel) ok_mWt_rule
theorem i_mMo_rule : Cond.initialized mMo_rule.2.1.cls ∈ pm_gw := pm_in (List.mem_of_getElem? (i := 7) (by decide +kernel)) (by decide +kernel)
theorem n_mMo_rule : Cond.instanceMethod mMo_rule.2.1 ∈ pm_gw := pm_in (List.mem_of_getElem? (i := 1006) (by decide +kernel)) (by decide +kernel)
theorem s_mMo_rule : Cond.selects mMo_rule.2.1.cls mMo_rule.2.1 mMo_rule.2.1 ∈ pm_gw := pm_in (List.mem_of_getElem? (i := 1007) (by decide +kernel)) (by decide +kernel)
theorem p_mMo_rule : mMo_rule.2.1.cls ≠ "java/lang/invoke/MethodHandle" ∧ mMo_rule.2.1.cls ≠ "java/lang/invoke/VarHandle" ∧ (parseMethodDescriptor mMo_rule.2.1.desc).map (fun d => d.parameters.length) = some 1 := ⟨by decide +kernel, by decide +kernel, by decide +kernel⟩
theorem k7_34 : pm_LV 7 34 mMo_rule 1 := pm_mkLV (pm_in (List.mem_of_getElem? (i := 1005) (by decide +kernel)) (by decide +kernel)) n_mMo_rule s_mMo_rule i_mMo_rule p_mMo_rule (by decide +kernel) ok_mMo_rule
theorem i_mWt_person : Cond.initialized mWt_person.2.1.cls ∈ pm_gw := pm_in (List.mem_of_getElem? (i := 1) (by decide +kernel)) (by decide +kernel)
theorem n_mWt_person : Cond.instanceMethod mWt_person.2.1 ∈ pm_gw := pm_in (List.mem_of_getElem? (i := 477) (by decide +kernel)) (by decide +kernel)
theorem s_mWt_person : Cond.selects mWt_person.2.1.cls mWt_person.2.1 mWt_person.2.1 ∈ pm_gw := pm_in (List.mem_of_getElem? (i := 478) (by decide +kernel)) (by decide +kernel)
theorem p_mWt_person : mWt_person.2.1.cls ≠ "java/lang/invoke/MethodHandle" ∧ mWt_person.2.1.cls ≠ "java/lang/invoke/VarHandle" ∧ (parseMethodDescriptor mWt_person.2.1.desc).map (fun d => d.parameters.length) = some 2 := ⟨by decide +kernel, by decide +kernel, by decide +kernel⟩
theorem k7_35 : pm_LV 7 35 mWt_person 2 := pm_mkLV (pm_in (List.mem_of_getElem? (i := 476) (by decide +kernel)) (by decide +kernel)) n_mWt_person s_mWt_person i_mWt_person p_mWt_person (by decide +kernel) ok_mWt_person
theorem i_mMo_person : Cond.initialized mMo_person.2.1.cls ∈ pm_gw := pm_in (List.mem_of_getElem? (i := 7) (by decide +kernel)) (by decide +kernel)
theorem n_mMo_person : Cond.instanceMethod mMo_person.2.1 ∈ pm_gw := pm_in (List.mem_of_getElem? (i := 1029) (by decide +kernel)) (by decide +kernel)
theorem s_mMo_person : Cond.selects mMo_person.2.1.cls mMo_person.2.1 mMo_person.2.1 ∈ pm_gw := pm_in (List.mem_of_getElem? (i := 1030) (by decide +kernel)) (by decide +kernel)
theorem p_mMo_person : mMo_person.2.1.cls ≠ "java/lang/invoke/MethodHandle" ∧ mMo_person.2.1.cls ≠ "java/lang/invoke/VarHandle" ∧ (parseMethodDescriptor mMo_person.2.1.desc).map (fun d => d.parameters.length) = some 2 := ⟨by decide +kernel, by decide +kernel, by decide +kernel⟩
theorem k7_39 : pm_LV 7 39 mMo_person 2 := pm_mkLV (pm_in (List.mem_of_getElem? (i := 1028) (by decide +kernel)) (by decide +kernel)) n_mMo_person s_mMo_person i_mMo_person p_mMo_person (by decide +kernel) ok_mMo_person
theorem i_mWt_ticket : Cond.initialized mWt_ticket.2.1.cls ∈ pm_gw := pm_in (List.mem_of_getElem? (i := 1) (by decide +kernel)) (by decide +kernel)
theorem n_mWt_ticket : Cond.instanceMethod mWt_ticket.2.1 ∈ pm_gw := pm_in (List.mem_of_getElem? (i := 486) (by decide +kernel)) (by decide +kernel)
theorem s_mWt_ticket : Cond.selects mWt_ticket.2.1.cls mWt_ticket.2.1 mWt_ticket.2.1 ∈ pm_gw := pm_in (List.mem_of_getElem? (i := 487) (by decide +kernel)) (by decide +kernel)
theorem p_mWt_ticket : mWt_ticket.2.1.cls ≠ "java/lang/invoke/MethodHandle" ∧ mWt_ticket.2.1.cls ≠ "java/lang/invoke/VarHandle" ∧ (parseMethodDescriptor mWt_ticket.2.1.desc).map (fun d => d.parameters.length) = some 2 := ⟨by decide +kernel, by decide +kernel, by decide +kernel⟩
theorem k7_40 : pm_LV 7 40 mWt_ticket 2 := pm_mkLV (pm_in (List.mem_of_getElem? (i := 485) (by decide +kernel)) (by decide +kernel)) n_mWt_ticket s_mWt_ticket i_mWt_ticket p_mWt_ticket (by decide +kernel) ok_mWt_ticket
theorem i_mMo_ticket : Cond.initialized mMo_ticket.2.1.cls ∈ pm_gw := pm_in (List.mem_of_getElem? (i := 7) (by decide +kernel)) (by decide +kernel)
theorem n_mMo_ticket : Cond.instanceMethod mMo_ticket.2.1 ∈ pm_gw := pm_in (List.mem_of_getElem? (i := 1042) (by decide +kernel)) (by decide +kernel)
theorem s_mMo_ticket : Cond.selects mMo_ticket.2.1.cls mMo_ticket.2.1 mMo_ticket.2.1 ∈ pm_gw := pm_in (List.mem_of_getElem? (i := 1043) (by decide +kernel)) (by decide +kernel)
theorem p_mMo_ticket : mMo_ticket.2.1.cls ≠ "java/lang/invoke/MethodHandle" ∧ mMo_ticket.2.1.cls ≠ "java/lang/invoke/VarHandle" ∧ (parseMethodDescriptor mMo_ticket.2.1.desc).map (fun d => d.parameters.length) = some 2 := ⟨by decide +kernel, by decide +kernel, by decide +kernel⟩
theorem k7_43 : pm_LV 7 43 mMo_ticket 2 := pm_mkLV (pm_in (List.mem_of_getElem? (i := 1041) (by decide +kernel)) (by decide +kernel)) n_mMo_ticket s_mMo_ticket i_mMo_ticket p_mMo_ticket (by decide +kernel) ok_mMo_ticket
theorem i_mWt_prize : Cond.initialized mWt_prize.2.1.cls ∈ pm_gw := pm_in (List.mem_of_getElem? (i := 1) (by decide +kernel)) (by decide +kernel)
theorem n_mWt_prize : Cond.instanceMethod mWt_prize.2.1 ∈ pm_gw := pm_in (List.mem_of_getElem? (i := 492) (by decide +kernel)) (by decide +kernel)
theorem s_mWt_prize : Cond.selects mWt_prize.2.1.cls mWt_prize.2.1 mWt_prize.2.1 ∈ pm_gw := pm_in (List.mem_of_getElem? (i := 493) (by decide +kernel)) (by decide +kernel)
theorem p_mWt_prize : mWt_prize.2.1.cls ≠ "java/lang/invoke/MethodHandle" ∧ mWt_prize.2.1.cls ≠ "java/lang/invoke/VarHandle" ∧ (parseMethodDescriptor mWt_prize.2.1.desc).map (fun d => d.parameters.length) = some 2 := ⟨by decide +kernel, by decide +kernel, by decide +kernel⟩
theorem k7_44 : pm_LV 7 44 mWt_prize 2 := pm_mkLV (pm_in (List.mem_of_getElem? (i := 491) (by decide +kernel)) (by decide +kernel)) n_mWt_prize s_mWt_prize i_mWt_prize p_mWt_prize (by decide +kernel) ok_mWt_prize
theorem i_mMo_prize : Cond.initialized mMo_prize.2.1.cls ∈ pm_gw := pm_in (List.mem_of_getElem? (i := 7) (by decide +kernel)) (by decide +kernel)
theorem n_mMo_prize : Cond.instanceMethod mMo_prize.2.1 ∈ pm_gw := pm_in (List.mem_of_getElem? (i := 1051) (by decide +kernel)) (by decide +kernel)
theorem s_mMo_prize : Cond.selects mMo_prize.2.1.cls mMo_prize.2.1 mMo_prize.2.1 ∈ pm_gw := pm_in (List.mem_of_getElem? (i := 1052) (by decide +kernel)) (by decide +kernel)
theorem p_mMo_prize : mMo_prize.2.1.cls ≠ "java/lang/invoke/MethodHandle" ∧ mMo_prize.2.1.cls ≠ "java/lang/invoke/VarHandle" ∧ (parseMethodDescriptor mMo_prize.2.1.desc).map (fun d => d.parameters.length) = some 2 := ⟨by decide +kernel, by decide +kernel, by decide +kernel⟩
theorem k7_47 : pm_LV 7 47 mMo_prize 2 := pm_mkLV (pm_in (List.mem_of_getElem? (i := 1050) (by decide +kernel)) (by decide +kernel)) n_mMo_prize s_mMo_prize i_mMo_prize p_mMo_prize (by decide +kernel) ok_mMo_prize
theorem i_mWt_sign : Cond.initialized mWt_sign.2.1.cls ∈ pm_gw := pm_in (List.mem_of_getElem? (i := 1) (by decide +kernel)) (by decide +kernel)
theorem n_mWt_sign : Cond.instanceMethod mWt_sign.2.1 ∈ pm_gw := pm_in (List.mem_of_getElem? (i := 497) (by decide +kernel)) (by decide +kernel)
theorem s_mWt_sign : Cond.selects mWt_sign.2.1.cls mWt_sign.2.1 mWt_sign.2.1 ∈ pm_gw := pm_in (List.mem_of_getElem? (i := 498) (by decide +kernel)) (by decide +kernel)
theorem p_mWt_sign : mWt_sign.2.1.cls ≠ "java/lang/invoke/MethodHandle" ∧ mWt_sign.2.1.cls ≠ "java/lang/invoke/VarHandle" ∧ (parseMethodDescriptor mWt_sign.2.1.desc).map (fun d => d.parameters.length) = some 3 := ⟨by decide +kernel, by decide +kernel, by decide +kernel⟩
theorem k7_48 : pm_LV 7 48 mWt_sign 3 := pm_mkLV (pm_in (List.mem_of_getElem? (i := 496) (by decide +kernel)) (by decide +kernel)) n_mWt_sign s_mWt_sign i_mWt_sign p_mWt_sign (by decide +kernel) ok_mWt_sign
theorem i_mMo_sign : Cond.initialized mMo_sign.2.1.cls ∈ pm_gw := pm_in (List.mem_of_getElem? (i := 7) (by decide +kernel)) (by decide +kernel)
theorem n_mMo_sign : Cond.instanceMethod mMo_sign.2.1 ∈ pm_gw := pm_in (List.mem_of_getElem? (i := 1058) (by decide +kernel)) (by decide +kernel)
theorem s_mMo_sign : Cond.selects mMo_sign.2.1.cls mMo_sign.2.1 mMo_sign.2.1 ∈ pm_gw := pm_in (List.mem_of_getElem? (i := 1059) (by decide +kernel)) (by decide +kernel)
theorem p_mMo_sign : mMo_sign.2.1.cls ≠ "java/lang/invoke/MethodHandle" ∧ mMo_sign.2.1.cls ≠ "java/lang/invoke/VarHandle" ∧ (parseMethodDescriptor mMo_sign.2.1.desc).map (fun d => d.parameters.length) = some 3 := ⟨by decide +kernel, by decide +kernel, by decide +kernel⟩
theorem k7_52 : pm_LV 7 52 mMo_sign 3 := pm_mkLV (pm_in (List.mem_of_getElem? (i := 1057) (by decide +kernel)) (by decide +kernel)) n_mMo_sign s_mMo_sign i_mMo_sign p_mMo_sign (by decide +kernel) ok_mMo_sign
theorem i_mWt_fill : Cond.initialized mWt_fill.2.1.cls ∈ pm_gw := pm_in (List.mem_of_getElem? (i := 1) (by decide +kernel)) (by decide +kernel)
theorem n_mWt_fill : Cond.instanceMethod mWt_fill.2.1 ∈ pm_gw := pm_in (List.mem_of_getElem? (i := 508) (by decide +kernel)) (by decide +kernel)
theorem s_mWt_fill : Cond.selects mWt_fill.2.1.cls mWt_fill.2.1 mWt_fill.2.1 ∈ pm_gw := pm_in (List.mem_of_getElem? (i := 509) (by decide +kernel)) (by decide +kernel)
theorem p_mWt_fill : mWt_fill.2.1.cls ≠ "java/lang/invoke/MethodHandle" ∧ mWt_fill.2.1.cls ≠ "java/lang/invoke/VarHandle" ∧ (parseMethodDescriptor mWt_fill.2.1.desc).map (fun d => d.parameters.length) = some 2 := ⟨by decide +kernel, by decide +kernel, by decide +kernel⟩
theorem k7_53 : pm_LV 7 53 mWt_fill 2 := pm_mkLV (pm_in (List.mem_of_getElem? (i := 507) (by decide +kernel)) (by decide +kernel)) n_mWt_fill s_mWt_fill i_mWt_fill p_mWt_fill (by decide +kernel) ok_mWt_fill
theorem i_mMo_fill : Cond.initialized mMo_fill.2.1.cls ∈ pm_gw := pm_in (List.mem_of_getElem? (i := 7) (by decide +kernel)) (by decide +kernel)
theorem n_mMo_fill : Cond.instanceMethod mMo_fill.2.1 ∈ pm_gw := pm_in (List.mem_of_getElem? (i := 1072) (by decide +kernel)) (by decide +kernel)
theorem s_mMo_fill : Cond.selects mMo_fill.2.1.cls mMo_fill.2.1 mMo_fill.2.1 ∈ pm_gw := pm_in (List.mem_of_getElem? (i := 1073) (by decide +kernel)) (by decide +kernel)
theorem p_mMo_fill : mMo_fill.2.1.cls ≠ "java/lang/invoke/MethodHandle" ∧ mMo_fill.2.1.cls ≠ "java/lang/invoke/VarHandle" ∧ (parseMethodDescriptor mMo_fill.2.1.desc).map (fun d => d.parameters.length) = some 2 := ⟨by decide +kernel, by decide +kernel, by decide +kernel⟩
theorem k7_56 : pm_LV 7 56 mMo_fill 2 := pm_mkLV (pm_in (List.mem_of_getElem? (i := 1071) (by decide +kernel)) (by decide +kernel)) n_mMo_fill s_mMo_fill i_mMo_fill p_mMo_fill (by decide +kernel) ok_mMo_fill
theorem i_mWt_promise : Cond.initialized mWt_promise.2.1.cls ∈ pm_gw := pm_in (List.mem_of_getElem? (i := 1) (by decide +kernel)) (by decide +kernel)
theorem n_mWt_promise : Cond.instanceMethod mWt_promise.2.1 ∈ pm_gw := pm_in (List.mem_of_getElem? (i := 512) (by decide +kernel)) (by decide +kernel)
theorem s_mWt_promise : Cond.selects mWt_promise.2.1.cls mWt_promise.2.1 mWt_promise.2.1 ∈ pm_gw := pm_in (List.mem_of_getElem? (i := 513) (by decide +kernel)) (by decide +kernel)
theorem p_mWt_promise : mWt_promise.2.1.cls ≠ "java/lang/invoke/MethodHandle" ∧ mWt_promise.2.1.cls ≠ "java/lang/invoke/VarHandle" ∧ (parseMethodDescriptor mWt_promise.2.1.desc).map (fun d => d.parameters.length) = some 2 := ⟨by decide +kernel, by decide +kernel, by decide +kernel⟩
theorem k7_57 : pm_LV 7 57 mWt_promise 2 := pm_mkLV (pm_in (List.mem_of_getElem? (i := 511) (by decide +kernel)) (by decide +kernel)) n_mWt_promise s_mWt_promise i_mWt_promise p_mWt_promise (by decide +kernel) ok_mWt_promise
theorem i_mMo_promise : Cond.initialized mMo_promise.2.1.cls ∈ pm_gw := pm_in (List.mem_of_getElem? (i := 7) (by decide +kernel)) (by decide +kernel)
theorem n_mMo_promise : Cond.instanceMethod mMo_promise.2.1 ∈ pm_gw := pm_in (List.mem_of_getElem? (i := 1077) (by decide +kernel)) (by decide +kernel)
theorem s_mMo_promise : Cond.selects mMo_promise.2.1.cls mMo_promise.2.1 mMo_promise.2.1 ∈ pm_gw := pm_in (List.mem_of_getElem? (i := 1078) (by decide +kernel)) (by decide +kernel)
theorem p_mMo_promise : mMo_promise.2.1.cls ≠ "java/lang/invoke/MethodHandle" ∧ mMo_promise.2.1.cls ≠ "java/lang/invoke/VarHandle" ∧ (parseMethodDescriptor mMo_promise.2.1.desc).map (fun d => d.parameters.length) = some 2 := ⟨by decide +kernel, by decide +kernel, by decide +kernel⟩
theorem k7_60 : pm_LV 7 60 mMo_promise 2 := pm_mkLV (pm_in (List.mem_of_getElem? (i := 1076) (by decide +kernel)) (by decide +kernel)) n_mMo_promise s_mMo_promise i_mMo_promise p_mMo_promise (by decide +kernel) ok_mMo_promise
theorem i_mWt_draw : Cond.initialized mWt_draw.2.1.cls ∈ pm_gw := pm_in (List.mem_of_getElem? (i := 1) (by decide +kernel)) (by decide +kernel)
theorem n_mWt_draw : Cond.instanceMethod mWt_draw.2.1 ∈ pm_gw := pm_in (List.mem_of_getElem? (i := 517) (by decide +kernel)) (by decide +kernel)
theorem s_mWt_draw : Cond.selects mWt_draw.2.1.cls mWt_draw.2.1 mWt_draw.2.1 ∈ pm_gw := pm_in (List.mem_of_getElem? (i := 518) (by decide +kernel)) (by decide +kernel)
theorem p_mWt_draw : mWt_draw.2.1.cls ≠ "java/lang/invoke/MethodHandle" ∧ mWt_draw.2.1.cls ≠ "java/lang/invoke/VarHandle" ∧ (parseMethodDescriptor mWt_draw.2.1.desc).map (fun d => d.parameters.length) = some 2 := ⟨by decide +kernel, by decide +kernel, by decide +kernel⟩
theorem k7_61 : pm_LV 7 61 mWt_draw 2 := pm_mkLV (pm_in (List.mem_of_getElem? (i := 516) (by decide +kernel)) (by decide +kernel)) n_mWt_draw s_mWt_draw i_mWt_draw p_mWt_draw (by decide +kernel) ok_mWt_draw
theorem k7_64 : pm_LV 7 64 mMo_draw 2 := pm_mkLV (pm_in (List.mem_of_getElem? (i := 1080) (by decide +kernel)) (by decide +kernel)) n_mMo_draw s_mMo_draw i_mMo_draw p_mMo_draw (by decide +kernel) ok_mMo_draw
theorem i_mWt_worth : Cond.initialized mWt_worth.2.1.cls ∈ pm_gw := pm_in (List.mem_of_getElem? (i := 1) (by decide +kernel)) (by decide +kernel)
theorem n_mWt_worth : Cond.instanceMethod mWt_worth.2.1 ∈ pm_gw := pm_in (List.mem_of_getElem? (i := 523) (by decide +kernel)) (by decide +kernel)
theorem s_mWt_worth : Cond.selects mWt_worth.2.1.cls mWt_worth.2.1 mWt_worth.2.1 ∈ pm_gw := pm_in (List.mem_of_getElem? (i := 524) (by decide +kernel)) (by decide +kernel)
theorem p_mWt_worth : mWt_worth.2.1.cls ≠ "java/lang/invoke/MethodHandle" ∧ mWt_worth.2.1.cls ≠ "java/lang/invoke/VarHandle" ∧ (parseMethodDescriptor mWt_worth.2.1.desc).map (fun d => d.parameters.length) = some 1 := ⟨by decide +kernel, by decide +kernel, by decide +kernel⟩
theorem k7_65 : pm_LV 7 65 mWt_worth 1 := pm_mkLV (pm_in (List.mem_of_getElem? (i := 522) (by decide +kernel)) (by decide +kernel)) n_mWt_worth s_mWt_worth i_mWt_worth p_mWt_worth (by decide +kernel) ok_mWt_worth
theorem i_mMo_worth : Cond.initialized mMo_worth.2.1.cls ∈ pm_gw := pm_in (List.mem_of_getElem? (i := 7) (by decide +kernel)) (by decide +kernel)
theorem n_mMo_worth : Cond.instanceMethod mMo_worth.2.1 ∈ pm_gw := pm_in (List.mem_of_getElem? (i := 1089) (by decide +kernel)) (by decide +kernel)
theorem s_mMo_worth : Cond.selects mMo_worth.2.1.cls mMo_worth.2.1 mMo_worth.2.1 ∈ pm_gw := pm_in (List.mem_of_getElem? (i := 1090) (by decide +kernel)) (by decide +kernel)
theorem p_mMo_worth : mMo_worth.2.1.cls ≠ "java/lang/invoke/MethodHandle" ∧ mMo_worth.2.1.cls ≠ "java/lang/invoke/VarHandle" ∧ (parseMethodDescriptor mMo_worth.2.1.desc).map (fun d => d.parameters.length) = some 1 := ⟨by decide +kernel, by decide +kernel, by decide +kernel⟩
theorem k7_69 : pm_LV 7 69 mMo_worth 1 := pm_mkLV (pm_in (List.mem_of_getElem? (i := 1088) (by decide +kernel)) (by decide +kernel)) n_mMo_worth s_mMo_worth i_mMo_worth p_mMo_worth (by decide +kernel) ok_mMo_worth
theorem i_mWt_day : Cond.initialized mWt_day.2.1.cls ∈ pm_gw := pm_in (List.mem_of_getElem? (i := 1) (by decide +kernel)) (by decide +kernel)
theorem n_mWt_day : Cond.instanceMethod mWt_day.2.1 ∈ pm_gw := pm_in (List.mem_of_getElem? (i := 542) (by decide +kernel)) (by decide +kernel)
theorem s_mWt_day : Cond.selects mWt_day.2.1.cls mWt_day.2.1 mWt_day.2.1 ∈ pm_gw := pm_in (List.mem_of_getElem? (i := 543) (by decide +kernel)) (by decide +kernel)
theorem p_mWt_day : mWt_day.2.1.cls ≠ "java/lang/invoke/MethodHandle" ∧ mWt_day.2.1.cls ≠ "java/lang/invoke/VarHandle" ∧ (parseMethodDescriptor mWt_day.2.1.desc).map (fun d => d.parameters.length) = some 2 := ⟨by decide +kernel, by decide +kernel, by decide +kernel⟩
theorem k7_70 : pm_LV 7 70 mWt_day 2 := pm_mkLV (pm_in (List.mem_of_getElem? (i := 541) (by decide +kernel)) (by decide +kernel)) n_mWt_day s_mWt_day i_mWt_day p_mWt_day (by decide +kernel) ok_mWt_day
theorem i_mMo_day : Cond.initialized mMo_day.2.1.cls ∈ pm_gw := pm_in (List.mem_of_getElem? (i := 7) (by decide +kernel)) (by decide +kernel)
theorem n_mMo_day : Cond.instanceMethod mMo_day.2.1 ∈ pm_gw := pm_in (List.mem_of_getElem? (i := 1101) (by decide +kernel)) (by decide +kernel)
theorem s_mMo_day : Cond.selects mMo_day.2.1.cls mMo_day.2.1 mMo_day.2.1 ∈ pm_gw := pm_in (List.mem_of_getElem? (i := 1102) (by decide +kernel)) (by decide +kernel)
theorem p_mMo_day : mMo_day.2.1.cls ≠ "java/lang/invoke/MethodHandle" ∧ mMo_day.2.1.cls ≠ "java/lang/invoke/VarHandle" ∧ (parseMethodDescriptor mMo_day.2.1.desc).map (fun d => d.parameters.length) = some 2 := ⟨by decide +kernel, by decide +kernel, by decide +kernel⟩
theorem k7_74 : pm_LV 7 74 mMo_day 2 := pm_mkLV (pm_in (List.mem_of_getElem? (i := 1100) (by decide +kernel)) (by decide +kernel)) n_mMo_day s_mMo_day i_mMo_day p_mMo_day (by decide +kernel) ok_mMo_day
theorem i_mWt_mean : Cond.initialized mWt_mean.2.1.cls ∈ pm_gw := pm_in (List.mem_of_getElem? (i := 1) (by decide +kernel)) (by decide +kernel)
theorem n_mWt_mean : Cond.instanceMethod mWt_mean.2.1 ∈ pm_gw := pm_in (List.mem_of_getElem? (i := 547) (by decide +kernel)) (by decide +kernel)
theorem s_mWt_mean : Cond.selects mWt_mean.2.1.cls mWt_mean.2.1 mWt_mean.2.1 ∈ pm_gw := pm_in (List.mem_of_getElem? (i := 548) (by decide +kernel)) (by decide +kernel)
theorem p_mWt_mean : mWt_mean.2.1.cls ≠ "java/lang/invoke/MethodHandle" ∧ mWt_mean.2.1.cls ≠ "java/lang/invoke/VarHandle" ∧ (parseMethodDescriptor mWt_mean.2.1.desc).map (fun d => d.parameters.length) = some 2 := ⟨by decide +kernel, by decide +kernel, by decide +kernel⟩
theorem k7_75 : pm_LV 7 75 mWt_mean 2 := pm_mkLV (pm_in (List.mem_of_getElem? (i := 546) (by decide +kernel)) (by decide +kernel)) n_mWt_mean s_mWt_mean i_mWt_mean p_mWt_mean (by decide +kernel) ok_mWt_mean
theorem i_mMo_mean : Cond.initialized mMo_mean.2.1.cls ∈ pm_gw := pm_in (List.mem_of_getElem? (i := 7) (by decide +kernel)) (by decide +kernel)
theorem n_mMo_mean : Cond.instanceMethod mMo_mean.2.1 ∈ pm_gw := pm_in (List.mem_of_getElem? (i := 1106) (by decide +kernel)) (by decide +kernel)
theorem s_mMo_mean : Cond.selects mMo_mean.2.1.cls mMo_mean.2.1 mMo_mean.2.1 ∈ pm_gw := pm_in (List.mem_of_getElem? (i := 1107) (by decide +kernel)) (by decide +kernel)
theorem p_mMo_mean : mMo_mean.2.1.cls ≠ "java/lang/invoke/MethodHandle" ∧ mMo_mean.2.1.cls ≠ "java/lang/invoke/VarHandle" ∧ (parseMethodDescriptor mMo_mean.2.1.desc).map (fun d => d.parameters.length) = some 2 := ⟨by decide +kernel, by decide +kernel, by decide +kernel⟩
theorem k7_78 : pm_LV 7 78 mMo_mean 2 := pm_mkLV (pm_in (List.mem_of_getElem? (i := 1105) (by decide +kernel)) (by decide +kernel)) n_mMo_mean s_mMo_mean i_mMo_mean p_mMo_mean (by decide +kernel) ok_mMo_mean
theorem i_mWt_luck : Cond.initialized mWt_luck.2.1.cls ∈ pm_gw := pm_in (List.mem_of_getElem? (i := 1) (by decide +kernel)) (by decide +kernel)
theorem n_mWt_luck : Cond.instanceMethod mWt_luck.2.1 ∈ pm_gw := pm_in (List.mem_of_getElem? (i := 572) (by decide +kernel)) (by decide +kernel)
theorem s_mWt_luck : Cond.selects mWt_luck.2.1.cls mWt_luck.2.1 mWt_luck.2.1 ∈ pm_gw := pm_in (List.mem_of_getElem? (i := 573) (by decide +kernel)) (by decide +kernel)
theorem p_mWt_luck : mWt_luck.2.1.cls ≠ "java/lang/invoke/MethodHandle" ∧ mWt_luck.2.1.cls ≠ "java/lang/invoke/VarHandle" ∧ (parseMethodDescriptor mWt_luck.2.1.desc).map (fun d => d.parameters.length) = some 3 := ⟨by decide +kernel, by decide +kernel, by decide +kernel⟩
theorem k7_79 : pm_LV 7 79 mWt_luck 3 := pm_mkLV (pm_in (List.mem_of_getElem? (i := 571) (by decide +kernel)) (by decide +kernel)) n_mWt_luck s_mWt_luck i_mWt_luck p_mWt_luck (by decide +kernel) ok_mWt_luck
theorem i_mMo_luck : Cond.initialized mMo_luck.2.1.cls ∈ pm_gw := pm_in (List.mem_of_getElem? (i := 7) (by decide +kernel)) (by decide +kernel)
theorem n_mMo_luck : Cond.instanceMethod mMo_luck.2.1 ∈ pm_gw := pm_in (List.mem_of_getElem? (i := 1148) (by decide +kernel)) (by decide +kernel)
theorem s_mMo_luck : Cond.selects mMo_luck.2.1.cls mMo_luck.2.1 mMo_luck.2.1 ∈ pm_gw := pm_in (List.mem_of_getElem? (i := 1149) (by decide +kernel)) (by decide +kernel)
theorem p_mMo_luck : mMo_luck.2.1.cls ≠ "java/lang/invoke/MethodHandle" ∧ mMo_luck.2.1.cls ≠ "java/lang/invoke/VarHandle" ∧ (parseMethodDescriptor mMo_luck.2.1.desc).map (fun d => d.parameters.length) = some 3 := ⟨by decide +kernel, by decide +kernel, by decide +kernel⟩
theorem k7_83 : pm_LV 7 83 mMo_luck 3 := pm_mkLV (pm_in (List.mem_of_getElem? (i := 1147) (by decide +kernel)) (by decide +kernel)) n_mMo_luck s_mMo_luck i_mMo_luck p_mMo_luck (by decide +kernel) ok_mMo_luck
theorem i_mWt_solid : Cond.initialized mWt_solid.2.1.cls ∈ pm_gw := pm_in (List.mem_of_getElem? (i := 1) (by decide +kernel)) (by decide +kernel)
theorem n_mWt_solid : Cond.instanceMethod mWt_solid.2.1 ∈ pm_gw := pm_in (List.mem_of_getElem? (i := 597) (by decide +kernel)) (by decide +kernel)
theorem s_mWt_solid : Cond.selects mWt_solid.2.1.cls mWt_solid.2.1 mWt_solid.2.1 ∈ pm_gw := pm_in (List.mem_of_getElem? (i := 598) (by decide +kernel)) (by decide +kernel)
theorem p_mWt_solid : mWt_solid.2.1.cls ≠ "java/lang/invoke/MethodHandle" ∧ mWt_solid.2.1.cls ≠ "java/lang/invoke/VarHandle" ∧ (parseMethodDescriptor mWt_solid.2.1.desc).map (fun d => d.parameters.length) = some 1 := ⟨by decide +kernel, by decide +kernel, by decide +kernel⟩
theorem k7_84 : pm_LV 7 84 mWt_solid 1 := pm_mkLV (pm_in (List.mem_of_getElem? (i := 596) (by decide +kernel)) (by decide +kernel)) n_mWt_solid s_mWt_solid i_mWt_solid p_mWt_solid (by decide +kernel) ok_mWt_solid
theorem i_mMo_solid : Cond.initialized mMo_solid.2.1.cls ∈ pm_gw := pm_in (List.mem_of_getElem? (i := 7) (by decide +kernel)) (by decide +kernel)
theorem n_mMo_solid : Cond.instanceMethod mMo_solid.2.1 ∈ pm_gw := pm_in (List.mem_of_getElem? (i := 1154) (by decide +kernel)) (by decide +kernel)
theorem s_mMo_solid : Cond.selects mMo_solid.2.1.cls mMo_solid.2.1 mMo_solid.2.1 ∈ pm_gw := pm_in (List.mem_of_getElem? (i := 1155) (by decide +kernel)) (by decide +kernel)
theorem p_mMo_solid : mMo_solid.2.1.cls ≠ "java/lang/invoke/MethodHandle" ∧ mMo_solid.2.1.cls ≠ "java/lang/invoke/VarHandle" ∧ (parseMethodDescriptor mMo_solid.2.1.desc).map (fun d => d.parameters.length) = some 1 := ⟨by decide +kernel, by decide +kernel, by decide +kernel⟩
theorem k7_87 : pm_LV 7 87 mMo_solid 1 := pm_mkLV (pm_in (List.mem_of_getElem? (i := 1153) (by decide +kernel)) (by decide +kernel)) n_mMo_solid s_mMo_solid i_mMo_solid p_mMo_solid (by decide +kernel) ok_mMo_solid
theorem i_mWt_ends : Cond.initialized mWt_ends.2.1.cls ∈ pm_gw := pm_in (List.mem_of_getElem? (i := 1) (by decide +kernel)) (by decide +kernel)
theorem n_mWt_ends : Cond.instanceMethod mWt_ends.2.1 ∈ pm_gw := pm_in (List.mem_of_getElem? (i := 614) (by decide +kernel)) (by decide +kernel)
theorem s_mWt_ends : Cond.selects mWt_ends.2.1.cls mWt_ends.2.1 mWt_ends.2.1 ∈ pm_gw := pm_in (List.mem_of_getElem? (i := 615) (by decide +kernel)) (by decide +kernel)
theorem p_mWt_ends : mWt_ends.2.1.cls ≠ "java/lang/invoke/MethodHandle" ∧ mWt_ends.2.1.cls ≠ "java/lang/invoke/VarHandle" ∧ (parseMethodDescriptor mWt_ends.2.1.desc).map (fun d => d.parameters.length) = some 2 := ⟨by decide +kernel, by decide +kernel, by decide +kernel⟩
theorem k7_88 : pm_LV 7 88 mWt_ends 2 := pm_mkLV (pm_in (List.mem_of_getElem? (i := 613) (by decide +kernel)) (by decide +kernel)) n_mWt_ends s_mWt_ends i_mWt_ends p_mWt_ends (by decide +kernel) ok_mWt_ends
theorem i_mMo_ends : Cond.initialized mMo_ends.2.1.cls ∈ pm_gw := pm_in (List.mem_of_getElem? (i := 7) (by decide +kernel)) (by decide +kernel)
theorem n_mMo_ends : Cond.instanceMethod mMo_ends.2.1 ∈ pm_gw := pm_in (List.mem_of_getElem? (i := 1158) (by decide +kernel)) (by decide +kernel)
theorem s_mMo_ends : Cond.selects mMo_ends.2.1.cls mMo_ends.2.1 mMo_ends.2.1 ∈ pm_gw := pm_in (List.mem_of_getElem? (i := 1159) (by decide +kernel)) (by decide +kernel)
theorem p_mMo_ends : mMo_ends.2.1.cls ≠ "java/lang/invoke/MethodHandle" ∧ mMo_ends.2.1.cls ≠ "java/lang/invoke/VarHandle" ∧ (parseMethodDescriptor mMo_ends.2.1.desc).map (fun d => d.parameters.length) = some 2 := ⟨by decide +kernel, by decide +kernel, by decide +kernel⟩
theorem k7_91 : pm_LV 7 91 mMo_ends 2 := pm_mkLV (pm_in (List.mem_of_getElem? (i := 1157) (by decide +kernel)) (by decide +kernel)) n_mMo_ends s_mMo_ends i_mMo_ends p_mMo_ends (by decide +kernel) ok_mMo_ends
theorem i_mWt_fee : Cond.initialized mWt_fee.2.1.cls ∈ pm_gw := pm_in (List.mem_of_getElem? (i := 1) (by decide +kernel)) (by decide +kernel)
theorem n_mWt_fee : Cond.instanceMethod mWt_fee.2.1 ∈ pm_gw := pm_in (List.mem_of_getElem? (i := 648) (by decide +kernel)) (by decide +kernel)
theorem s_mWt_fee : Cond.selects mWt_fee.2.1.cls mWt_fee.2.1 mWt_fee.2.1 ∈ pm_gw := pm_in (List.mem_of_getElem? (i := 649) (by decide +kernel)) (by decide +kernel)
theorem p_mWt_fee : mWt_fee.2.1.cls ≠ "java/lang/invoke/MethodHandle" ∧ mWt_fee.2.1.cls ≠ "java/lang/invoke/VarHandle" ∧ (parseMethodDescriptor mWt_fee.2.1.desc).map (fun d => d.parameters.length) = some 2 := ⟨by decide +kernel, by decide +kernel, by decide +kernel⟩
theorem k7_92 : pm_LV 7 92 mWt_fee 2 := pm_mkLV (pm_in (List.mem_of_getElem? (i := 647) (by decide +kernel)) (by decide +kernel)) n_mWt_fee s_mWt_fee i_mWt_fee p_mWt_fee (by decide +kernel) ok_mWt_fee
theorem i_mMo_fee : Cond.initialized mMo_fee.2.1.cls ∈ pm_gw := pm_in (List.mem_of_getElem? (i := 7) (by decide +kernel)) (by decide +kernel)
theorem n_mMo_fee : Cond.instanceMethod mMo_fee.2.1 ∈ pm_gw := pm_in (List.mem_of_getElem? (i := 1162) (by decide +kernel)) (by decide +kernel)
theorem s_mMo_fee : Cond.selects mMo_fee.2.1.cls mMo_fee.2.1 mMo_fee.2.1 ∈ pm_gw := pm_in (List.mem_of_getElem? (i := 1163) (by decide +kernel)) (by decide +kernel)
theorem p_mMo_fee : mMo_fee.2.1.cls ≠ "java/lang/invoke/MethodHandle" ∧ mMo_fee.2.1.cls ≠ "java/lang/invoke/VarHandle" ∧ (parseMethodDescriptor mMo_fee.2.1.desc).map (fun d => d.parameters.length) = some 2 := ⟨by decide +kernel, by decide +kernel, by decide +kernel⟩
theorem k7_95 : pm_LV 7 95 mMo_fee 2 := pm_mkLV (pm_in (List.mem_of_getElem? (i := 1161) (by decide +kernel)) (by decide +kernel)) n_mMo_fee s_mMo_fee i_mMo_fee p_mMo_fee (by decide +kernel) ok_mMo_fee
theorem i_mWt_kind : Cond.initialized mWt_kind.2.1.cls ∈ pm_gw := pm_in (List.mem_of_getElem? (i := 1) (by decide +kernel)) (by decide +kernel)
theorem n_mWt_kind : Cond.instanceMethod mWt_kind.2.1 ∈ pm_gw := pm_in (List.mem_of_getElem? (i := 652) (by decide +kernel)) (by decide +kernel)
theorem s_mWt_kind : Cond.selects mWt_kind.2.1.cls mWt_kind.2.1 mWt_kind.2.1 ∈ pm_gw := pm_in (List.mem_of_getElem? (i := 653) (by decide +kernel)) (by decide +kernel)
theorem p_mWt_kind : mWt_kind.2.1.cls ≠ "java/lang/invoke/MethodHandle" ∧ mWt_kind.2.1.cls ≠ "java/lang/invoke/VarHandle" ∧ (parseMethodDescriptor mWt_kind.2.1.desc).map (fun d => d.parameters.length) = some 1 := ⟨by decide +kernel, by decide +kernel, by decide +kernel⟩
theorem k7_96 : pm_LV 7 96 mWt_kind 1 := pm_mkLV (pm_in (List.mem_of_getElem? (i := 651) (by decide +kernel)) (by decide +kernel)) n_mWt_kind s_mWt_kind i_mWt_kind p_mWt_kind (by decide +kernel) ok_mWt_kind
theorem i_mMo_kind : Cond.initialized mMo_kind.2.1.cls ∈ pm_gw := pm_in (List.mem_of_getElem? (i := 7) (by decide +kernel)) (by decide +kernel)
theorem n_mMo_kind : Cond.instanceMethod mMo_kind.2.1 ∈ pm_gw := pm_in (List.mem_of_getElem? (i := 1170) (by decide +kernel)) (by decide +kernel)
theorem s_mMo_kind : Cond.selects mMo_kind.2.1.cls mMo_kind.2.1 mMo_kind.2.1 ∈ pm_gw := pm_in (List.mem_of_getElem? (i := 1171) (by decide +kernel)) (by decide +kernel)
theorem p_mMo_kind : mMo_kind.2.1.cls ≠ "java/lang/invoke/MethodHandle" ∧ mMo_kind.2.1.cls ≠ "java/lang/invoke/VarHandle" ∧ (parseMethodDescriptor mMo_kind.2.1.desc).map (fun d => d.parameters.length) = some 1 := ⟨by decide +kernel, by decide +kernel, by decide +kernel⟩
theorem k7_99 : pm_LV 7 99 mMo_kind 1 := pm_mkLV (pm_in (List.mem_of_getElem? (i := 1169) (by decide +kernel)) (by decide +kernel)) n_mMo_kind s_mMo_kind i_mMo_kind p_mMo_kind (by decide +kernel) ok_mMo_kind
theorem i_mWt_buy : Cond.initialized mWt_buy.2.1.cls ∈ pm_gw := pm_in (List.mem_of_getElem? (i := 1) (by decide +kernel)) (by decide +kernel)
theorem n_mWt_buy : Cond.instanceMethod mWt_buy.2.1 ∈ pm_gw := pm_in (List.mem_of_getElem? (i := 657) (by decide +kernel)) (by decide +kernel)
theorem s_mWt_buy : Cond.selects mWt_buy.2.1.cls mWt_buy.2.1 mWt_buy.2.1 ∈ pm_gw := pm_in (List.mem_of_getElem? (i := 658) (by decide +kernel)) (by decide +kernel)
theorem p_mWt_buy : mWt_buy.2.1.cls ≠ "java/lang/invoke/MethodHandle" ∧ mWt_buy.2.1.cls ≠ "java/lang/invoke/VarHandle" ∧ (parseMethodDescriptor mWt_buy.2.1.desc).map (fun d => d.parameters.length) = some 1 := ⟨by decide +kernel, by decide +kernel, by decide +kernel⟩
theorem k7_100 : pm_LV 7 100 mWt_buy 1 := pm_mkLV (pm_in (List.mem_of_getElem? (i := 656) (by decide +kernel)) (by decide +kernel)) n_mWt_buy s_mWt_buy i_mWt_buy p_mWt_buy (by decide +kernel) ok_mWt_buy
theorem i_mMo_buy : Cond.initialized mMo_buy.2.1.cls ∈ pm_gw := pm_in (List.mem_of_getElem? (i := 7) (by decide +kernel)) (by decide +kernel)
theorem n_mMo_buy : Cond.instanceMethod mMo_buy.2.1 ∈ pm_gw := pm_in (List.mem_of_getElem? (i := 1174) (by decide +kernel)) (by decide +kernel)
theorem s_mMo_buy : Cond.selects mMo_buy.2.1.cls mMo_buy.2.1 mMo_buy.2.1 ∈ pm_gw := pm_in (List.mem_of_getElem? (i := 1175) (by decide +kernel)) (by decide +kernel)
theorem p_mMo_buy : mMo_buy.2.1.cls ≠ "java/lang/invoke/MethodHandle" ∧ mMo_buy.2.1.cls ≠ "java/lang/invoke/VarHandle" ∧ (parseMethodDescriptor mMo_buy.2.1.desc).map (fun d => d.parameters.length) = some 1 := ⟨by decide +kernel, by decide +kernel, by decide +kernel⟩
theorem k7_103 : pm_LV 7 103 mMo_buy 1 := pm_mkLV (pm_in (List.mem_of_getElem? (i := 1173) (by decide +kernel)) (by decide +kernel)) n_mMo_buy s_mMo_buy i_mMo_buy p_mMo_buy (by decide +kernel) ok_mMo_buy
theorem i_mWt_cap : Cond.initialized mWt_cap.2.1.cls ∈ pm_gw := pm_in (List.mem_of_getElem? (i := 1) (by decide +kernel)) (by decide +kernel)
theorem n_mWt_cap : Cond.instanceMethod mWt_cap.2.1 ∈ pm_gw := pm_in (List.mem_of_getElem? (i := 661) (by decide +kernel)) (by decide +kernel)
theorem s_mWt_cap : Cond.selects mWt_cap.2.1.cls mWt_cap.2.1 mWt_cap.2.1 ∈ pm_gw := pm_in (List.mem_of_getElem? (i := 662) (by decide +kernel)) (by decide +kernel)
theorem p_mWt_cap : mWt_cap.2.1.cls ≠ "java/lang/invoke/MethodHandle" ∧ mWt_cap.2.1.cls ≠ "java/lang/invoke/VarHandle" ∧ (parseMethodDescriptor mWt_cap.2.1.desc).map (fun d => d.parameters.length) = some 3 := ⟨by decide +kernel, by decide +kernel, by decide +kernel⟩
theorem k7_104 : pm_LV 7 104 mWt_cap 3 := pm_mkLV (pm_in (List.mem_of_getElem? (i := 660) (by decide +kernel)) (by decide +kernel)) n_mWt_cap s_mWt_cap i_mWt_cap p_mWt_cap (by decide +kernel) ok_mWt_cap
theorem i_mMo_cap : Cond.initialized mMo_cap.2.1.cls ∈ pm_gw := pm_in (List.mem_of_getElem? (i := 7) (by decide +kernel)) (by decide +kernel)
theorem n_mMo_cap : Cond.instanceMethod mMo_cap.2.1 ∈ pm_gw := pm_in (List.mem_of_getElem? (i := 1178) (by decide +kernel)) (by decide +kernel)
theorem s_mMo_cap : Cond.selects mMo_cap.2.1.cls mMo_cap.2.1 mMo_cap.2.1 ∈ pm_gw := pm_in (List.mem_of_getElem? (i := 1179) (by decide +kernel)) (by decide +kernel)
theorem p_mMo_cap : mMo_cap.2.1.cls ≠ "java/lang/invoke/MethodHandle" ∧ mMo_cap.2.1.cls ≠ "java/lang/invoke/VarHandle" ∧ (parseMethodDescriptor mMo_cap.2.1.desc).map (fun d => d.parameters.length) = some 3 := ⟨by decide +kernel, by decide +kernel, by decide +kernel⟩
theorem k7_107 : pm_LV 7 107 mMo_cap 3 := pm_mkLV (pm_in (List.mem_of_getElem? (i := 1177) (by decide +kernel)) (by decide +kernel)) n_mMo_cap s_mMo_cap i_mMo_cap p_mMo_cap (by decide +kernel) ok_mMo_cap
theorem i_mWt_see : Cond.initialized mWt_see.2.1.cls ∈ pm_gw := pm_in (List.mem_of_getElem? (i := 1) (by decide +kernel)) (by decide +kernel)
theorem n_mWt_see : Cond.instanceMethod mWt_see.2.1 ∈ pm_gw := pm_in (List.mem_of_getElem? (i := 676) (by decide +kernel)) (by decide +kernel)
theorem s_mWt_see : Cond.selects mWt_see.2.1.cls mWt_see.2.1 mWt_see.2.1 ∈ pm_gw := pm_in (List.mem_of_getElem? (i := 677) (by decide +kernel)) (by decide +kernel)
theorem p_mWt_see : mWt_see.2.1.cls ≠ "java/lang/invoke/MethodHandle" ∧ mWt_see.2.1.cls ≠ "java/lang/invoke/VarHandle" ∧ (parseMethodDescriptor mWt_see.2.1.desc).map (fun d => d.parameters.length) = some 2 := ⟨by decide +kernel, by decide +kernel, by decide +kernel⟩
theorem k7_108 : pm_LV 7 108 mWt_see 2 := pm_mkLV (pm_in (List.mem_of_getElem? (i := 675) (by decide +kernel)) (by decide +kernel)) n_mWt_see s_mWt_see i_mWt_see p_mWt_see (by decide +kernel) ok_mWt_see
theorem i_mMo_see : Cond.initialized mMo_see.2.1.cls ∈ pm_gw := pm_in (List.mem_of_getElem? (i := 7) (by decide +kernel)) (by decide +kernel)
theorem n_mMo_see : Cond.instanceMethod mMo_see.2.1 ∈ pm_gw := pm_in (List.mem_of_getElem? (i := 1182) (by decide +kernel)) (by decide +kernel)
theorem s_mMo_see : Cond.selects mMo_see.2.1.cls mMo_see.2.1 mMo_see.2.1 ∈ pm_gw := pm_in (List.mem_of_getElem? (i := 1183) (by decide +kernel)) (by decide +kernel)
theorem p_mMo_see : mMo_see.2.1.cls ≠ "java/lang/invoke/MethodHandle" ∧ mMo_see.2.1.cls ≠ "java/lang/invoke/VarHandle" ∧ (parseMethodDescriptor mMo_see.2.1.desc).map (fun d => d.parameters.length) = some 2 := ⟨by decide +kernel, by decide +kernel, by decide +kernel⟩
theorem k7_111 : pm_LV 7 111 mMo_see 2 := pm_mkLV (pm_in (List.mem_of_getElem? (i := 1181) (by decide +kernel)) (by decide +kernel)) n_mMo_see s_mMo_see i_mMo_see p_mMo_see (by decide +kernel) ok_mMo_see
theorem i_mWt_forget : Cond.initialized mWt_forget.2.1.cls ∈ pm_gw := pm_in (List.mem_of_getElem? (i := 1) (by decide +kernel)) (by decide +kernel)
theorem n_mWt_forget : Cond.instanceMethod mWt_forget.2.1 ∈ pm_gw := pm_in (List.mem_of_getElem? (i := 684) (by decide +kernel)) (by decide +kernel)
theorem s_mWt_forget : Cond.selects mWt_forget.2.1.cls mWt_forget.2.1 mWt_forget.2.1 ∈ pm_gw := pm_in (List.mem_of_getElem? (i := 685) (by decide +kernel)) (by decide +kernel)
theorem p_mWt_forget : mWt_forget.2.1.cls ≠ "java/lang/invoke/MethodHandle" ∧ mWt_forget.2.1.cls ≠ "java/lang/invoke/VarHandle" ∧ (parseMethodDescriptor mWt_forget.2.1.desc).map (fun d => d.parameters.length) = some 1 := ⟨by decide +kernel, by decide +kernel, by decide +kernel⟩
theorem k7_112 : pm_LV 7 112 mWt_forget 1 := pm_mkLV (pm_in (List.mem_of_getElem? (i := 683) (by decide +kernel)) (by decide +kernel)) n_mWt_forget s_mWt_forget i_mWt_forget p_mWt_forget (by decide +kernel) ok_mWt_forget
theorem i_mMo_forget : Cond.initialized mMo_forget.2.1.cls ∈ pm_gw := pm_in (List.mem_of_getElem? (i := 7) (by decide +kernel)) (by decide +kernel)
theorem n_mMo_forget : Cond.instanceMethod mMo_forget.2.1 ∈ pm_gw := pm_in (List.mem_of_getElem? (i := 1186) (by decide +kernel)) (by decide +kernel)
theorem s_mMo_forget : Cond.selects mMo_forget.2.1.cls mMo_forget.2.1 mMo_forget.2.1 ∈ pm_gw := pm_in (List.mem_of_getElem? (i := 1187) (by decide +kernel)) (by decide +kernel)
theorem p_mMo_forget : mMo_forget.2.1.cls ≠ "java/lang/invoke/MethodHandle" ∧ mMo_forget.2.1.cls ≠ "java/lang/invoke/VarHandle" ∧ (parseMethodDescriptor mMo_forget.2.1.desc).map (fun d => d.parameters.length) = some 1 := ⟨by decide +kernel, by decide +kernel, by decide +kernel⟩
theorem k7_115 : pm_LV 7 115 mMo_forget 1 := pm_mkLV (pm_in (List.mem_of_getElem? (i := 1185) (by decide +kernel)) (by decide +kernel)) n_mMo_forget s_mMo_forget i_mMo_forget p_mMo_forget (by decide +kernel) ok_mMo_forget
theorem i_mWt_fits : Cond.initialized mWt_fits.2.1.cls ∈ pm_gw := pm_in (List.mem_of_getElem? (i := 1) (by decide +kernel)) (by decide +kernel)
theorem n_mWt_fits : Cond.instanceMethod mWt_fits.2.1 ∈ pm_gw := pm_in (List.mem_of_getElem? (i := 688) (by decide +kernel)) (by decide +kernel)
theorem s_mWt_fits : Cond.selects mWt_fits.2.1.cls mWt_fits.2.1 mWt_fits.2.1 ∈ pm_gw := pm_in (List.mem_of_getElem? (i := 689) (by decide +kernel)) (by decide +kernel)
theorem p_mWt_fits : mWt_fits.2.1.cls ≠ "java/lang/invoke/MethodHandle" ∧ mWt_fits.2.1.cls ≠ "java/lang/invoke/VarHandle" ∧ (parseMethodDescriptor mWt_fits.2.1.desc).map (fun d => d.parameters.length) = some 1 := ⟨by decide +kernel, by decide +kernel, by decide +kernel⟩
theorem k7_116 : pm_LV 7 116 mWt_fits 1 := pm_mkLV (pm_in (List.mem_of_getElem? (i := 687) (by decide +kernel)) (by decide +kernel)) n_mWt_fits s_mWt_fits i_mWt_fits p_mWt_fits (by decide +kernel) ok_mWt_fits
theorem i_mMo_fits : Cond.initialized mMo_fits.2.1.cls ∈ pm_gw := pm_in (List.mem_of_getElem? (i := 7) (by decide +kernel)) (by decide +kernel)
theorem n_mMo_fits : Cond.instanceMethod mMo_fits.2.1 ∈ pm_gw := pm_in (List.mem_of_getElem? (i := 1190) (by decide +kernel)) (by decide +kernel)
theorem s_mMo_fits : Cond.selects mMo_fits.2.1.cls mMo_fits.2.1 mMo_fits.2.1 ∈ pm_gw := pm_in (List.mem_of_getElem? (i := 1191) (by decide +kernel)) (by decide +kernel)
theorem p_mMo_fits : mMo_fits.2.1.cls ≠ "java/lang/invoke/MethodHandle" ∧ mMo_fits.2.1.cls ≠ "java/lang/invoke/VarHandle" ∧ (parseMethodDescriptor mMo_fits.2.1.desc).map (fun d => d.parameters.length) = some 1 := ⟨by decide +kernel, by decide +kernel, by decide +kernel⟩
theorem k7_119 : pm_LV 7 119 mMo_fits 1 := pm_mkLV (pm_in (List.mem_of_getElem? (i := 1189) (by decide +kernel)) (by decide +kernel)) n_mMo_fits s_mMo_fits i_mMo_fits p_mMo_fits (by decide +kernel) ok_mMo_fits
theorem i_mWt_ask : Cond.initialized mWt_ask.2.1.cls ∈ pm_gw := pm_in (List.mem_of_getElem? (i := 1) (by decide +kernel)) (by decide +kernel)
theorem n_mWt_ask : Cond.instanceMethod mWt_ask.2.1 ∈ pm_gw := pm_in (List.mem_of_getElem? (i := 708) (by decide +kernel)) (by decide +kernel)
theorem s_mWt_ask : Cond.selects mWt_ask.2.1.cls mWt_ask.2.1 mWt_ask.2.1 ∈ pm_gw := pm_in (List.mem_of_getElem? (i := 709) (by decide +kernel)) (by decide +kernel)
theorem p_mWt_ask : mWt_ask.2.1.cls ≠ "java/lang/invoke/MethodHandle" ∧ mWt_ask.2.1.cls ≠ "java/lang/invoke/VarHandle" ∧ (parseMethodDescriptor mWt_ask.2.1.desc).map (fun d => d.parameters.length) = some 1 := ⟨by decide +kernel, by decide +kernel, by decide +kernel⟩
theorem k7_120 : pm_LV 7 120 mWt_ask 1 := pm_mkLV (pm_in (List.mem_of_getElem? (i := 707) (by decide +kernel)) (by decide +kernel)) n_mWt_ask s_mWt_ask i_mWt_ask p_mWt_ask (by decide +kernel) ok_mWt_ask
theorem i_mMo_ask : Cond.initialized mMo_ask.2.1.cls ∈ pm_gw := pm_in (List.mem_of_getElem? (i := 7) (by decide +kernel)) (by decide +kernel)
theorem n_mMo_ask : Cond.instanceMethod mMo_ask.2.1 ∈ pm_gw := pm_in (List.mem_of_getElem? (i := 1198) (by decide +kernel)) (by decide +kernel)
theorem s_mMo_ask : Cond.selects mMo_ask.2.1.cls mMo_ask.2.1 mMo_ask.2.1 ∈ pm_gw := pm_in (List.mem_of_getElem? (i := 1199) (by decide +kernel)) (by decide +kernel)
theorem p_mMo_ask : mMo_ask.2.1.cls ≠ "java/lang/invoke/MethodHandle" ∧ mMo_ask.2.1.cls ≠ "java/lang/invoke/VarHandle" ∧ (parseMethodDescriptor mMo_ask.2.1.desc).map (fun d => d.parameters.length) = some 1 := ⟨by decide +kernel, by decide +kernel, by decide +kernel⟩
theorem k7_123 : pm_LV 7 123 mMo_ask 1 := pm_mkLV (pm_in (List.mem_of_getElem? (i := 1197) (by decide +kernel)) (by decide +kernel)) n_mMo_ask s_mMo_ask i_mMo_ask p_mMo_ask (by decide +kernel) ok_mMo_ask
theorem i_mWt_drift : Cond.initialized mWt_drift.2.1.cls ∈ pm_gw := pm_in (List.mem_of_getElem? (i := 1) (by decide +kernel)) (by decide +kernel)
theorem n_mWt_drift : Cond.instanceMethod mWt_drift.2.1 ∈ pm_gw := pm_in (List.mem_of_getElem? (i := 716) (by decide +kernel)) (by decide +kernel)
theorem s_mWt_drift : Cond.selects mWt_drift.2.1.cls mWt_drift.2.1 mWt_drift.2.1 ∈ pm_gw := pm_in (List.mem_of_getElem? (i := 717) (by decide +kernel)) (by decide +kernel)
theorem p_mWt_drift : mWt_drift.2.1.cls ≠ "java/lang/invoke/MethodHandle" ∧ mWt_drift.2.1.cls ≠ "java/lang/invoke/VarHandle" ∧ (parseMethodDescriptor mWt_drift.2.1.desc).map (fun d => d.parameters.length) = some 2 := ⟨by decide +kernel, by decide +kernel, by decide +kernel⟩
theorem k7_124 : pm_LV 7 124 mWt_drift 2 := pm_mkLV (pm_in (List.mem_of_getElem? (i := 715) (by decide +kernel)) (by decide +kernel)) n_mWt_drift s_mWt_drift i_mWt_drift p_mWt_drift (by decide +kernel) ok_mWt_drift
theorem i_mMo_drift : Cond.initialized mMo_drift.2.1.cls ∈ pm_gw := pm_in (List.mem_of_getElem? (i := 7) (by decide +kernel)) (by decide +kernel)
theorem n_mMo_drift : Cond.instanceMethod mMo_drift.2.1 ∈ pm_gw := pm_in (List.mem_of_getElem? (i := 1202) (by decide +kernel)) (by decide +kernel)
theorem s_mMo_drift : Cond.selects mMo_drift.2.1.cls mMo_drift.2.1 mMo_drift.2.1 ∈ pm_gw := pm_in (List.mem_of_getElem? (i := 1203) (by decide +kernel)) (by decide +kernel)
theorem p_mMo_drift : mMo_drift.2.1.cls ≠ "java/lang/invoke/MethodHandle" ∧ mMo_drift.2.1.cls ≠ "java/lang/invoke/VarHandle" ∧ (parseMethodDescriptor mMo_drift.2.1.desc).map (fun d => d.parameters.length) = some 2 := ⟨by decide +kernel, by decide +kernel, by decide +kernel⟩
theorem k7_127 : pm_LV 7 127 mMo_drift 2 := pm_mkLV (pm_in (List.mem_of_getElem? (i := 1201) (by decide +kernel)) (by decide +kernel)) n_mMo_drift s_mMo_drift i_mMo_drift p_mMo_drift (by decide +kernel) ok_mMo_drift
theorem i_mWt_keep : Cond.initialized mWt_keep.2.1.cls ∈ pm_gw := pm_in (List.mem_of_getElem? (i := 1) (by decide +kernel)) (by decide +kernel)
theorem n_mWt_keep : Cond.instanceMethod mWt_keep.2.1 ∈ pm_gw := pm_in (List.mem_of_getElem? (i := 730) (by decide +kernel)) (by decide +kernel)
theorem s_mWt_keep : Cond.selects mWt_keep.2.1.cls mWt_keep.2.1 mWt_keep.2.1 ∈ pm_gw := pm_in (List.mem_of_getElem? (i := 731) (by decide +kernel)) (by decide +kernel)
theorem p_mWt_keep : mWt_keep.2.1.cls ≠ "java/lang/invoke/MethodHandle" ∧ mWt_keep.2.1.cls ≠ "java/lang/invoke/VarHandle" ∧ (parseMethodDescriptor mWt_keep.2.1.desc).map (fun d => d.parameters.length) = some 1 := ⟨by decide +kernel, by decide +kernel, by decide +kernel⟩
theorem k7_128 : pm_LV 7 128 mWt_keep 1 := pm_mkLV (pm_in (List.mem_of_getElem? (i := 729) (by decide +kernel)) (by decide +kernel)) n_mWt_keep s_mWt_keep i_mWt_keep p_mWt_keep (by decide +kernel) ok_mWt_keep
theorem i_mMo_keep : Cond.initialized mMo_keep.2.1.cls ∈ pm_gw := pm_in (List.mem_of_getElem? (i := 7) (by decide +kernel)) (by decide +kernel)
theorem n_mMo_keep : Cond.instanceMethod mMo_keep.2.1 ∈ pm_gw := pm_in (List.mem_of_getElem? (i := 1211) (by decide +kernel)) (by decide +kernel)
theorem s_mMo_keep : Cond.selects mMo_keep.2.1.cls mMo_keep.2.1 mMo_keep.2.1 ∈ pm_gw := pm_in (List.mem_of_getElem? (i := 1212) (by decide +kernel)) (by decide +kernel)
theorem p_mMo_keep : mMo_keep.2.1.cls ≠ "java/lang/invoke/MethodHandle" ∧ mMo_keep.2.1.cls ≠ "java/lang/invoke/VarHandle" ∧ (parseMethodDescriptor mMo_keep.2.1.desc).map (fun d => d.parameters.length) = some 1 := ⟨by decide +kernel, by decide +kernel, by decide +kernel⟩
theorem k7_131 : pm_LV 7 131 mMo_keep 1 := pm_mkLV (pm_in (List.mem_of_getElem? (i := 1210) (by decide +kernel)) (by decide +kernel)) n_mMo_keep s_mMo_keep i_mMo_keep p_mMo_keep (by decide +kernel) ok_mMo_keep
theorem i_mWt_back : Cond.initialized mWt_back.2.1.cls ∈ pm_gw := pm_in (List.mem_of_getElem? (i := 1) (by decide +kernel)) (by decide +kernel)
theorem n_mWt_back : Cond.instanceMethod mWt_back.2.1 ∈ pm_gw := pm_in (List.mem_of_getElem? (i := 734) (by decide +kernel)) (by decide +kernel)
theorem s_mWt_back : Cond.selects mWt_back.2.1.cls mWt_back.2.1 mWt_back.2.1 ∈ pm_gw := pm_in (List.mem_of_getElem? (i := 735) (by decide +kernel)) (by decide +kernel)
theorem p_mWt_back : mWt_back.2.1.cls ≠ "java/lang/invoke/MethodHandle" ∧ mWt_back.2.1.cls ≠ "java/lang/invoke/VarHandle" ∧ (parseMethodDescriptor mWt_back.2.1.desc).map (fun d => d.parameters.length) = some 1 := ⟨by decide +kernel, by decide +kernel, by decide +kernel⟩
theorem k7_132 : pm_LV 7 132 mWt_back 1 := pm_mkLV (pm_in (List.mem_of_getElem? (i := 733) (by decide +kernel)) (by decide +kernel)) n_mWt_back s_mWt_back i_mWt_back p_mWt_back (by decide +kernel) ok_mWt_back
theorem i_mMo_back : Cond.initialized mMo_back.2.1.cls ∈ pm_gw := pm_in (List.mem_of_getElem? (i := 7) (by decide +kernel)) (by decide +kernel)
theorem n_mMo_back : Cond.instanceMethod mMo_back.2.1 ∈ pm_gw := pm_in (List.mem_of_getElem? (i := 1219) (by decide +kernel)) (by decide +kernel)
theorem s_mMo_back : Cond.selects mMo_back.2.1.cls mMo_back.2.1 mMo_back.2.1 ∈ pm_gw := pm_in (List.mem_of_getElem? (i := 1220) (by decide +kernel)) (by decide +kernel)
theorem p_mMo_back : mMo_back.2.1.cls ≠ "java/lang/invoke/MethodHandle" ∧ mMo_back.2.1.cls ≠ "java/lang/invoke/VarHandle" ∧ (parseMethodDescriptor mMo_back.2.1.desc).map (fun d => d.parameters.length) = some 1 := ⟨by decide +kernel, by decide +kernel, by decide +kernel⟩
theorem k7_135 : pm_LV 7 135 mMo_back 1 := pm_mkLV (pm_in (List.mem_of_getElem? (i := 1218) (by decide +kernel)) (by decide +kernel)) n_mMo_back s_mMo_back i_mMo_back p_mMo_back (by decide +kernel) ok_mMo_back
theorem i_mWt_sheet : Cond.initialized mWt_sheet.2.1.cls ∈ pm_gw := pm_in (List.mem_of_getElem? (i := 1) (by decide +kernel)) (by decide +kernel)
theorem n_mWt_sheet : Cond.instanceMethod mWt_sheet.2.1 ∈ pm_gw := pm_in (List.mem_of_getElem? (i := 738) (by decide +kernel)) (by decide +kernel)
theorem s_mWt_sheet : Cond.selects mWt_sheet.2.1.cls mWt_sheet.2.1 mWt_sheet.2.1 ∈ pm_gw := pm_in (List.mem_of_getElem? (i := 739) (by decide +kernel)) (by decide +kernel)
theorem p_mWt_sheet : mWt_sheet.2.1.cls ≠ "java/lang/invoke/MethodHandle" ∧ mWt_sheet.2.1.cls ≠ "java/lang/invoke/VarHandle" ∧ (parseMethodDescriptor mWt_sheet.2.1.desc).map (fun d => d.parameters.length) = some 3 := ⟨by decide +kernel, by decide +kernel, by decide +kernel⟩
theorem k7_136 : pm_LV 7 136 mWt_sheet 3 := pm_mkLV (pm_in (List.mem_of_getElem? (i := 737) (by decide +kernel)) (by decide +kernel)) n_mWt_sheet s_mWt_sheet i_mWt_sheet p_mWt_sheet (by decide +kernel) ok_mWt_sheet
theorem i_mMo_sheet : Cond.initialized mMo_sheet.2.1.cls ∈ pm_gw := pm_in (List.mem_of_getElem? (i := 7) (by decide +kernel)) (by decide +kernel)
theorem n_mMo_sheet : Cond.instanceMethod mMo_sheet.2.1 ∈ pm_gw := pm_in (List.mem_of_getElem? (i := 1223) (by decide +kernel)) (by decide +kernel)
theorem s_mMo_sheet : Cond.selects mMo_sheet.2.1.cls mMo_sheet.2.1 mMo_sheet.2.1 ∈ pm_gw := pm_in (List.mem_of_getElem? (i := 1224) (by decide +kernel)) (by decide +kernel)
theorem p_mMo_sheet : mMo_sheet.2.1.cls ≠ "java/lang/invoke/MethodHandle" ∧ mMo_sheet.2.1.cls ≠ "java/lang/invoke/VarHandle" ∧ (parseMethodDescriptor mMo_sheet.2.1.desc).map (fun d => d.parameters.length) = some 3 := ⟨by decide +kernel, by decide +kernel, by decide +kernel⟩
theorem k7_139 : pm_LV 7 139 mMo_sheet 3 := pm_mkLV (pm_in (List.mem_of_getElem? (i := 1222) (by decide +kernel)) (by decide +kernel)) n_mMo_sheet s_mMo_sheet i_mMo_sheet p_mMo_sheet (by decide +kernel) ok_mMo_sheet
theorem i_mWt_lay : Cond.initialized mWt_lay.2.1.cls ∈ pm_gw := pm_in (List.mem_of_getElem? (i := 1) (by decide +kernel)) (by decide +kernel)
theorem n_mWt_lay : Cond.instanceMethod mWt_lay.2.1 ∈ pm_gw := pm_in (List.mem_of_getElem? (i := 754) (by decide +kernel)) (by decide +kernel)
theorem s_mWt_lay : Cond.selects mWt_lay.2.1.cls mWt_lay.2.1 mWt_lay.2.1 ∈ pm_gw := pm_in (List.mem_of_getElem? (i := 755) (by decide +kernel)) (by decide +kernel)
theorem p_mWt_lay : mWt_lay.2.1.cls ≠ "java/lang/invoke/MethodHandle" ∧ mWt_lay.2.1.cls ≠ "java/lang/invoke/VarHandle" ∧ (parseMethodDescriptor mWt_lay.2.1.desc).map (fun d => d.parameters.length) = some 3 := ⟨by decide +kernel, by decide +kernel, by decide +kernel⟩
theorem k7_140 : pm_LV 7 140 mWt_lay 3 := pm_mkLV (pm_in (List.mem_of_getElem? (i := 753) (by decide +kernel)) (by decide +kernel)) n_mWt_lay s_mWt_lay i_mWt_lay p_mWt_lay (by decide +kernel) ok_mWt_lay
theorem i_mMo_lay : Cond.initialized mMo_lay.2.1.cls ∈ pm_gw := pm_in (List.mem_of_getElem? (i := 7) (by decide +kernel)) (by decide +kernel)
theorem n_mMo_lay : Cond.instanceMethod mMo_lay.2.1 ∈ pm_gw := pm_in (List.mem_of_getElem? (i := 1230) (by decide +kernel)) (by decide +kernel)
theorem s_mMo_lay : Cond.selects mMo_lay.2.1.cls mMo_lay.2.1 mMo_lay.2.1 ∈ pm_gw := pm_in (List.mem_of_getElem? (i := 1231) (by decide +kernel)) (by decide +kernel)
theorem p_mMo_lay : mMo_lay.2.1.cls ≠ "java/lang/invoke/MethodHandle" ∧ mMo_lay.2.1.cls ≠ "java/lang/invoke/VarHandle" ∧ (parseMethodDescriptor mMo_lay.2.1.desc).map (fun d => d.parameters.length) = some 3 := ⟨by decide +kernel, by decide +kernel, by decide +kernel⟩
theorem k7_143 : pm_LV 7 143 mMo_lay 3 := pm_mkLV (pm_in (List.mem_of_getElem? (i := 1229) (by decide +kernel)) (by decide +kernel)) n_mMo_lay s_mMo_lay i_mMo_lay p_mMo_lay (by decide +kernel) ok_mMo_lay
theorem i_mWt_read : Cond.initialized mWt_read.2.1.cls ∈ pm_gw := pm_in (List.mem_of_getElem? (i := 1) (by decide +kernel)) (by decide +kernel)
theorem n_mWt_read : Cond.instanceMethod mWt_read.2.1 ∈ pm_gw := pm_in (List.mem_of_getElem? (i := 766) (by decide +kernel)) (by decide +kernel)
theorem s_mWt_read : Cond.selects mWt_read.2.1.cls mWt_read.2.1 mWt_read.2.1 ∈ pm_gw := pm_in (List.mem_of_getElem? (i := 767) (by decide +kernel)) (by decide +kernel)
theorem p_mWt_read : mWt_read.2.1.cls ≠ "java/lang/invoke/MethodHandle" ∧ mWt_read.2.1.cls ≠ "java/lang/invoke/VarHandle" ∧ (parseMethodDescriptor mWt_read.2.1.desc).map (fun d => d.parameters.length) = some 4 := ⟨by decide +kernel, by decide +kernel, by decide +kernel⟩
theorem k7_144 : pm_LV 7 144 mWt_read 4 := pm_mkLV (pm_in (List.mem_of_getElem? (i := 765) (by decide +kernel)) (by decide +kernel)) n_mWt_read s_mWt_read i_mWt_read p_mWt_read (by decide +kernel) ok_mWt_read
theorem i_mMo_read : Cond.initialized mMo_read.2.1.cls ∈ pm_gw := pm_in (List.mem_of_getElem? (i := 7) (by decide +kernel)) (by decide +kernel)
theorem n_mMo_read : Cond.instanceMethod mMo_read.2.1 ∈ pm_gw := pm_in (List.mem_of_getElem? (i := 1234) (by decide +kernel)) (by decide +kernel)
theorem s_mMo_read : Cond.selects mMo_read.2.1.cls mMo_read.2.1 mMo_read.2.1 ∈ pm_gw := pm_in (List.mem_of_getElem? (i := 1235) (by decide +kernel)) (by decide +kernel)
theorem p_mMo_read : mMo_read.2.1.cls ≠ "java/lang/invoke/MethodHandle" ∧ mMo_read.2.1.cls ≠ "java/lang/invoke/VarHandle" ∧ (parseMethodDescriptor mMo_read.2.1.desc).map (fun d => d.parameters.length) = some 4 := ⟨by decide +kernel, by decide +kernel, by decide +kernel⟩
theorem k7_148 : pm_LV 7 148 mMo_read 4 := pm_mkLV (pm_in (List.mem_of_getElem? (i := 1233) (by decide +kernel)) (by decide +kernel)) n_mMo_read s_mMo_read i_mMo_read p_mMo_read (by decide +kernel) ok_mMo_read
theorem i_mWt_torn : Cond.initialized mWt_torn.2.1.cls ∈ pm_gw := pm_in (List.mem_of_getElem? (i := 1) (by decide +kernel)) (by decide +kernel)
theorem n_mWt_torn : Cond.instanceMethod mWt_torn.2.1 ∈ pm_gw := pm_in (List.mem_of_getElem? (i := 775) (by decide +kernel)) (by decide +kernel)
theorem s_mWt_torn : Cond.selects mWt_torn.2.1.cls mWt_torn.2.1 mWt_torn.2.1 ∈ pm_gw := pm_in (List.mem_of_getElem? (i := 776) (by decide +kernel)) (by decide +kernel)
theorem p_mWt_torn : mWt_torn.2.1.cls ≠ "java/lang/invoke/MethodHandle" ∧ mWt_torn.2.1.cls ≠ "java/lang/invoke/VarHandle" ∧ (parseMethodDescriptor mWt_torn.2.1.desc).map (fun d => d.parameters.length) = some 0 := ⟨by decide +kernel, by decide +kernel, by decide +kernel⟩
theorem k7_149 : pm_LV 7 149 mWt_torn 0 := pm_mkLV (pm_in (List.mem_of_getElem? (i := 774) (by decide +kernel)) (by decide +kernel)) n_mWt_torn s_mWt_torn i_mWt_torn p_mWt_torn (by decide +kernel) ok_mWt_torn
theorem i_mMo_torn : Cond.initialized mMo_torn.2.1.cls ∈ pm_gw := pm_in (List.mem_of_getElem? (i := 7) (by decide +kernel)) (by decide +kernel)
theorem n_mMo_torn : Cond.instanceMethod mMo_torn.2.1 ∈ pm_gw := pm_in (List.mem_of_getElem? (i := 1240) (by decide +kernel)) (by decide +kernel)
theorem s_mMo_torn : Cond.selects mMo_torn.2.1.cls mMo_torn.2.1 mMo_torn.2.1 ∈ pm_gw := pm_in (List.mem_of_getElem? (i := 1241) (by decide +kernel)) (by decide +kernel)
theorem p_mMo_torn : mMo_torn.2.1.cls ≠ "java/lang/invoke/MethodHandle" ∧ mMo_torn.2.1.cls ≠ "java/lang/invoke/VarHandle" ∧ (parseMethodDescriptor mMo_torn.2.1.desc).map (fun d => d.parameters.length) = some 0 := ⟨by decide +kernel, by decide +kernel, by decide +kernel⟩
theorem k7_152 : pm_LV 7 152 mMo_torn 0 := pm_mkLV (pm_in (List.mem_of_getElem? (i := 1239) (by decide +kernel)) (by decide +kernel)) n_mMo_torn s_mMo_torn i_mMo_torn p_mMo_torn (by decide +kernel) ok_mMo_torn
theorem i_mWt_count : Cond.initialized mWt_count.2.1.cls ∈ pm_gw := pm_in (List.mem_of_getElem? (i := 1) (by decide +kernel)) (by decide +kernel)
theorem n_mWt_count : Cond.instanceMethod mWt_count.2.1 ∈ pm_gw := pm_in (List.mem_of_getElem? (i := 779) (by decide +kernel)) (by decide +kernel)
theorem s_mWt_count : Cond.selects mWt_count.2.1.cls mWt_count.2.1 mWt_count.2.1 ∈ pm_gw := pm_in (List.mem_of_getElem? (i := 780) (by decide +kernel)) (by decide +kernel)
theorem p_mWt_count : mWt_count.2.1.cls ≠ "java/lang/invoke/MethodHandle" ∧ mWt_count.2.1.cls ≠ "java/lang/invoke/VarHandle" ∧ (parseMethodDescriptor mWt_count.2.1.desc).map (fun d => d.parameters.length) = some 1 := ⟨by decide +kernel, by decide +kernel, by decide +kernel⟩
theorem k7_153 : pm_LV 7 153 mWt_count 1 := pm_mkLV (pm_in (List.mem_of_getElem? (i := 778) (by decide +kernel)) (by decide +kernel)) n_mWt_count s_mWt_count i_mWt_count p_mWt_count (by decide +kernel) ok_mWt_count
theorem i_mMo_count : Cond.initialized mMo_count.2.1.cls ∈ pm_gw := pm_in (List.mem_of_getElem? (i := 7) (by decide +kernel)) (by decide +kernel)
theorem n_mMo_count : Cond.instanceMethod mMo_count.2.1 ∈ pm_gw := pm_in (List.mem_of_getElem? (i := 1244) (by decide +kernel)) (by decide +kernel)
theorem s_mMo_count : Cond.selects mMo_count.2.1.cls mMo_count.2.1 mMo_count.2.1 ∈ pm_gw := pm_in (List.mem_of_getElem? (i := 1245) (by decide +kernel)) (by decide +kernel)
theorem p_mMo_count : mMo_count.2.1.cls ≠ "java/lang/invoke/MethodHandle" ∧ mMo_count.2.1.cls ≠ "java/lang/invoke/VarHandle" ∧ (parseMethodDescriptor mMo_count.2.1.desc).map (fun d => d.parameters.length) = some 1 := ⟨by decide +kernel, by decide +kernel, by decide +kernel⟩
theorem k7_156 : pm_LV 7 156 mMo_count 1 := pm_mkLV (pm_in (List.mem_of_getElem? (i := 1243) (by decide +kernel)) (by decide +kernel)) n_mMo_count s_mMo_count i_mMo_count p_mMo_count (by decide +kernel) ok_mMo_count
end
