section
-- ===== PART A: goes FIRST, ahead of the names: the tables' words, and 'selects' of the private methods out of them =====
/-- a private method of a class that the tables say can be made, by its rows of tables_1 -/
def lw_okq (q : MethodName × Nat) : Prop := (q.1.cls ≠ "java/lang/invoke/MethodHandle" ∧ q.1.cls ≠ "java/lang/invoke/VarHandle") ∧ Cond.instantiable q.1.cls q.2 ∈ tables_1 ∧ Cond.privateMethod q.1 ∈ tables_1 ∧ Cond.instanceMethod q.1 ∈ tables_1
theorem lw_p0 : lw_okq (⟨"MarkShelter$Tokens", "skipBlanks", "()V"⟩, 7) := ⟨⟨by decide +kernel, by decide +kernel⟩, List.mem_of_getElem? (i := 42) (by decide +kernel), List.mem_of_getElem? (i := 299) (by decide +kernel), List.mem_of_getElem? (i := 300) (by decide +kernel)⟩
theorem lw_p1 : lw_okq (⟨"MarkShelter$Tokens", "byteAt", "(I)I"⟩, 7) := ⟨⟨by decide +kernel, by decide +kernel⟩, List.mem_of_getElem? (i := 42) (by decide +kernel), List.mem_of_getElem? (i := 303) (by decide +kernel), List.mem_of_getElem? (i := 304) (by decide +kernel)⟩
theorem lw_p2 : lw_okq (⟨"MarkShelter$Tokens", "readToken", "(I)LMarkShelter$Sign;"⟩, 7) := ⟨⟨by decide +kernel, by decide +kernel⟩, List.mem_of_getElem? (i := 42) (by decide +kernel), List.mem_of_getElem? (i := 310) (by decide +kernel), List.mem_of_getElem? (i := 311) (by decide +kernel)⟩
theorem lw_p3 : lw_okq (⟨"MarkShelter$Tokens", "readWord", "(I)LMarkShelter$Sign;"⟩, 7) := ⟨⟨by decide +kernel, by decide +kernel⟩, List.mem_of_getElem? (i := 42) (by decide +kernel), List.mem_of_getElem? (i := 319) (by decide +kernel), List.mem_of_getElem? (i := 320) (by decide +kernel)⟩
theorem lw_p4 : lw_okq (⟨"MarkShelter$Tokens", "standsAt", "(Ljava/lang/String;I)Z"⟩, 7) := ⟨⟨by decide +kernel, by decide +kernel⟩, List.mem_of_getElem? (i := 42) (by decide +kernel), List.mem_of_getElem? (i := 342) (by decide +kernel), List.mem_of_getElem? (i := 343) (by decide +kernel)⟩
theorem lw_p5 : lw_okq (⟨"MarkShelter$Tokens", "readNumber", "(I)LMarkShelter$Sign;"⟩, 7) := ⟨⟨by decide +kernel, by decide +kernel⟩, List.mem_of_getElem? (i := 42) (by decide +kernel), List.mem_of_getElem? (i := 386) (by decide +kernel), List.mem_of_getElem? (i := 387) (by decide +kernel)⟩
theorem lw_p6 : lw_okq (⟨"MarkShelter$Tokens", "readSymbol", "()LMarkShelter$Sign;"⟩, 7) := ⟨⟨by decide +kernel, by decide +kernel⟩, List.mem_of_getElem? (i := 42) (by decide +kernel), List.mem_of_getElem? (i := 392) (by decide +kernel), List.mem_of_getElem? (i := 393) (by decide +kernel)⟩
theorem lw_p7 : lw_okq (⟨"MarkShelter$BookReader", "goTo", "(I)V"⟩, 8) := ⟨⟨by decide +kernel, by decide +kernel⟩, List.mem_of_getElem? (i := 36) (by decide +kernel), List.mem_of_getElem? (i := 400) (by decide +kernel), List.mem_of_getElem? (i := 401) (by decide +kernel)⟩
theorem lw_p8 : lw_okq (⟨"MarkShelter$BookReader", "readBeginning", "()V"⟩, 8) := ⟨⟨by decide +kernel, by decide +kernel⟩, List.mem_of_getElem? (i := 36) (by decide +kernel), List.mem_of_getElem? (i := 404) (by decide +kernel), List.mem_of_getElem? (i := 405) (by decide +kernel)⟩
theorem lw_p9 : lw_okq (⟨"MarkShelter$BookReader", "advance", "()V"⟩, 8) := ⟨⟨by decide +kernel, by decide +kernel⟩, List.mem_of_getElem? (i := 36) (by decide +kernel), List.mem_of_getElem? (i := 410) (by decide +kernel), List.mem_of_getElem? (i := 411) (by decide +kernel)⟩
theorem lw_p10 : lw_okq (⟨"MarkShelter$BookReader", "readNumber", "(II)I"⟩, 8) := ⟨⟨by decide +kernel, by decide +kernel⟩, List.mem_of_getElem? (i := 36) (by decide +kernel), List.mem_of_getElem? (i := 414) (by decide +kernel), List.mem_of_getElem? (i := 415) (by decide +kernel)⟩
theorem lw_p11 : lw_okq (⟨"MarkShelter$BookReader", "tell", "(I)V"⟩, 8) := ⟨⟨by decide +kernel, by decide +kernel⟩, List.mem_of_getElem? (i := 36) (by decide +kernel), List.mem_of_getElem? (i := 419) (by decide +kernel), List.mem_of_getElem? (i := 420) (by decide +kernel)⟩
theorem lw_p12 : lw_okq (⟨"MarkShelter$BookReader", "expect", "(LMarkShelter$Sign;)V"⟩, 8) := ⟨⟨by decide +kernel, by decide +kernel⟩, List.mem_of_getElem? (i := 36) (by decide +kernel), List.mem_of_getElem? (i := 423) (by decide +kernel), List.mem_of_getElem? (i := 424) (by decide +kernel)⟩
theorem lw_p13 : lw_okq (⟨"MarkShelter$BookReader", "fail", "()V"⟩, 8) := ⟨⟨by decide +kernel, by decide +kernel⟩, List.mem_of_getElem? (i := 36) (by decide +kernel), List.mem_of_getElem? (i := 427) (by decide +kernel), List.mem_of_getElem? (i := 428) (by decide +kernel)⟩
theorem lw_p14 : lw_okq (⟨"MarkShelter$BookReader", "readStray", "()V"⟩, 8) := ⟨⟨by decide +kernel, by decide +kernel⟩, List.mem_of_getElem? (i := 36) (by decide +kernel), List.mem_of_getElem? (i := 438) (by decide +kernel), List.mem_of_getElem? (i := 439) (by decide +kernel)⟩
theorem lw_p15 : lw_okq (⟨"MarkShelter$BookReader", "readOrder", "()V"⟩, 8) := ⟨⟨by decide +kernel, by decide +kernel⟩, List.mem_of_getElem? (i := 36) (by decide +kernel), List.mem_of_getElem? (i := 478) (by decide +kernel), List.mem_of_getElem? (i := 479) (by decide +kernel)⟩
def lw_privs_1 : List (MethodName × Nat) := [(⟨"MarkShelter$Tokens", "skipBlanks", "()V"⟩, 7), (⟨"MarkShelter$Tokens", "byteAt", "(I)I"⟩, 7), (⟨"MarkShelter$Tokens", "readToken", "(I)LMarkShelter$Sign;"⟩, 7), (⟨"MarkShelter$Tokens", "readWord", "(I)LMarkShelter$Sign;"⟩, 7), (⟨"MarkShelter$Tokens", "standsAt", "(Ljava/lang/String;I)Z"⟩, 7), (⟨"MarkShelter$Tokens", "readNumber", "(I)LMarkShelter$Sign;"⟩, 7), (⟨"MarkShelter$Tokens", "readSymbol", "()LMarkShelter$Sign;"⟩, 7), (⟨"MarkShelter$BookReader", "goTo", "(I)V"⟩, 8), (⟨"MarkShelter$BookReader", "readBeginning", "()V"⟩, 8), (⟨"MarkShelter$BookReader", "advance", "()V"⟩, 8), (⟨"MarkShelter$BookReader", "readNumber", "(II)I"⟩, 8), (⟨"MarkShelter$BookReader", "tell", "(I)V"⟩, 8), (⟨"MarkShelter$BookReader", "expect", "(LMarkShelter$Sign;)V"⟩, 8), (⟨"MarkShelter$BookReader", "fail", "()V"⟩, 8), (⟨"MarkShelter$BookReader", "readStray", "()V"⟩, 8), (⟨"MarkShelter$BookReader", "readOrder", "()V"⟩, 8)]
theorem lw_r1 : ∀ q ∈ lw_privs_1, lw_okq q := List.forall_mem_cons.mpr ⟨lw_p0, List.forall_mem_cons.mpr ⟨lw_p1, List.forall_mem_cons.mpr ⟨lw_p2, List.forall_mem_cons.mpr ⟨lw_p3, List.forall_mem_cons.mpr ⟨lw_p4, List.forall_mem_cons.mpr ⟨lw_p5, List.forall_mem_cons.mpr ⟨lw_p6, List.forall_mem_cons.mpr ⟨lw_p7, List.forall_mem_cons.mpr ⟨lw_p8, List.forall_mem_cons.mpr ⟨lw_p9, List.forall_mem_cons.mpr ⟨lw_p10, List.forall_mem_cons.mpr ⟨lw_p11, List.forall_mem_cons.mpr ⟨lw_p12, List.forall_mem_cons.mpr ⟨lw_p13, List.forall_mem_cons.mpr ⟨lw_p14, List.forall_mem_cons.mpr ⟨lw_p15, fun _ h => absurd h List.not_mem_nil⟩⟩⟩⟩⟩⟩⟩⟩⟩⟩⟩⟩⟩⟩⟩⟩
theorem lw_p16 : lw_okq (⟨"MarkShelter$BookReader", "readKnownName", "()I"⟩, 8) := ⟨⟨by decide +kernel, by decide +kernel⟩, List.mem_of_getElem? (i := 36) (by decide +kernel), List.mem_of_getElem? (i := 482) (by decide +kernel), List.mem_of_getElem? (i := 483) (by decide +kernel)⟩
theorem lw_p17 : lw_okq (⟨"MarkShelter$BookReader", "readTest", "(I)V"⟩, 8) := ⟨⟨by decide +kernel, by decide +kernel⟩, List.mem_of_getElem? (i := 36) (by decide +kernel), List.mem_of_getElem? (i := 488) (by decide +kernel), List.mem_of_getElem? (i := 489) (by decide +kernel)⟩
theorem lw_p18 : lw_okq (⟨"MarkShelter$BookReader", "readBoth", "(I)V"⟩, 8) := ⟨⟨by decide +kernel, by decide +kernel⟩, List.mem_of_getElem? (i := 36) (by decide +kernel), List.mem_of_getElem? (i := 492) (by decide +kernel), List.mem_of_getElem? (i := 493) (by decide +kernel)⟩
theorem lw_p19 : lw_okq (⟨"MarkShelter$BookReader", "readSingle", "(I)V"⟩, 8) := ⟨⟨by decide +kernel, by decide +kernel⟩, List.mem_of_getElem? (i := 36) (by decide +kernel), List.mem_of_getElem? (i := 496) (by decide +kernel), List.mem_of_getElem? (i := 497) (by decide +kernel)⟩
theorem lw_p20 : lw_okq (⟨"MarkShelter$BookReader", "goDeeper", "(I)Z"⟩, 8) := ⟨⟨by decide +kernel, by decide +kernel⟩, List.mem_of_getElem? (i := 36) (by decide +kernel), List.mem_of_getElem? (i := 500) (by decide +kernel), List.mem_of_getElem? (i := 501) (by decide +kernel)⟩
theorem lw_p21 : lw_okq (⟨"MarkShelter$BookReader", "readSum", "(I)V"⟩, 8) := ⟨⟨by decide +kernel, by decide +kernel⟩, List.mem_of_getElem? (i := 36) (by decide +kernel), List.mem_of_getElem? (i := 512) (by decide +kernel), List.mem_of_getElem? (i := 513) (by decide +kernel)⟩
theorem lw_p22 : lw_okq (⟨"MarkShelter$BookReader", "readProduct", "(I)V"⟩, 8) := ⟨⟨by decide +kernel, by decide +kernel⟩, List.mem_of_getElem? (i := 36) (by decide +kernel), List.mem_of_getElem? (i := 516) (by decide +kernel), List.mem_of_getElem? (i := 517) (by decide +kernel)⟩
theorem lw_p23 : lw_okq (⟨"MarkShelter$BookReader", "readValue", "(I)V"⟩, 8) := ⟨⟨by decide +kernel, by decide +kernel⟩, List.mem_of_getElem? (i := 36) (by decide +kernel), List.mem_of_getElem? (i := 520) (by decide +kernel), List.mem_of_getElem? (i := 521) (by decide +kernel)⟩
theorem lw_p24 : lw_okq (⟨"MarkShelter$BookReader", "readChoice", "(I)V"⟩, 8) := ⟨⟨by decide +kernel, by decide +kernel⟩, List.mem_of_getElem? (i := 36) (by decide +kernel), List.mem_of_getElem? (i := 530) (by decide +kernel), List.mem_of_getElem? (i := 531) (by decide +kernel)⟩
theorem lw_p25 : lw_okq (⟨"MarkShelter$Shelter", "letCome", "()V"⟩, 6) := ⟨⟨by decide +kernel, by decide +kernel⟩, List.mem_of_getElem? (i := 194) (by decide +kernel), List.mem_of_getElem? (i := 582) (by decide +kernel), List.mem_of_getElem? (i := 583) (by decide +kernel)⟩
theorem lw_p26 : lw_okq (⟨"MarkShelter$Shelter", "strayOf", "(LMarkShelter$Order;)LMarkShelter$Stray;"⟩, 6) := ⟨⟨by decide +kernel, by decide +kernel⟩, List.mem_of_getElem? (i := 194) (by decide +kernel), List.mem_of_getElem? (i := 658) (by decide +kernel), List.mem_of_getElem? (i := 659) (by decide +kernel)⟩
theorem lw_p27 : lw_okq (⟨"MarkShelter$Shelter", "houseFor", "(LMarkShelter$Stray;)I"⟩, 6) := ⟨⟨by decide +kernel, by decide +kernel⟩, List.mem_of_getElem? (i := 194) (by decide +kernel), List.mem_of_getElem? (i := 716) (by decide +kernel), List.mem_of_getElem? (i := 717) (by decide +kernel)⟩
theorem lw_p28 : lw_okq (⟨"MarkShelter$Shelter", "isHouseOfOneQuote", "(I)Z"⟩, 6) := ⟨⟨by decide +kernel, by decide +kernel⟩, List.mem_of_getElem? (i := 194) (by decide +kernel), List.mem_of_getElem? (i := 720) (by decide +kernel), List.mem_of_getElem? (i := 721) (by decide +kernel)⟩
theorem lw_p29 : lw_okq (⟨"MarkShelter$Shelter", "adopt", "(LMarkShelter$Stray;)V"⟩, 6) := ⟨⟨by decide +kernel, by decide +kernel⟩, List.mem_of_getElem? (i := 194) (by decide +kernel), List.mem_of_getElem? (i := 724) (by decide +kernel), List.mem_of_getElem? (i := 725) (by decide +kernel)⟩
theorem lw_p30 : lw_okq (⟨"MarkShelter$Shelter", "growHungryAndWild", "()V"⟩, 6) := ⟨⟨by decide +kernel, by decide +kernel⟩, List.mem_of_getElem? (i := 194) (by decide +kernel), List.mem_of_getElem? (i := 732) (by decide +kernel), List.mem_of_getElem? (i := 733) (by decide +kernel)⟩
theorem lw_p31 : lw_okq (⟨"MarkShelter$Shelter", "letRunAway", "()V"⟩, 6) := ⟨⟨by decide +kernel, by decide +kernel⟩, List.mem_of_getElem? (i := 194) (by decide +kernel), List.mem_of_getElem? (i := 740) (by decide +kernel), List.mem_of_getElem? (i := 741) (by decide +kernel)⟩
def lw_privs_2 : List (MethodName × Nat) := [(⟨"MarkShelter$BookReader", "readKnownName", "()I"⟩, 8), (⟨"MarkShelter$BookReader", "readTest", "(I)V"⟩, 8), (⟨"MarkShelter$BookReader", "readBoth", "(I)V"⟩, 8), (⟨"MarkShelter$BookReader", "readSingle", "(I)V"⟩, 8), (⟨"MarkShelter$BookReader", "goDeeper", "(I)Z"⟩, 8), (⟨"MarkShelter$BookReader", "readSum", "(I)V"⟩, 8), (⟨"MarkShelter$BookReader", "readProduct", "(I)V"⟩, 8), (⟨"MarkShelter$BookReader", "readValue", "(I)V"⟩, 8), (⟨"MarkShelter$BookReader", "readChoice", "(I)V"⟩, 8), (⟨"MarkShelter$Shelter", "letCome", "()V"⟩, 6), (⟨"MarkShelter$Shelter", "strayOf", "(LMarkShelter$Order;)LMarkShelter$Stray;"⟩, 6), (⟨"MarkShelter$Shelter", "houseFor", "(LMarkShelter$Stray;)I"⟩, 6), (⟨"MarkShelter$Shelter", "isHouseOfOneQuote", "(I)Z"⟩, 6), (⟨"MarkShelter$Shelter", "adopt", "(LMarkShelter$Stray;)V"⟩, 6), (⟨"MarkShelter$Shelter", "growHungryAndWild", "()V"⟩, 6), (⟨"MarkShelter$Shelter", "letRunAway", "()V"⟩, 6)]
theorem lw_r2 : ∀ q ∈ lw_privs_2, lw_okq q := List.forall_mem_cons.mpr ⟨lw_p16, List.forall_mem_cons.mpr ⟨lw_p17, List.forall_mem_cons.mpr ⟨lw_p18, List.forall_mem_cons.mpr ⟨lw_p19, List.forall_mem_cons.mpr ⟨lw_p20, List.forall_mem_cons.mpr ⟨lw_p21, List.forall_mem_cons.mpr ⟨lw_p22, List.forall_mem_cons.mpr ⟨lw_p23, List.forall_mem_cons.mpr ⟨lw_p24, List.forall_mem_cons.mpr ⟨lw_p25, List.forall_mem_cons.mpr ⟨lw_p26, List.forall_mem_cons.mpr ⟨lw_p27, List.forall_mem_cons.mpr ⟨lw_p28, List.forall_mem_cons.mpr ⟨lw_p29, List.forall_mem_cons.mpr ⟨lw_p30, List.forall_mem_cons.mpr ⟨lw_p31, fun _ h => absurd h List.not_mem_nil⟩⟩⟩⟩⟩⟩⟩⟩⟩⟩⟩⟩⟩⟩⟩⟩
theorem lw_p32 : lw_okq (⟨"MarkShelter$Shelter", "wantsAway", "(LMarkShelter$Stray;)Z"⟩, 6) := ⟨⟨by decide +kernel, by decide +kernel⟩, List.mem_of_getElem? (i := 194) (by decide +kernel), List.mem_of_getElem? (i := 744) (by decide +kernel), List.mem_of_getElem? (i := 745) (by decide +kernel)⟩
theorem lw_p33 : lw_okq (⟨"MarkShelter", "digestOfStray", "(JLMarkShelter$Stray;)J"⟩, 7) := ⟨⟨by decide +kernel, by decide +kernel⟩, List.mem_of_getElem? (i := 28) (by decide +kernel), List.mem_of_getElem? (i := 762) (by decide +kernel), List.mem_of_getElem? (i := 763) (by decide +kernel)⟩
theorem lw_p34 : lw_okq (⟨"java/lang/Throwable", "fillInStackTrace", "(I)Ljava/lang/Throwable;"⟩, 6) := ⟨⟨by decide +kernel, by decide +kernel⟩, List.mem_of_getElem? (i := 815) (by decide +kernel), List.mem_of_getElem? (i := 813) (by decide +kernel), List.mem_of_getElem? (i := 814) (by decide +kernel)⟩
theorem lw_p35 : lw_okq (⟨"MarkShelter", "append", "(I)V"⟩, 7) := ⟨⟨by decide +kernel, by decide +kernel⟩, List.mem_of_getElem? (i := 28) (by decide +kernel), List.mem_of_getElem? (i := 844) (by decide +kernel), List.mem_of_getElem? (i := 845) (by decide +kernel)⟩
theorem lw_p36 : lw_okq (⟨"MarkShelter", "toldStray", "(I)LMarkShelter$Stray;"⟩, 7) := ⟨⟨by decide +kernel, by decide +kernel⟩, List.mem_of_getElem? (i := 28) (by decide +kernel), List.mem_of_getElem? (i := 880) (by decide +kernel), List.mem_of_getElem? (i := 881) (by decide +kernel)⟩
theorem lw_p37 : lw_okq (⟨"MarkShelter", "presentStray", "(I)LMarkShelter$Stray;"⟩, 7) := ⟨⟨by decide +kernel, by decide +kernel⟩, List.mem_of_getElem? (i := 28) (by decide +kernel), List.mem_of_getElem? (i := 935) (by decide +kernel), List.mem_of_getElem? (i := 936) (by decide +kernel)⟩
theorem lw_p38 : lw_okq (⟨"MarkShelter", "doByHand", "(LMarkShelter$Sign;I)LMarkShelter$Stray;"⟩, 7) := ⟨⟨by decide +kernel, by decide +kernel⟩, List.mem_of_getElem? (i := 28) (by decide +kernel), List.mem_of_getElem? (i := 991) (by decide +kernel), List.mem_of_getElem? (i := 992) (by decide +kernel)⟩
theorem lw_p39 : lw_okq (⟨"MarkShelter", "countBehind", "(II)I"⟩, 7) := ⟨⟨by decide +kernel, by decide +kernel⟩, List.mem_of_getElem? (i := 28) (by decide +kernel), List.mem_of_getElem? (i := 1054) (by decide +kernel), List.mem_of_getElem? (i := 1055) (by decide +kernel)⟩
theorem lw_p40 : lw_okq (⟨"MarkShelter", "daysUntil", "(II)I"⟩, 7) := ⟨⟨by decide +kernel, by decide +kernel⟩, List.mem_of_getElem? (i := 28) (by decide +kernel), List.mem_of_getElem? (i := 1072) (by decide +kernel), List.mem_of_getElem? (i := 1073) (by decide +kernel)⟩
theorem lw_p41 : lw_okq (⟨"MarkShelterModel$State", "come", "()V"⟩, 8) := ⟨⟨by decide +kernel, by decide +kernel⟩, List.mem_of_getElem? (i := 1162) (by decide +kernel), List.mem_of_getElem? (i := 1204) (by decide +kernel), List.mem_of_getElem? (i := 1205) (by decide +kernel)⟩
theorem lw_p42 : lw_okq (⟨"MarkShelterModel", "no", "(I)I"⟩, 16) := ⟨⟨by decide +kernel, by decide +kernel⟩, List.mem_of_getElem? (i := 1083) (by decide +kernel), List.mem_of_getElem? (i := 1269) (by decide +kernel), List.mem_of_getElem? (i := 1270) (by decide +kernel)⟩
theorem lw_p43 : lw_okq (⟨"MarkShelterModel", "read", "()I"⟩, 16) := ⟨⟨by decide +kernel, by decide +kernel⟩, List.mem_of_getElem? (i := 1083) (by decide +kernel), List.mem_of_getElem? (i := 1284) (by decide +kernel), List.mem_of_getElem? (i := 1285) (by decide +kernel)⟩
theorem lw_p44 : lw_okq (⟨"MarkShelterModel", "cut", "()V"⟩, 16) := ⟨⟨by decide +kernel, by decide +kernel⟩, List.mem_of_getElem? (i := 1083) (by decide +kernel), List.mem_of_getElem? (i := 1288) (by decide +kernel), List.mem_of_getElem? (i := 1289) (by decide +kernel)⟩
theorem lw_p45 : lw_okq (⟨"MarkShelterModel", "byteOf", "(I)I"⟩, 16) := ⟨⟨by decide +kernel, by decide +kernel⟩, List.mem_of_getElem? (i := 1083) (by decide +kernel), List.mem_of_getElem? (i := 1292) (by decide +kernel), List.mem_of_getElem? (i := 1293) (by decide +kernel)⟩
theorem lw_p46 : lw_okq (⟨"MarkShelterModel", "kindAt", "(II)I"⟩, 16) := ⟨⟨by decide +kernel, by decide +kernel⟩, List.mem_of_getElem? (i := 1083) (by decide +kernel), List.mem_of_getElem? (i := 1296) (by decide +kernel), List.mem_of_getElem? (i := 1297) (by decide +kernel)⟩
theorem lw_p47 : lw_okq (⟨"MarkShelterModel", "word", "(II)I"⟩, 16) := ⟨⟨by decide +kernel, by decide +kernel⟩, List.mem_of_getElem? (i := 1083) (by decide +kernel), List.mem_of_getElem? (i := 1306) (by decide +kernel), List.mem_of_getElem? (i := 1307) (by decide +kernel)⟩
def lw_privs_3 : List (MethodName × Nat) := [(⟨"MarkShelter$Shelter", "wantsAway", "(LMarkShelter$Stray;)Z"⟩, 6), (⟨"MarkShelter", "digestOfStray", "(JLMarkShelter$Stray;)J"⟩, 7), (⟨"java/lang/Throwable", "fillInStackTrace", "(I)Ljava/lang/Throwable;"⟩, 6), (⟨"MarkShelter", "append", "(I)V"⟩, 7), (⟨"MarkShelter", "toldStray", "(I)LMarkShelter$Stray;"⟩, 7), (⟨"MarkShelter", "presentStray", "(I)LMarkShelter$Stray;"⟩, 7), (⟨"MarkShelter", "doByHand", "(LMarkShelter$Sign;I)LMarkShelter$Stray;"⟩, 7), (⟨"MarkShelter", "countBehind", "(II)I"⟩, 7), (⟨"MarkShelter", "daysUntil", "(II)I"⟩, 7), (⟨"MarkShelterModel$State", "come", "()V"⟩, 8), (⟨"MarkShelterModel", "no", "(I)I"⟩, 16), (⟨"MarkShelterModel", "read", "()I"⟩, 16), (⟨"MarkShelterModel", "cut", "()V"⟩, 16), (⟨"MarkShelterModel", "byteOf", "(I)I"⟩, 16), (⟨"MarkShelterModel", "kindAt", "(II)I"⟩, 16), (⟨"MarkShelterModel", "word", "(II)I"⟩, 16)]
theorem lw_r3 : ∀ q ∈ lw_privs_3, lw_okq q := List.forall_mem_cons.mpr ⟨lw_p32, List.forall_mem_cons.mpr ⟨lw_p33, List.forall_mem_cons.mpr ⟨lw_p34, List.forall_mem_cons.mpr ⟨lw_p35, List.forall_mem_cons.mpr ⟨lw_p36, List.forall_mem_cons.mpr ⟨lw_p37, List.forall_mem_cons.mpr ⟨lw_p38, List.forall_mem_cons.mpr ⟨lw_p39, List.forall_mem_cons.mpr ⟨lw_p40, List.forall_mem_cons.mpr ⟨lw_p41, List.forall_mem_cons.mpr ⟨lw_p42, List.forall_mem_cons.mpr ⟨lw_p43, List.forall_mem_cons.mpr ⟨lw_p44, List.forall_mem_cons.mpr ⟨lw_p45, List.forall_mem_cons.mpr ⟨lw_p46, List.forall_mem_cons.mpr ⟨lw_p47, fun _ h => absurd h List.not_mem_nil⟩⟩⟩⟩⟩⟩⟩⟩⟩⟩⟩⟩⟩⟩⟩⟩
theorem lw_p48 : lw_okq (⟨"MarkShelterModel", "isBook", "()Z"⟩, 16) := ⟨⟨by decide +kernel, by decide +kernel⟩, List.mem_of_getElem? (i := 1083) (by decide +kernel), List.mem_of_getElem? (i := 1370) (by decide +kernel), List.mem_of_getElem? (i := 1371) (by decide +kernel)⟩
theorem lw_p49 : lw_okq (⟨"MarkShelterModel", "eat", "(I)Z"⟩, 16) := ⟨⟨by decide +kernel, by decide +kernel⟩, List.mem_of_getElem? (i := 1083) (by decide +kernel), List.mem_of_getElem? (i := 1374) (by decide +kernel), List.mem_of_getElem? (i := 1375) (by decide +kernel)⟩
theorem lw_p50 : lw_okq (⟨"MarkShelterModel", "is", "(I)Z"⟩, 16) := ⟨⟨by decide +kernel, by decide +kernel⟩, List.mem_of_getElem? (i := 1083) (by decide +kernel), List.mem_of_getElem? (i := 1378) (by decide +kernel), List.mem_of_getElem? (i := 1379) (by decide +kernel)⟩
theorem lw_p51 : lw_okq (⟨"MarkShelterModel", "eatAs", "(II)Z"⟩, 16) := ⟨⟨by decide +kernel, by decide +kernel⟩, List.mem_of_getElem? (i := 1083) (by decide +kernel), List.mem_of_getElem? (i := 1382) (by decide +kernel), List.mem_of_getElem? (i := 1383) (by decide +kernel)⟩
theorem lw_p52 : lw_okq (⟨"MarkShelterModel", "eatSign", "(C)Z"⟩, 16) := ⟨⟨by decide +kernel, by decide +kernel⟩, List.mem_of_getElem? (i := 1083) (by decide +kernel), List.mem_of_getElem? (i := 1386) (by decide +kernel), List.mem_of_getElem? (i := 1387) (by decide +kernel)⟩
theorem lw_p53 : lw_okq (⟨"MarkShelterModel", "isLine", "()Z"⟩, 16) := ⟨⟨by decide +kernel, by decide +kernel⟩, List.mem_of_getElem? (i := 1083) (by decide +kernel), List.mem_of_getElem? (i := 1390) (by decide +kernel), List.mem_of_getElem? (i := 1391) (by decide +kernel)⟩
theorem lw_p54 : lw_okq (⟨"MarkShelterModel", "isOrder", "()Z"⟩, 16) := ⟨⟨by decide +kernel, by decide +kernel⟩, List.mem_of_getElem? (i := 1083) (by decide +kernel), List.mem_of_getElem? (i := 1394) (by decide +kernel), List.mem_of_getElem? (i := 1395) (by decide +kernel)⟩
theorem lw_p55 : lw_okq (⟨"MarkShelterModel", "isTest", "()Z"⟩, 16) := ⟨⟨by decide +kernel, by decide +kernel⟩, List.mem_of_getElem? (i := 1083) (by decide +kernel), List.mem_of_getElem? (i := 1399) (by decide +kernel), List.mem_of_getElem? (i := 1400) (by decide +kernel)⟩
theorem lw_p56 : lw_okq (⟨"MarkShelterModel", "isBoth", "()Z"⟩, 16) := ⟨⟨by decide +kernel, by decide +kernel⟩, List.mem_of_getElem? (i := 1083) (by decide +kernel), List.mem_of_getElem? (i := 1403) (by decide +kernel), List.mem_of_getElem? (i := 1404) (by decide +kernel)⟩
theorem lw_p57 : lw_okq (⟨"MarkShelterModel", "isSingle", "()Z"⟩, 16) := ⟨⟨by decide +kernel, by decide +kernel⟩, List.mem_of_getElem? (i := 1083) (by decide +kernel), List.mem_of_getElem? (i := 1407) (by decide +kernel), List.mem_of_getElem? (i := 1408) (by decide +kernel)⟩
theorem lw_p58 : lw_okq (⟨"MarkShelterModel", "isDeeper", "()Z"⟩, 16) := ⟨⟨by decide +kernel, by decide +kernel⟩, List.mem_of_getElem? (i := 1083) (by decide +kernel), List.mem_of_getElem? (i := 1411) (by decide +kernel), List.mem_of_getElem? (i := 1412) (by decide +kernel)⟩
theorem lw_p59 : lw_okq (⟨"MarkShelterModel", "put", "(I)V"⟩, 16) := ⟨⟨by decide +kernel, by decide +kernel⟩, List.mem_of_getElem? (i := 1083) (by decide +kernel), List.mem_of_getElem? (i := 1415) (by decide +kernel), List.mem_of_getElem? (i := 1416) (by decide +kernel)⟩
theorem lw_p60 : lw_okq (⟨"MarkShelterModel", "isSign", "(C)Z"⟩, 16) := ⟨⟨by decide +kernel, by decide +kernel⟩, List.mem_of_getElem? (i := 1083) (by decide +kernel), List.mem_of_getElem? (i := 1419) (by decide +kernel), List.mem_of_getElem? (i := 1420) (by decide +kernel)⟩
theorem lw_p61 : lw_okq (⟨"MarkShelterModel", "isNamed", "(I)Z"⟩, 16) := ⟨⟨by decide +kernel, by decide +kernel⟩, List.mem_of_getElem? (i := 1083) (by decide +kernel), List.mem_of_getElem? (i := 1423) (by decide +kernel), List.mem_of_getElem? (i := 1424) (by decide +kernel)⟩
theorem lw_p62 : lw_okq (⟨"MarkShelterModel", "isName", "(I)Z"⟩, 16) := ⟨⟨by decide +kernel, by decide +kernel⟩, List.mem_of_getElem? (i := 1083) (by decide +kernel), List.mem_of_getElem? (i := 1427) (by decide +kernel), List.mem_of_getElem? (i := 1428) (by decide +kernel)⟩
theorem lw_p63 : lw_okq (⟨"MarkShelterModel", "isSum", "()Z"⟩, 16) := ⟨⟨by decide +kernel, by decide +kernel⟩, List.mem_of_getElem? (i := 1083) (by decide +kernel), List.mem_of_getElem? (i := 1431) (by decide +kernel), List.mem_of_getElem? (i := 1432) (by decide +kernel)⟩
def lw_privs_4 : List (MethodName × Nat) := [(⟨"MarkShelterModel", "isBook", "()Z"⟩, 16), (⟨"MarkShelterModel", "eat", "(I)Z"⟩, 16), (⟨"MarkShelterModel", "is", "(I)Z"⟩, 16), (⟨"MarkShelterModel", "eatAs", "(II)Z"⟩, 16), (⟨"MarkShelterModel", "eatSign", "(C)Z"⟩, 16), (⟨"MarkShelterModel", "isLine", "()Z"⟩, 16), (⟨"MarkShelterModel", "isOrder", "()Z"⟩, 16), (⟨"MarkShelterModel", "isTest", "()Z"⟩, 16), (⟨"MarkShelterModel", "isBoth", "()Z"⟩, 16), (⟨"MarkShelterModel", "isSingle", "()Z"⟩, 16), (⟨"MarkShelterModel", "isDeeper", "()Z"⟩, 16), (⟨"MarkShelterModel", "put", "(I)V"⟩, 16), (⟨"MarkShelterModel", "isSign", "(C)Z"⟩, 16), (⟨"MarkShelterModel", "isNamed", "(I)Z"⟩, 16), (⟨"MarkShelterModel", "isName", "(I)Z"⟩, 16), (⟨"MarkShelterModel", "isSum", "()Z"⟩, 16)]
theorem lw_r4 : ∀ q ∈ lw_privs_4, lw_okq q := List.forall_mem_cons.mpr ⟨lw_p48, List.forall_mem_cons.mpr ⟨lw_p49, List.forall_mem_cons.mpr ⟨lw_p50, List.forall_mem_cons.mpr ⟨lw_p51, List.forall_mem_cons.mpr ⟨lw_p52, List.forall_mem_cons.mpr ⟨lw_p53, List.forall_mem_cons.mpr ⟨lw_p54, List.forall_mem_cons.mpr ⟨lw_p55, List.forall_mem_cons.mpr ⟨lw_p56, List.forall_mem_cons.mpr ⟨lw_p57, List.forall_mem_cons.mpr ⟨lw_p58, List.forall_mem_cons.mpr ⟨lw_p59, List.forall_mem_cons.mpr ⟨lw_p60, List.forall_mem_cons.mpr ⟨lw_p61, List.forall_mem_cons.mpr ⟨lw_p62, List.forall_mem_cons.mpr ⟨lw_p63, fun _ h => absurd h List.not_mem_nil⟩⟩⟩⟩⟩⟩⟩⟩⟩⟩⟩⟩⟩⟩⟩⟩
theorem lw_p64 : lw_okq (⟨"MarkShelterModel", "isProduct", "()Z"⟩, 16) := ⟨⟨by decide +kernel, by decide +kernel⟩, List.mem_of_getElem? (i := 1083) (by decide +kernel), List.mem_of_getElem? (i := 1435) (by decide +kernel), List.mem_of_getElem? (i := 1436) (by decide +kernel)⟩
theorem lw_p65 : lw_okq (⟨"MarkShelterModel", "isValue", "()Z"⟩, 16) := ⟨⟨by decide +kernel, by decide +kernel⟩, List.mem_of_getElem? (i := 1083) (by decide +kernel), List.mem_of_getElem? (i := 1439) (by decide +kernel), List.mem_of_getElem? (i := 1440) (by decide +kernel)⟩
theorem lw_p66 : lw_okq (⟨"MarkShelterModel", "numberAt", "(I)I"⟩, 16) := ⟨⟨by decide +kernel, by decide +kernel⟩, List.mem_of_getElem? (i := 1083) (by decide +kernel), List.mem_of_getElem? (i := 1443) (by decide +kernel), List.mem_of_getElem? (i := 1444) (by decide +kernel)⟩
theorem lw_p67 : lw_okq (⟨"MarkShelterModel", "isInside", "(IZ)Z"⟩, 16) := ⟨⟨by decide +kernel, by decide +kernel⟩, List.mem_of_getElem? (i := 1083) (by decide +kernel), List.mem_of_getElem? (i := 1447) (by decide +kernel), List.mem_of_getElem? (i := 1448) (by decide +kernel)⟩
theorem lw_p68 : lw_okq (⟨"MarkShelterModel", "errorOf", "(I)I"⟩, 16) := ⟨⟨by decide +kernel, by decide +kernel⟩, List.mem_of_getElem? (i := 1083) (by decide +kernel), List.mem_of_getElem? (i := 1451) (by decide +kernel), List.mem_of_getElem? (i := 1452) (by decide +kernel)⟩
theorem lw_p69 : lw_okq (⟨"MarkShelterModel", "newStray", "(I)I"⟩, 16) := ⟨⟨by decide +kernel, by decide +kernel⟩, List.mem_of_getElem? (i := 1083) (by decide +kernel), List.mem_of_getElem? (i := 1455) (by decide +kernel), List.mem_of_getElem? (i := 1456) (by decide +kernel)⟩
theorem lw_p70 : lw_okq (⟨"MarkShelterModel", "isNew", "(III)I"⟩, 16) := ⟨⟨by decide +kernel, by decide +kernel⟩, List.mem_of_getElem? (i := 1083) (by decide +kernel), List.mem_of_getElem? (i := 1459) (by decide +kernel), List.mem_of_getElem? (i := 1460) (by decide +kernel)⟩
theorem lw_p71 : lw_okq (⟨"MarkShelterModel", "told", "(II)I"⟩, 16) := ⟨⟨by decide +kernel, by decide +kernel⟩, List.mem_of_getElem? (i := 1083) (by decide +kernel), List.mem_of_getElem? (i := 1463) (by decide +kernel), List.mem_of_getElem? (i := 1464) (by decide +kernel)⟩
theorem lw_p72 : lw_okq (⟨"MarkShelterModel", "isSame", "(II)Z"⟩, 16) := ⟨⟨by decide +kernel, by decide +kernel⟩, List.mem_of_getElem? (i := 1083) (by decide +kernel), List.mem_of_getElem? (i := 1467) (by decide +kernel), List.mem_of_getElem? (i := 1468) (by decide +kernel)⟩
theorem lw_p73 : lw_okq (⟨"MarkShelterModel", "newOrder", "(I)I"⟩, 16) := ⟨⟨by decide +kernel, by decide +kernel⟩, List.mem_of_getElem? (i := 1083) (by decide +kernel), List.mem_of_getElem? (i := 1471) (by decide +kernel), List.mem_of_getElem? (i := 1472) (by decide +kernel)⟩
theorem lw_p74 : lw_okq (⟨"MarkShelterModel", "ofOrder", "(I)I"⟩, 16) := ⟨⟨by decide +kernel, by decide +kernel⟩, List.mem_of_getElem? (i := 1083) (by decide +kernel), List.mem_of_getElem? (i := 1475) (by decide +kernel), List.mem_of_getElem? (i := 1476) (by decide +kernel)⟩
theorem lw_p75 : lw_okq (⟨"MarkShelterModel", "look", "(II)I"⟩, 16) := ⟨⟨by decide +kernel, by decide +kernel⟩, List.mem_of_getElem? (i := 1083) (by decide +kernel), List.mem_of_getElem? (i := 1479) (by decide +kernel), List.mem_of_getElem? (i := 1480) (by decide +kernel)⟩
theorem lw_p76 : lw_okq (⟨"MarkShelterModel", "inRange", "(III)I"⟩, 16) := ⟨⟨by decide +kernel, by decide +kernel⟩, List.mem_of_getElem? (i := 1083) (by decide +kernel), List.mem_of_getElem? (i := 1483) (by decide +kernel), List.mem_of_getElem? (i := 1484) (by decide +kernel)⟩
theorem lw_p77 : lw_okq (⟨"MarkShelterModel", "ok", "(I)I"⟩, 16) := ⟨⟨by decide +kernel, by decide +kernel⟩, List.mem_of_getElem? (i := 1083) (by decide +kernel), List.mem_of_getElem? (i := 1491) (by decide +kernel), List.mem_of_getElem? (i := 1492) (by decide +kernel)⟩
theorem lw_p78 : lw_okq (⟨"MarkShelterModel", "isKnown", "(I)Z"⟩, 16) := ⟨⟨by decide +kernel, by decide +kernel⟩, List.mem_of_getElem? (i := 1083) (by decide +kernel), List.mem_of_getElem? (i := 1543) (by decide +kernel), List.mem_of_getElem? (i := 1544) (by decide +kernel)⟩
theorem lw_p79 : lw_okq (⟨"MarkShelterModel", "isStray", "(I)Z"⟩, 16) := ⟨⟨by decide +kernel, by decide +kernel⟩, List.mem_of_getElem? (i := 1083) (by decide +kernel), List.mem_of_getElem? (i := 1547) (by decide +kernel), List.mem_of_getElem? (i := 1548) (by decide +kernel)⟩
def lw_privs_5 : List (MethodName × Nat) := [(⟨"MarkShelterModel", "isProduct", "()Z"⟩, 16), (⟨"MarkShelterModel", "isValue", "()Z"⟩, 16), (⟨"MarkShelterModel", "numberAt", "(I)I"⟩, 16), (⟨"MarkShelterModel", "isInside", "(IZ)Z"⟩, 16), (⟨"MarkShelterModel", "errorOf", "(I)I"⟩, 16), (⟨"MarkShelterModel", "newStray", "(I)I"⟩, 16), (⟨"MarkShelterModel", "isNew", "(III)I"⟩, 16), (⟨"MarkShelterModel", "told", "(II)I"⟩, 16), (⟨"MarkShelterModel", "isSame", "(II)Z"⟩, 16), (⟨"MarkShelterModel", "newOrder", "(I)I"⟩, 16), (⟨"MarkShelterModel", "ofOrder", "(I)I"⟩, 16), (⟨"MarkShelterModel", "look", "(II)I"⟩, 16), (⟨"MarkShelterModel", "inRange", "(III)I"⟩, 16), (⟨"MarkShelterModel", "ok", "(I)I"⟩, 16), (⟨"MarkShelterModel", "isKnown", "(I)Z"⟩, 16), (⟨"MarkShelterModel", "isStray", "(I)Z"⟩, 16)]
theorem lw_r5 : ∀ q ∈ lw_privs_5, lw_okq q := List.forall_mem_cons.mpr ⟨lw_p64, List.forall_mem_cons.mpr ⟨lw_p65, List.forall_mem_cons.mpr ⟨lw_p66, List.forall_mem_cons.mpr ⟨lw_p67, List.forall_mem_cons.mpr ⟨lw_p68, List.forall_mem_cons.mpr ⟨lw_p69, List.forall_mem_cons.mpr ⟨lw_p70, List.forall_mem_cons.mpr ⟨lw_p71, List.forall_mem_cons.mpr ⟨lw_p72, List.forall_mem_cons.mpr ⟨lw_p73, List.forall_mem_cons.mpr ⟨lw_p74, List.forall_mem_cons.mpr ⟨lw_p75, List.forall_mem_cons.mpr ⟨lw_p76, List.forall_mem_cons.mpr ⟨lw_p77, List.forall_mem_cons.mpr ⟨lw_p78, List.forall_mem_cons.mpr ⟨lw_p79, fun _ h => absurd h List.not_mem_nil⟩⟩⟩⟩⟩⟩⟩⟩⟩⟩⟩⟩⟩⟩⟩⟩
theorem lw_p80 : lw_okq (⟨"MarkShelterModel", "ofOneHere", "(I[I)I"⟩, 16) := ⟨⟨by decide +kernel, by decide +kernel⟩, List.mem_of_getElem? (i := 1083) (by decide +kernel), List.mem_of_getElem? (i := 1575) (by decide +kernel), List.mem_of_getElem? (i := 1576) (by decide +kernel)⟩
theorem lw_p81 : lw_okq (⟨"MarkShelterModel$State", "isFit", "(I)Z"⟩, 8) := ⟨⟨by decide +kernel, by decide +kernel⟩, List.mem_of_getElem? (i := 1162) (by decide +kernel), List.mem_of_getElem? (i := 1611) (by decide +kernel), List.mem_of_getElem? (i := 1612) (by decide +kernel)⟩
theorem lw_p82 : lw_okq (⟨"MarkShelterModel", "byHand", "(II)I"⟩, 16) := ⟨⟨by decide +kernel, by decide +kernel⟩, List.mem_of_getElem? (i := 1083) (by decide +kernel), List.mem_of_getElem? (i := 1633) (by decide +kernel), List.mem_of_getElem? (i := 1634) (by decide +kernel)⟩
theorem lw_p83 : lw_okq (⟨"MarkShelterModel$State", "houseFor", "(I)I"⟩, 8) := ⟨⟨by decide +kernel, by decide +kernel⟩, List.mem_of_getElem? (i := 1162) (by decide +kernel), List.mem_of_getElem? (i := 1641) (by decide +kernel), List.mem_of_getElem? (i := 1642) (by decide +kernel)⟩
theorem lw_p84 : lw_okq (⟨"MarkShelterModel$State", "adopt", "(I)V"⟩, 8) := ⟨⟨by decide +kernel, by decide +kernel⟩, List.mem_of_getElem? (i := 1162) (by decide +kernel), List.mem_of_getElem? (i := 1653) (by decide +kernel), List.mem_of_getElem? (i := 1654) (by decide +kernel)⟩
theorem lw_p85 : lw_okq (⟨"MarkShelterModel", "areDays", "(I)Z"⟩, 16) := ⟨⟨by decide +kernel, by decide +kernel⟩, List.mem_of_getElem? (i := 1083) (by decide +kernel), List.mem_of_getElem? (i := 1681) (by decide +kernel), List.mem_of_getElem? (i := 1682) (by decide +kernel)⟩
theorem lw_p86 : lw_okq (⟨"MarkShelterModel$State", "orders", "()V"⟩, 8) := ⟨⟨by decide +kernel, by decide +kernel⟩, List.mem_of_getElem? (i := 1162) (by decide +kernel), List.mem_of_getElem? (i := 1689) (by decide +kernel), List.mem_of_getElem? (i := 1690) (by decide +kernel)⟩
theorem lw_p87 : lw_okq (⟨"MarkShelterModel$State", "holds", "(I)Z"⟩, 8) := ⟨⟨by decide +kernel, by decide +kernel⟩, List.mem_of_getElem? (i := 1162) (by decide +kernel), List.mem_of_getElem? (i := 1693) (by decide +kernel), List.mem_of_getElem? (i := 1694) (by decide +kernel)⟩
theorem lw_p88 : lw_okq (⟨"MarkShelterModel$State", "told", "(II)I"⟩, 8) := ⟨⟨by decide +kernel, by decide +kernel⟩, List.mem_of_getElem? (i := 1162) (by decide +kernel), List.mem_of_getElem? (i := 1697) (by decide +kernel), List.mem_of_getElem? (i := 1698) (by decide +kernel)⟩
theorem lw_p89 : lw_okq (⟨"MarkShelterModel$State", "wear", "(I)V"⟩, 8) := ⟨⟨by decide +kernel, by decide +kernel⟩, List.mem_of_getElem? (i := 1162) (by decide +kernel), List.mem_of_getElem? (i := 1709) (by decide +kernel), List.mem_of_getElem? (i := 1710) (by decide +kernel)⟩
theorem lw_p90 : lw_okq (⟨"MarkShelterModel$State", "run", "(I)V"⟩, 8) := ⟨⟨by decide +kernel, by decide +kernel⟩, List.mem_of_getElem? (i := 1162) (by decide +kernel), List.mem_of_getElem? (i := 1713) (by decide +kernel), List.mem_of_getElem? (i := 1714) (by decide +kernel)⟩
theorem lw_p91 : lw_okq (⟨"MarkShelterModel", "ahead", "()LMarkShelterModel$State;"⟩, 16) := ⟨⟨by decide +kernel, by decide +kernel⟩, List.mem_of_getElem? (i := 1083) (by decide +kernel), List.mem_of_getElem? (i := 1721) (by decide +kernel), List.mem_of_getElem? (i := 1722) (by decide +kernel)⟩
theorem lw_p92 : lw_okq (⟨"MarkShelterModel$State", "copy", "([I[I)V"⟩, 8) := ⟨⟨by decide +kernel, by decide +kernel⟩, List.mem_of_getElem? (i := 1162) (by decide +kernel), List.mem_of_getElem? (i := 1729) (by decide +kernel), List.mem_of_getElem? (i := 1730) (by decide +kernel)⟩
theorem lw_p93 : lw_okq (⟨"MarkShelterModel", "toFeed", "()I"⟩, 16) := ⟨⟨by decide +kernel, by decide +kernel⟩, List.mem_of_getElem? (i := 1083) (by decide +kernel), List.mem_of_getElem? (i := 1757) (by decide +kernel), List.mem_of_getElem? (i := 1758) (by decide +kernel)⟩
def lw_privs_6 : List (MethodName × Nat) := [(⟨"MarkShelterModel", "ofOneHere", "(I[I)I"⟩, 16), (⟨"MarkShelterModel$State", "isFit", "(I)Z"⟩, 8), (⟨"MarkShelterModel", "byHand", "(II)I"⟩, 16), (⟨"MarkShelterModel$State", "houseFor", "(I)I"⟩, 8), (⟨"MarkShelterModel$State", "adopt", "(I)V"⟩, 8), (⟨"MarkShelterModel", "areDays", "(I)Z"⟩, 16), (⟨"MarkShelterModel$State", "orders", "()V"⟩, 8), (⟨"MarkShelterModel$State", "holds", "(I)Z"⟩, 8), (⟨"MarkShelterModel$State", "told", "(II)I"⟩, 8), (⟨"MarkShelterModel$State", "wear", "(I)V"⟩, 8), (⟨"MarkShelterModel$State", "run", "(I)V"⟩, 8), (⟨"MarkShelterModel", "ahead", "()LMarkShelterModel$State;"⟩, 16), (⟨"MarkShelterModel$State", "copy", "([I[I)V"⟩, 8), (⟨"MarkShelterModel", "toFeed", "()I"⟩, 16)]
theorem lw_r6 : ∀ q ∈ lw_privs_6, lw_okq q := List.forall_mem_cons.mpr ⟨lw_p80, List.forall_mem_cons.mpr ⟨lw_p81, List.forall_mem_cons.mpr ⟨lw_p82, List.forall_mem_cons.mpr ⟨lw_p83, List.forall_mem_cons.mpr ⟨lw_p84, List.forall_mem_cons.mpr ⟨lw_p85, List.forall_mem_cons.mpr ⟨lw_p86, List.forall_mem_cons.mpr ⟨lw_p87, List.forall_mem_cons.mpr ⟨lw_p88, List.forall_mem_cons.mpr ⟨lw_p89, List.forall_mem_cons.mpr ⟨lw_p90, List.forall_mem_cons.mpr ⟨lw_p91, List.forall_mem_cons.mpr ⟨lw_p92, List.forall_mem_cons.mpr ⟨lw_p93, fun _ h => absurd h List.not_mem_nil⟩⟩⟩⟩⟩⟩⟩⟩⟩⟩⟩⟩⟩⟩
def lw_privs : List (MethodName × Nat) := lw_privs_1 ++ (lw_privs_2 ++ (lw_privs_3 ++ (lw_privs_4 ++ (lw_privs_5 ++ (lw_privs_6)))))
def lw_tbl : List Cond := k2_sels lw_privs ++ tables_1
theorem lw_privs_ok : ∀ q ∈ lw_privs, lw_okq q := by
  show ∀ q ∈ lw_privs_1 ++ (lw_privs_2 ++ (lw_privs_3 ++ (lw_privs_4 ++ (lw_privs_5 ++ (lw_privs_6))))), lw_okq q
  exact List.forall_mem_append.mpr ⟨lw_r1, List.forall_mem_append.mpr ⟨lw_r2, List.forall_mem_append.mpr ⟨lw_r3, List.forall_mem_append.mpr ⟨lw_r4, List.forall_mem_append.mpr ⟨lw_r5, lw_r6⟩⟩⟩⟩⟩
/-- the streams that the claim lets the run draw from -/
abbrev lw_cs : List Choice := [Jvm.Choice.named "NaN.bits"]
theorem lw_bits : nanBits ∈ lw_cs := by first | decide | exact List.mem_cons_self | simp [lw_cs, nanBits]
-- ===== end of PART A; then your names; then what follows =====
end
section
/-! ===== BEGIN words of one list among another's, by their places ===== -/
theorem goodIn_r {big : List Cond} (ws : List Cond) (ps : List Nat) (hp : ws = ps.filterMap (fun i => big[i]?)) (h : ws.all goodWord = true) : GoodIn big ws := by
  intro w hw
  have h1 := List.all_eq_true.mp h w hw
  rw [hp] at hw
  obtain ⟨i, -, hi⟩ := List.mem_filterMap.mp hw
  have hm : w ∈ big := by first | exact List.mem_of_getElem? hi | exact List.getElem?_mem hi
  exact ⟨hm, good_of_word h1⟩
theorem goodIn_app {big a b : List Cond} (ha : GoodIn big a) (hb : GoodIn big b) : GoodIn big (a ++ b) := fun w h => (List.mem_append.mp h).elim (ha w) (hb w)
theorem goodIn_ca {big a b : List Cond} {c : Cond} (ha : GoodIn big (c :: a)) (hb : GoodIn big b) : GoodIn big (c :: (a ++ b)) := fun w h => (List.mem_cons.mp h).elim (fun e => ha w (List.mem_cons.mpr (Or.inl e))) (fun h => (List.mem_append.mp h).elim (fun h => ha w (List.mem_cons.mpr (Or.inr h))) (hb w))
theorem goodIn_sub {big ws : List Cond} (hm : ∀ w ∈ ws, w ∈ big) (h : ws.all goodWord = true) : GoodIn big ws := fun w hw => ⟨hm w hw, good_of_word (List.all_eq_true.mp h w hw)⟩
/-! ===== END ===== -/
/-! ===== BEGIN exceptions that leave a method, and their catching by the caller (launches without stack traces) ===== -/
section VXA
/-! The laws vx_back, vx_callV, vx_callS, vx_callSW, vx_throw0, vx_throwS follow proofs of the library, with one case more: JvmDerived/Free/Laws.lean (Back.of_free), Shelf42/LK1.lean (callV, callS), Shelf/KitTraced.lean (throwNew0V, throwNewS). -/
/-- where a method has thrown q: the class by its name, the cell, what was written, the world -/
def vx_T (XC : String → State → State → Prop) (st : State) (q : Addr) (t : State) (mc ms : Nat) (free : Addr → Prop) : Prop :=
  ∃ (E : String) (ce : Cell) (L : List Loc), XC E st t ∧ t.heap[q]? = some ce ∧ ce.vm = .none ∧ st.vm.findClass E = some ce.cls ∧ st.WarmedH t.vm ∧ st.sameButNew ({ t with vm := st.vm } : State) L mc ms ∧ ∀ z ∈ L, free z.base
def vx_Q (Qc : Array Value → State → Outcome → State → Prop) (XC : String → State → State → Prop) (mc ms : Nat) (free : Addr → Prop) : Array Value → State → Outcome → State → Prop := fun a st o t =>
  (Qc a st o t ∧ ∃ L, FrameEnd st o t L mc ms ∧ ∀ q ∈ L, free q.base) ∨ ∃ q, o = .threw q ∧ vx_T XC st q t mc ms free
/-- a callee that returns or throws -/
def vx_Met (l : Launch) (y : MethodName) (ws : List Cond) (rm : Room) (Pc : Array Value → State → Prop) (Qc : Array Value → State → Outcome → State → Prop) (XC : String → State → State → Prop) (mc ms : Nat) (free : Addr → Prop) : Prop :=
  MetFree l y (headSpec ws rm) Pc (fun _ _ _ _ _ => True) (vx_Q Qc XC mc ms free)
def vx_Post (XC : String → State → State → Prop) (mc ms : Nat) (free : Addr → Prop) : Pt → Array Value → Addr → Pt → Prop := fun A a q B =>
  ∃ (g : JFrame) (mk : MethodId) (t : State) (L : List Loc) (E : String) (ce : Cell), B.U.heap = t.heap ∧ B.U.vm = t.vm ∧ XC E (A.U.calling g mk a) t ∧ t.heap[q]? = some ce ∧ ce.vm = .none ∧ A.U.vm.findClass E = some ce.cls ∧ B.locs = A.locs ++ L ∧ (∀ z ∈ L, free z.base) ∧ B.cells = A.cells + mc ∧ B.slots = A.slots + ms
def vx_Back (l : Launch) (R : Room) (p : Program) (e : Env) (below : List Frame) (s : State) (sargs : Array Value) (y : MethodName) (len W9 : Nat)
    (Pre : Pt → Array Value → Prop) (Post : Pt → Array Value → Option Value → Pt → Prop) (PostX : Pt → Array Value → Addr → Pt → Prop) : Prop :=
  ∀ (m : MethodId) (meth : Method) (c : Code) (A : Pt) (g : JFrame) (ig : Instr) (mk : MethodId) (a : Array Value),
    Stand p l e R s m sargs below meth c A.U A.locs A.cells A.slots → g.method = m → g.locals.size = c.maxLocals → decode c.code g.pc = .ok (ig, len) →
    2 * g.monitorRoom + (g.stack.map fun v => v.category).sum ≤ W9 → A.U.methodNamed? y = some mk → Pre A a →
    (∃ (v : Option Value) (B : Pt), Stand p l e R s m sargs below meth c B.U B.locs B.cells B.slots ∧ Post A a v B ∧
      Steps p.tables e below (doInvoke e (A.U.setTop g) [] mk a).1 (B.U.setTop { g with pc := g.pc + len, stack := v.toList ++ g.stack })) ∨
    (∃ (q : Addr) (B : Pt), Stand p l e R s m sargs below meth c B.U B.locs B.cells B.slots ∧ PostX A a q B ∧
      Steps p.tables e below (doInvoke e (A.U.setTop g) [] mk a).1 ((B.U.setTop g).pushFrame (.throwing q)))
section Payer
variable {l : Launch} {R : Room} {p : Program} {e : Env} {below : List Frame} {s : State} {sargs : Array Value} {y : MethodName} {len W9 : Nat}
theorem vx_back {ws : List Cond} {rm : Room} {Pc : Array Value → State → Prop} {Qc : Array Value → State → Outcome → State → Prop} {XC : String → State → State → Prop} {mc ms : Nat} {free : Addr → Prop} {bytes : ByteArray} {maxL : Nat} {ret : Option FieldType}
    (hM : vx_Met l y ws rm Pc Qc XC mc ms free) (hblind : FrameBlind Pc) (hrc : rm.cells = mc) (hrs : rm.slots = ms)
    (hframes : rm.frames + 1 ≤ R.frames) (hlocals : W9 + (maxL + 11) + rm.locals ≤ R.locals)
    (hws : ∀ w ∈ ws, ∀ a' U, s.WarmedH U.vm → w.before a' U = true) (hcode : Cond.code y bytes maxL ret ∈ ws) (hinit : ∀ a' U, s.WarmedH U.vm → (Cond.initialized y.cls).before a' U = true) :
    vx_Back l R p e below s sargs y len W9 (PreOf R mc ms Pc) (PostOf Qc mc ms free) (vx_Post XC mc ms free) := by
  intro m meth c A g ig mk a X hg hsize hdg hW hn hp
  have h1 : (headSpec ws rm).pre.before a A.U = true := atoms_intro fun w hw => hws w hw _ _ X.warmed
  have h2 : (Cond.code y bytes maxL ret).before a A.U = true := hws _ hcode _ _ X.warmed
  have h3 : (Cond.initialized y.cls).before a A.U = true := hinit _ _ X.warmed
  have h4 : A.cells + (headSpec ws rm).room.cells ≤ R.cells := by rw [show (headSpec ws rm).room.cells = mc from hrc]; exact hp.1
  have h5 : A.slots + (headSpec ws rm).room.slots ≤ R.slots := by rw [show (headSpec ws rm).room.slots = ms from hrs]; exact hp.2.1
  have hPc : Pc a (A.U.calling g mk a) := hblind _ _ _ _ hp.2.2
  obtain ⟨U, Ls, c0, s0⟩ := A
  dsimp only [Pt.U, Pt.locs, Pt.cells, Pt.slots] at h1 h2 h3 h4 h5 X hn hPc ⊢
  obtain ⟨methY, cY, hmY, hcY, -, hlY, -, -, -, -⟩ := Cond.code_spec hn h2
  obtain ⟨kY, hkY, -⟩ := className_of_methodNamed hn
  have hinitY : kY.init = .initialized := Cond.initialized_spec (findClass_of_methodNamed hn) hkY h3
  have h : At U g.method c below := by rw [hg]; exact X.here
  have hlocals9 : W9 + (maxL + 11) + (headSpec ws rm).room.locals ≤ R.locals := hlocals
  have happ : (headSpec ws rm).appliesLoose y e.platform (U.calling g mk a) = true :=
    Spec.appliesLoose_calling (g := g) h hdg hn hkY hinitY
      (X.room_calling (g := g) (R' := (headSpec ws rm).room) hsize hmY hcY hframes (by rw [hlY]; omega) h4 h5) h1
  obtain ⟨mid, hmid⟩ := h.above
  have hfr : (U.setTop g).frames = (.java g :: mid) ++ below := by rw [State.frames_setTop' g h.top, hmid]; rfl
  obtain ⟨o, s₂, hsteps, -, hend, hq⟩ := Steps.callFree hM p X.admits X.cas X.clock (acts := []) hfr happ hPc trivial
  have hq' : vx_Q Qc XC mc ms free a (U.calling g mk a) o s₂ := hq
  rw [State.frames_setTop' g h.top] at hend
  obtain ⟨g₀, hg0⟩ := Option.isSome_iff_exists.mp h.top
  obtain ⟨r, hr⟩ := State.topJava?_eq_some.mp hg0
  have hr' : (({ U with heap := s₂.heap, slotsUsed := s₂.slotsUsed } : State).setVm s₂.vm).frames = .java g₀ :: r := hr
  rcases hq' with ⟨hqc, L, hfe, hL⟩ | ⟨q, rfl, E, ce, L, hx, hce, hcv, hcl, hW₂, hsm, hL⟩
  · obtain ⟨⟨v, rfl⟩, hW₂, e2, q2, q3, q4, q5, q6⟩ := id hfe
    have e3 : s₂ = ({ (U.calling g mk a).setFrames s₂.frames with heap := s₂.heap, slotsUsed := s₂.slotsUsed } : State).setVm s₂.vm := by
      have : s₂ = ({ s₂ with vm := (U.calling g mk a).vm } : State).setVm s₂.vm := rfl
      rw [e2] at this
      exact this
    obtain ⟨c₂, i₂, len₂, hc₂, hd₂, hf₂⟩ := hend
    have hW' : U.WarmedH s₂.vm := hW₂
    have hcc : c₂ = c := by
      have h1 : s₂.code? g.method = U.code? g.method := by
        rw [State.code?_eq, State.code?_eq, hW'.alike.method?]
      exact Option.some.inj (hc₂.symm.trans (h1.trans h.code))
    subst hcc
    have hlen : len₂ = len := by rw [hdg] at hd₂; cases hd₂; rfl
    subst hlen
    have hs₂ : s₂ = (({ U with heap := s₂.heap, slotsUsed := s₂.slotsUsed } : State).setVm s₂.vm).setTop { g with pc := g.pc + len₂, stack := v.toList ++ g.stack } := by
      refine e3.trans ?_
      rw [hf₂, State.calling_eq h.top, State.setFrames_setFrames, State.setTop_of_frames _ hr', hr]
      rfl
    have hsame : U.sameButNew ({ U with heap := s₂.heap, slotsUsed := s₂.slotsUsed } : State) L mc ms := by
      refine ⟨?_, q2, q3, q4, q5, q6⟩
      obtain ⟨t, ht, -⟩ := State.frames_cons hr
      show ({ U with heap := s₂.heap, slotsUsed := s₂.slotsUsed } : State) = { U.setFrames U.frames with heap := s₂.heap, slotsUsed := s₂.slotsUsed }
      rw [State.setFrames_self ht]
    subst hg
    refine Or.inl ⟨v, ⟨(({ U with heap := s₂.heap, slotsUsed := s₂.slotsUsed } : State).setVm s₂.vm), Ls ++ L, c0 + mc, s0 + ms⟩,
      ⟨X.admits, X.cas, X.clock, X.frames, X.room, X.hears, X.method, X.code, (X.here.setHeapUsed s₂.heap s₂.slotsUsed).setVm hW'.alike, X.tail, State.WarmedH.trans X.warmed hW', X.limits, X.bytes, X.same.trans (hsame.setVm s.vm)⟩,
      ⟨g, mk, s₂, L, rfl, rfl, hqc, rfl, hL, rfl, rfl⟩, ?_⟩
    show Steps p.tables e below _ ((({ U with heap := s₂.heap, slotsUsed := s₂.slotsUsed } : State).setVm s₂.vm).setTop { g with pc := g.pc + len₂, stack := v.toList ++ g.stack })
    rw [← hs₂]
    exact hsteps
  · obtain ⟨e2, q2, q3, q4, q5, q6⟩ := id hsm
    have e3 : s₂ = ({ (U.calling g mk a).setFrames s₂.frames with heap := s₂.heap, slotsUsed := s₂.slotsUsed } : State).setVm s₂.vm := by
      have : s₂ = ({ s₂ with vm := (U.calling g mk a).vm } : State).setVm s₂.vm := rfl
      rw [e2] at this
      exact this
    have hf₂ : s₂.frames = .throwing q :: .java g :: U.frames.tail := hend
    have hW' : U.WarmedH s₂.vm := hW₂
    have hs₂ : s₂ = ((({ U with heap := s₂.heap, slotsUsed := s₂.slotsUsed } : State).setVm s₂.vm).setTop g).pushFrame (.throwing q) := by
      refine e3.trans ?_
      rw [hf₂, State.calling_eq h.top, State.setFrames_setFrames, State.pushFrame, State.frames_setTop _ hr', State.setTop_of_frames _ hr', State.setFrames_setFrames, hr]
      rfl
    have hsame : U.sameButNew ({ U with heap := s₂.heap, slotsUsed := s₂.slotsUsed } : State) L mc ms := by
      refine ⟨?_, q2, q3, q4, q5, q6⟩
      obtain ⟨t, ht, -⟩ := State.frames_cons hr
      show ({ U with heap := s₂.heap, slotsUsed := s₂.slotsUsed } : State) = { U.setFrames U.frames with heap := s₂.heap, slotsUsed := s₂.slotsUsed }
      rw [State.setFrames_self ht]
    subst hg
    refine Or.inr ⟨q, ⟨(({ U with heap := s₂.heap, slotsUsed := s₂.slotsUsed } : State).setVm s₂.vm), Ls ++ L, c0 + mc, s0 + ms⟩,
      ⟨X.admits, X.cas, X.clock, X.frames, X.room, X.hears, X.method, X.code, (X.here.setHeapUsed s₂.heap s₂.slotsUsed).setVm hW'.alike, X.tail, State.WarmedH.trans X.warmed hW', X.limits, X.bytes, X.same.trans (hsame.setVm s.vm)⟩,
      ⟨g, mk, s₂, L, E, ce, rfl, rfl, hx, hce, hcv, hcl, rfl, hL, rfl, rfl⟩, ?_⟩
    show Steps p.tables e below _ (((({ U with heap := s₂.heap, slotsUsed := s₂.slotsUsed } : State).setVm s₂.vm).setTop g).pushFrame (.throwing q))
    rw [← hs₂]
    exact hsteps
end Payer
section Calls
variable {p : Program} {l : Launch} {e : Env} {R : Room} {s : State} {m : MethodId} {args : Array Value} {below : List Frame} {meth : Method} {c : Code} {T : State} {locs : List Loc} {cells slots : Nat}
theorem vx_callV (X : Stand p l e R s m args below meth c T locs cells slots) (hexec : p.tables.exec = Jvm.exec) {own C : String} {index : Nat} {y : MethodName} {bytes : ByteArray} {maxL : Nat} {ret : Option FieldType}
    (hown : s.vm.findClass own = some m.cls) (hlink : (Cond.methodLink own index y).before args s = true) (hinst : (Cond.instanceMethod y).before args s = true) (hsel : (Cond.selects C y y).before args s = true)
    (hcode : (Cond.code y bytes maxL ret).before args s = true) (hy : y.cls ≠ "java/lang/invoke/MethodHandle" ∧ y.cls ≠ "java/lang/invoke/VarHandle")
    {W9 : Nat} {Pre : Pt → Array Value → Prop} {Post : Pt → Array Value → Option Value → Pt → Prop} {PostX : Pt → Array Value → Addr → Pt → Prop} (hK : vx_Back l R p e below s args y 3 W9 Pre Post PostX)
    {b : Addr} {cellB : Cell} (hcell : T.heap[b]? = some cellB) (hobj : cellB.vm.isStatics = false) (hcls : s.vm.findClass C = some cellB.cls)
    {g : JFrame} (hg : g.method = m) (hsize : g.locals.size = c.maxLocals) {argsL rest : List Value} (hlen : ∀ sig, parseMethodDescriptor y.desc = some sig → argsL.length = sig.parameters.length)
    (hstack : g.stack = argsL.reverse ++ .ref b :: rest) (hW : 2 * g.monitorRoom + (rest.map fun v => v.category).sum ≤ W9) (hdg : decode c.code g.pc = .ok (.invokevirtual index, 3))
    (hpre : ∀ vm₁, s.WarmedH vm₁ → Pre ⟨T.setVm vm₁, locs, cells, slots⟩ (Value.ref b :: argsL).toArray) :
    (∃ (v : Option Value) (vm₁ : Vm) (B : Pt), s.WarmedH vm₁ ∧ Stand p l e R s m args below meth c B.U B.locs B.cells B.slots ∧ Post ⟨T.setVm vm₁, locs, cells, slots⟩ (Value.ref b :: argsL).toArray v B ∧
      ∀ target, Steps p.tables e below (B.U.setTop { g with pc := g.pc + 3, stack := v.toList ++ rest }) target → Steps p.tables e below (T.setTop g) target) ∨
    (∃ (q : Addr) (vm₁ : Vm) (B : Pt), s.WarmedH vm₁ ∧ Stand p l e R s m args below meth c B.U B.locs B.cells B.slots ∧ PostX ⟨T.setVm vm₁, locs, cells, slots⟩ (Value.ref b :: argsL).toArray q B ∧
      Steps p.tables e below (T.setTop g) ((B.U.setTop { g with stack := rest }).pushFrame (.throwing q))) := by
  obtain ⟨mk, methM, hnamed, hmethM, hstM, habM⟩ := Cond.instanceMethod_spec hinst
  obtain ⟨methM', cM, hmethM', -, -, -, -, -, -, hsigM⟩ := Cond.code_spec hnamed hcode
  cases hmethM.symm.trans hmethM'
  obtain ⟨c2, r2, m2, q1, q2, q3, q4, kP, hkP, hkPi⟩ := Cond.selects_spec hsel
  cases hcls.symm.trans q1
  cases (State.methodFound?_of_named hnamed hy).symm.trans q2
  cases hnamed.symm.trans q3
  have hselP : selectMethod e.platform s.vm cellB.cls mk = .method mk := by rw [Launch.admits_selectMethod X.admits]; exact q4
  obtain ⟨vm₁, X₁, hstep₁⟩ := X.invokevirtual hexec hown hlink hnamed hmethM hstM hkP hkPi hy (a := b) (cell := cellB) hcell
    (fun z h => by rw [h] at hobj; cases hobj) hselP hmethM habM hkP hkPi (g := g) hg (argsL := argsL) (rest := rest) (hlen _ hsigM) hstack hdg
  rcases hK m meth c ⟨T.setVm vm₁, locs, cells, slots⟩ { g with stack := rest } (.invokevirtual index) mk (Value.ref b :: argsL).toArray X₁ hg hsize hdg hW (X₁.named hnamed) (hpre vm₁ X₁.warmed) with ⟨v, B, X', hpost, hsteps⟩ | ⟨q, B, X', hpost, hsteps⟩
  · exact Or.inl ⟨v, vm₁, B, X₁.warmed, X', hpost, fun target h => hstep₁ _ fun acts => by rw [doInvoke_state]; exact hsteps.trans h⟩
  · exact Or.inr ⟨q, vm₁, B, X₁.warmed, X', hpost, hstep₁ _ fun acts => by rw [doInvoke_state]; exact hsteps⟩
theorem vx_callS (X : Stand p l e R s m args below meth c T locs cells slots) (hexec : p.tables.exec = Jvm.exec) {own : String} {index : Nat} {y : MethodName} {bytes : ByteArray} {maxL : Nat} {ret : Option FieldType}
    (hown : s.vm.findClass own = some m.cls) (hlink : (Cond.methodLink own index y).before args s = true) (hstat : (Cond.static y).before args s = true) (hinit : (Cond.initialized y.cls).before args s = true)
    (hcode : (Cond.code y bytes maxL ret).before args s = true) (hy : y.cls ≠ "java/lang/invoke/MethodHandle" ∧ y.cls ≠ "java/lang/invoke/VarHandle")
    {W9 : Nat} {Pre : Pt → Array Value → Prop} {Post : Pt → Array Value → Option Value → Pt → Prop} {PostX : Pt → Array Value → Addr → Pt → Prop} (hK : vx_Back l R p e below s args y 3 W9 Pre Post PostX)
    {g : JFrame} (hg : g.method = m) (hsize : g.locals.size = c.maxLocals) {argsL rest : List Value} (hlen : ∀ sig, parseMethodDescriptor y.desc = some sig → argsL.length = sig.parameters.length)
    (hstack : g.stack = argsL.reverse ++ rest) (hW : 2 * g.monitorRoom + (rest.map fun v => v.category).sum ≤ W9) (hdg : decode c.code g.pc = .ok (.invokestatic index, 3))
    (hpre : ∀ vm₁, s.WarmedH vm₁ → Pre ⟨T.setVm vm₁, locs, cells, slots⟩ argsL.toArray) :
    (∃ (v : Option Value) (vm₁ : Vm) (B : Pt), s.WarmedH vm₁ ∧ Stand p l e R s m args below meth c B.U B.locs B.cells B.slots ∧ Post ⟨T.setVm vm₁, locs, cells, slots⟩ argsL.toArray v B ∧
      ∀ target, Steps p.tables e below (B.U.setTop { g with pc := g.pc + 3, stack := v.toList ++ rest }) target → Steps p.tables e below (T.setTop g) target) ∨
    (∃ (q : Addr) (vm₁ : Vm) (B : Pt), s.WarmedH vm₁ ∧ Stand p l e R s m args below meth c B.U B.locs B.cells B.slots ∧ PostX ⟨T.setVm vm₁, locs, cells, slots⟩ argsL.toArray q B ∧
      Steps p.tables e below (T.setTop g) ((B.U.setTop { g with stack := rest }).pushFrame (.throwing q))) := by
  obtain ⟨mk, hnamed⟩ := Cond.code_named hcode
  obtain ⟨methM, cM, hmethM, -, -, -, -, -, -, hsigM⟩ := Cond.code_spec hnamed hcode
  have hstatic : methM.isStatic = true := Cond.static_spec hnamed hmethM hstat
  obtain ⟨kP, hkP, -⟩ := className_of_methodNamed hnamed
  have hinitP : kP.init = .initialized := Cond.initialized_spec (findClass_of_methodNamed hnamed) hkP hinit
  obtain ⟨vm₁, X₁, hstep₁⟩ := X.invokestatic hexec hown hlink hnamed hmethM hstatic hkP hinitP hy (g := g) hg (argsL := argsL) (rest := rest) (hlen _ hsigM) hstack hdg
  rcases hK m meth c ⟨T.setVm vm₁, locs, cells, slots⟩ { g with stack := rest } (.invokestatic index) mk argsL.toArray X₁ hg hsize hdg hW (X₁.named hnamed) (hpre vm₁ X₁.warmed) with ⟨v, B, X', hpost, hsteps⟩ | ⟨q, B, X', hpost, hsteps⟩
  · exact Or.inl ⟨v, vm₁, B, X₁.warmed, X', hpost, fun target h => hstep₁ _ fun acts => by rw [doInvoke_state]; exact hsteps.trans h⟩
  · exact Or.inr ⟨q, vm₁, B, X₁.warmed, X', hpost, hstep₁ _ fun acts => by rw [doInvoke_state]; exact hsteps⟩
end Calls
theorem vx_cls {s : State} {T : State} {vm₁ : Vm} {E : String} {k : ClassId} (hW : s.WarmedH vm₁) (h : (T.setVm vm₁).vm.findClass E = some k) : s.vm.findClass E = some k := by
  have h1 : vm₁.findClass E = some k := h
  rw [hW.alike.findClass] at h1
  exact h1
/-- the method's frame g, with q thrown over it -/
def vx_W (p : Program) (l : Launch) (e : Env) (R : Room) (s : State) (m : MethodId) (args : Array Value) (below : List Frame) (meth : Method) (c : Code) (H : Heap) (locs : List Loc) (cells slots : Nat) (Q : State → Prop) (g : JFrame) (q : Addr) : Prop :=
  ∀ T : State, T.heap = H → Stand p l e R s m args below meth c T locs cells slots → ∃ t, Steps p.tables e below ((T.setTop g).pushFrame (.throwing q)) t ∧ Q t
def vx_Run (p : Program) (l : Launch) (e : Env) (R : Room) (s : State) (m : MethodId) (args : Array Value) (below : List Frame) (meth : Method) (c : Code) (H : Heap) (locs : List Loc) (cells slots mc ms : Nat) (g : JFrame) (rest : List Value) (Qa : State → Outcome → State → Prop) (XC : String → State → State → Prop) (free : Addr → Prop) : Prop :=
  ∀ T : State, T.heap = H → Stand p l e R s m args below meth c T locs cells slots →
    (∃ (v : Option Value) (st₀ t T' : State) (L : List Loc), st₀.heap = H ∧ Stand p l e R s m args below meth c T' (locs ++ L) (cells + mc) (slots + ms) ∧ (∀ q ∈ L, free q.base) ∧ T'.heap = t.heap ∧ T'.vm = t.vm ∧ Qa st₀ (.returned v) t ∧
      Goes p e below T g T' { g with pc := g.pc + 3, stack := v.toList ++ rest }) ∨
    (∃ (q : Addr) (st₀ t T' : State) (L : List Loc) (E : String) (ce : Cell), st₀.heap = H ∧ Stand p l e R s m args below meth c T' (locs ++ L) (cells + mc) (slots + ms) ∧ (∀ z ∈ L, free z.base) ∧ T'.heap = t.heap ∧ T'.vm = t.vm ∧ XC E st₀ t ∧ t.heap[q]? = some ce ∧ ce.vm = .none ∧ s.vm.findClass E = some ce.cls ∧
      Steps p.tables e below (T.setTop g) ((T'.setTop { g with stack := rest }).pushFrame (.throwing q)))
def vx_X {S : Type} (px : S → Prop) (B : String → S → State → Prop) (A : Nat → Prop) : String → State → State → Prop := fun E st t => ∃ u : S, px u ∧ B E u t ∧ va_F A st t
section Runs
variable {p : Program} {l : Launch} {e : Env} {R : Room} {s : State} {m : MethodId} {args : Array Value} {below : List Frame} {meth : Method} {c : Code} {H : Heap} {locs : List Loc} {cells slots : Nat}
variable {y : MethodName} {bytes cc : ByteArray} {maxL nL mc ms n index : Nat} {ret : Option FieldType} {ws : List Cond} {rm : Room} {Pc : Array Value → State → Prop} {Qc : Array Value → State → Outcome → State → Prop} {XC : String → State → State → Prop} {free : Addr → Prop} {Ts : List Cond} {own C : String} {b : Addr} {As rest : List Value} {g : JFrame}
theorem vx_callBack (cb : CallB R s args own index y bytes maxL ret ws rm mc ms n) (hM : vx_Met l y ws rm Pc Qc XC mc ms free) (hbl : FrameBlind Pc) : vx_Back l R p e below s args y 3 8 (PreOf R mc ms Pc) (PostOf Qc mc ms free) (vx_Post XC mc ms free) := by
  obtain ⟨hrc, hrs, hfr, hlo, hws, hcw, -, hini, -⟩ := cb
  exact vx_back (bytes := bytes) (maxL := maxL) (ret := ret) hM hbl hrc hrs hfr hlo hws hcw (fun a' U hW => word_at hW (Or.inl (by first | rfl | simp [Cond.onTables, Cond.keeps, Cond.steady])) hini)
theorem vx_runV (S : CallFix p m c cc nL s args Ts own) (hM : vx_Met l y ws rm Pc Qc XC mc ms free) (cw : CallW R s args own C index y bytes maxL ret ws rm mc ms n) (hp : PreV s H C b Pc As)
    (hg : g.method = m) (hn : As.length = n) (hsize : g.locals.size = nL) (hstack : g.stack = As.reverse ++ .ref b :: rest) (hW : 2 * g.monitorRoom + (rest.map fun v => v.category).sum ≤ 8) (hdg : decode cc g.pc = .ok (.invokevirtual index, 3)) (hf : cells + mc ≤ R.cells ∧ slots + ms ≤ R.slots) :
    vx_Run p l e R s m args below meth c H locs cells slots mc ms g rest (Qc (Value.ref b :: As).toArray) XC free := by
  have hK : vx_Back l R p e below s args y 3 8 (PreOf R mc ms Pc) (PostOf Qc mc ms free) (vx_Post XC mc ms free) := vx_callBack cw.1 hM hp.1
  obtain ⟨⟨-, -, -, -, -, -, hcode, -, hy, hlen, hl⟩, hin, hse⟩ := cw
  obtain ⟨hx, hb, hml, ho, -⟩ := S
  obtain ⟨-, ⟨cellB, hcB, hoB, hclB⟩, hPc⟩ := hp
  intro T hT X
  rcases vx_callV X hx (C := C) (bytes := bytes) (maxL := maxL) (ret := ret) ho hl hin hse hcode hy hK (by rw [hT]; exact hcB) hoB hclB hg (hsize.trans hml.symm) (argsL := As) (rest := rest) (fun sig h => hn.trans (hlen sig h)) hstack hW (by rw [hb]; exact hdg)
    (fun vm₁ hW₁ => ⟨hf.1, hf.2, hPc (T.setVm vm₁) hT hW₁⟩) with ⟨v, vm₁, ⟨U', l2, c2, s2⟩, hW₁, X', ⟨g', mk, t, L, e1, e2, hq, h1, hL, h2, h3⟩, st⟩ | ⟨q, vm₁, ⟨U', l2, c2, s2⟩, hW₁, X', ⟨g', mk, t, L, E, ce, e1, e2, hq, hce, hcv, hcl, h1, hL, h2, h3⟩, st⟩
  · dsimp only [Pt.U, Pt.locs, Pt.cells, Pt.slots] at X' e1 e2 h1 h2 h3 st
    subst h1; subst h2; subst h3
    exact Or.inl ⟨v, (T.setVm vm₁).calling g' mk (Value.ref b :: As).toArray, t, U', L, hT, X', hL, e1, e2, hq, st⟩
  · dsimp only [Pt.U, Pt.locs, Pt.cells, Pt.slots] at X' e1 e2 h1 h2 h3 st hcl
    subst h1; subst h2; subst h3
    exact Or.inr ⟨q, (T.setVm vm₁).calling g' mk (Value.ref b :: As).toArray, t, U', L, E, ce, hT, X', hL, e1, e2, hq, hce, hcv, vx_cls hW₁ hcl, st⟩
theorem vx_runS (S : CallFix p m c cc nL s args Ts own) (hM : vx_Met l y ws rm Pc Qc XC mc ms free) (cw : CallB R s args own index y bytes maxL ret ws rm mc ms n ∧ (Cond.static y).before args s = true) (hp : PreS s H Pc As)
    (hg : g.method = m) (hn : As.length = n) (hsize : g.locals.size = nL) (hstack : g.stack = As.reverse ++ rest) (hW : 2 * g.monitorRoom + (rest.map fun v => v.category).sum ≤ 8) (hdg : decode cc g.pc = .ok (.invokestatic index, 3)) (hf : cells + mc ≤ R.cells ∧ slots + ms ≤ R.slots) :
    vx_Run p l e R s m args below meth c H locs cells slots mc ms g rest (Qc As.toArray) XC free := by
  have hK : vx_Back l R p e below s args y 3 8 (PreOf R mc ms Pc) (PostOf Qc mc ms free) (vx_Post XC mc ms free) := vx_callBack cw.1 hM hp.1
  obtain ⟨⟨-, -, -, -, -, -, hcode, hini, hy, hlen, hl⟩, hstt⟩ := cw
  obtain ⟨hx, hb, hml, ho, -⟩ := S
  intro T hT X
  rcases vx_callS X hx (bytes := bytes) (maxL := maxL) (ret := ret) ho hl hstt hini hcode hy hK hg (hsize.trans hml.symm) (argsL := As) (rest := rest) (fun sig h => hn.trans (hlen sig h)) hstack hW (by rw [hb]; exact hdg)
    (fun vm₁ hW₁ => ⟨hf.1, hf.2, hp.2 (T.setVm vm₁) hT hW₁⟩) with ⟨v, vm₁, ⟨U', l2, c2, s2⟩, hW₁, X', ⟨g', mk, t, L, e1, e2, hq, h1, hL, h2, h3⟩, st⟩ | ⟨q, vm₁, ⟨U', l2, c2, s2⟩, hW₁, X', ⟨g', mk, t, L, E, ce, e1, e2, hq, hce, hcv, hcl, h1, hL, h2, h3⟩, st⟩
  · dsimp only [Pt.U, Pt.locs, Pt.cells, Pt.slots] at X' e1 e2 h1 h2 h3 st
    subst h1; subst h2; subst h3
    exact Or.inl ⟨v, (T.setVm vm₁).calling g' mk As.toArray, t, U', L, hT, X', hL, e1, e2, hq, st⟩
  · dsimp only [Pt.U, Pt.locs, Pt.cells, Pt.slots] at X' e1 e2 h1 h2 h3 st hcl
    subst h1; subst h2; subst h3
    exact Or.inr ⟨q, (T.setVm vm₁).calling g' mk As.toArray, t, U', L, E, ce, hT, X', hL, e1, e2, hq, hce, hcv, vx_cls hW₁ hcl, st⟩
end Runs
section Rows
variable {p : Program} {l : Launch} {e : Env} {R : Room} {s : State} {m : MethodId} {args : Array Value} {below : List Frame} {meth : Method} {c : Code} {H : Heap} {locs : List Loc} {cells slots : Nat} {Q : State → Prop}
variable {mc ms : Nat} {free : Addr → Prop} {A0 A1 : Nat → Prop} {H0 : Heap} {a : Array Value} {pc : Nat} {ls : Array Slot} {st0 rest : List Value}
theorem vx_keep {st₀ t T' : State} {L : List Loc} (h0 : st₀.heap = H) (e1 : T'.heap = t.heap) (hS : va_S A0 H0 H locs) (hA : ∀ q, q < H.size → A1 q → A0 q) (hf : ∀ q, free q → A0 q) (hL : ∀ q ∈ L, free q.base) (hF : va_F A1 st₀ t) :
    H.size ≤ T'.heap.size ∧ (∀ q : Nat, q < H.size → ¬ A1 q → T'.heap[q]? = H[q]?) ∧ va_S A0 H0 T'.heap (locs ++ L) := by
  obtain ⟨hz, hk⟩ := hF
  rw [h0] at hz hk
  exact ⟨by rw [e1]; exact hz, fun q h1 h2 => by rw [e1]; exact hk q h1 h2,
    ⟨Nat.le_trans hS.1 (by rw [e1]; exact hz), fun q h1 h2 => by rw [e1, hk q (Nat.lt_of_lt_of_le h1 hS.1) (fun z => h2 (hA q (Nat.lt_of_lt_of_le h1 hS.1) z))]; exact hS.2.1 q h1 h2, fun q hq => by
      rcases List.mem_append.mp hq with h | h
      · exact hS.2.2 q h
      · exact hf _ (hL q h)⟩⟩
theorem vx_calli {S SX : Type} {post : Int32 → S → Prop} {px : SX → Prop} {B : S → State → Prop} {BX : String → SX → State → Prop} {AX : Nat → Prop} (hr : vx_Run p l e R s m args below meth c H locs cells slots mc ms (F0 m pc ls st0) rest (va_Qi post B A1 a) (vx_X px BX AX) free) (hS : va_S A0 H0 H locs) (hA : ∀ q, q < H.size → A1 q → A0 q) (hf : ∀ q, free q → A0 q) (hAX : ∀ q, q < H.size → AX q → A0 q)
    (kx : ∀ (E : String) (ce : Cell) (q9 : Addr) (u : SX) (t : State) (H1 : Heap) (locs1 : List Loc), t.heap = H1 → s.vm.Alike t.vm → px u → BX E u t → H.size ≤ H1.size → (∀ q : Nat, q < H.size → ¬ AX q → H1[q]? = H[q]?) → va_S A0 H0 H1 locs1 → H1[q9]? = some ce → ce.vm = .none → s.vm.findClass E = some ce.cls → vx_W p l e R s m args below meth c H1 locs1 (cells + mc) (slots + ms) Q (F0 m pc ls rest) q9)
    (kk : ∀ (r : Int32) (u : S) (t : State) (H1 : Heap) (locs1 : List Loc), t.heap = H1 → s.vm.Alike t.vm → post r u → B u t → H.size ≤ H1.size → (∀ q : Nat, q < H.size → ¬ A1 q → H1[q]? = H[q]?) → va_S A0 H0 H1 locs1 → W p l e R s m args below meth c H1 locs1 (cells + mc) (slots + ms) Q (F0 m (pc + 3) ls (.int r :: rest))) : W p l e R s m args below meth c H locs cells slots Q (F0 m pc ls st0) := by
  intro T hT X
  rcases hr T hT X with ⟨v, st₀, t, T', L, h0, X', hL, e1, e2, ⟨⟨r, u, hv, hp, hb⟩, hF⟩, st⟩ | ⟨q, st₀, t, T', L, E, ce, h0, X', hL, e1, e2, ⟨u, hp, hb, hF⟩, hce, hcv, hcl, st⟩
  · cases hv
    obtain ⟨k1, k2, k3⟩ := vx_keep h0 e1 hS hA hf hL hF
    obtain ⟨t2, a1, b1⟩ := kk r u t T'.heap (locs ++ L) e1.symm (by rw [← e2]; exact X'.warmed.alike) hp hb k1 k2 k3 T' rfl X'
    exact ⟨t2, st t2 a1, b1⟩
  · obtain ⟨k1, k2, k3⟩ := vx_keep h0 e1 hS hAX hf hL hF
    obtain ⟨t2, a1, b1⟩ := kx E ce q u t T'.heap (locs ++ L) e1.symm (by rw [← e2]; exact X'.warmed.alike) hp hb k1 k2 k3 (by rw [e1]; exact hce) hcv hcl T' rfl X'
    exact ⟨t2, st.trans a1, b1⟩
theorem vx_calll {S SX : Type} {post : Int64 → S → Prop} {px : SX → Prop} {B : S → State → Prop} {BX : String → SX → State → Prop} {AX : Nat → Prop} (hr : vx_Run p l e R s m args below meth c H locs cells slots mc ms (F0 m pc ls st0) rest (va_Ql post B A1 a) (vx_X px BX AX) free) (hS : va_S A0 H0 H locs) (hA : ∀ q, q < H.size → A1 q → A0 q) (hf : ∀ q, free q → A0 q) (hAX : ∀ q, q < H.size → AX q → A0 q)
    (kx : ∀ (E : String) (ce : Cell) (q9 : Addr) (u : SX) (t : State) (H1 : Heap) (locs1 : List Loc), t.heap = H1 → s.vm.Alike t.vm → px u → BX E u t → H.size ≤ H1.size → (∀ q : Nat, q < H.size → ¬ AX q → H1[q]? = H[q]?) → va_S A0 H0 H1 locs1 → H1[q9]? = some ce → ce.vm = .none → s.vm.findClass E = some ce.cls → vx_W p l e R s m args below meth c H1 locs1 (cells + mc) (slots + ms) Q (F0 m pc ls rest) q9)
    (kk : ∀ (r : Int64) (u : S) (t : State) (H1 : Heap) (locs1 : List Loc), t.heap = H1 → s.vm.Alike t.vm → post r u → B u t → H.size ≤ H1.size → (∀ q : Nat, q < H.size → ¬ A1 q → H1[q]? = H[q]?) → va_S A0 H0 H1 locs1 → W p l e R s m args below meth c H1 locs1 (cells + mc) (slots + ms) Q (F0 m (pc + 3) ls (.long r :: rest))) : W p l e R s m args below meth c H locs cells slots Q (F0 m pc ls st0) := by
  intro T hT X
  rcases hr T hT X with ⟨v, st₀, t, T', L, h0, X', hL, e1, e2, ⟨⟨r, u, hv, hp, hb⟩, hF⟩, st⟩ | ⟨q, st₀, t, T', L, E, ce, h0, X', hL, e1, e2, ⟨u, hp, hb, hF⟩, hce, hcv, hcl, st⟩
  · cases hv
    obtain ⟨k1, k2, k3⟩ := vx_keep h0 e1 hS hA hf hL hF
    obtain ⟨t2, a1, b1⟩ := kk r u t T'.heap (locs ++ L) e1.symm (by rw [← e2]; exact X'.warmed.alike) hp hb k1 k2 k3 T' rfl X'
    exact ⟨t2, st t2 a1, b1⟩
  · obtain ⟨k1, k2, k3⟩ := vx_keep h0 e1 hS hAX hf hL hF
    obtain ⟨t2, a1, b1⟩ := kx E ce q u t T'.heap (locs ++ L) e1.symm (by rw [← e2]; exact X'.warmed.alike) hp hb k1 k2 k3 (by rw [e1]; exact hce) hcv hcl T' rfl X'
    exact ⟨t2, st.trans a1, b1⟩
theorem vx_callf {S SX : Type} {post : UInt32 → S → Prop} {px : SX → Prop} {B : S → State → Prop} {BX : String → SX → State → Prop} {AX : Nat → Prop} (hr : vx_Run p l e R s m args below meth c H locs cells slots mc ms (F0 m pc ls st0) rest (va_Qf post B A1 a) (vx_X px BX AX) free) (hS : va_S A0 H0 H locs) (hA : ∀ q, q < H.size → A1 q → A0 q) (hf : ∀ q, free q → A0 q) (hAX : ∀ q, q < H.size → AX q → A0 q)
    (kx : ∀ (E : String) (ce : Cell) (q9 : Addr) (u : SX) (t : State) (H1 : Heap) (locs1 : List Loc), t.heap = H1 → s.vm.Alike t.vm → px u → BX E u t → H.size ≤ H1.size → (∀ q : Nat, q < H.size → ¬ AX q → H1[q]? = H[q]?) → va_S A0 H0 H1 locs1 → H1[q9]? = some ce → ce.vm = .none → s.vm.findClass E = some ce.cls → vx_W p l e R s m args below meth c H1 locs1 (cells + mc) (slots + ms) Q (F0 m pc ls rest) q9)
    (kk : ∀ (r : UInt32) (u : S) (t : State) (H1 : Heap) (locs1 : List Loc), t.heap = H1 → s.vm.Alike t.vm → post r u → B u t → H.size ≤ H1.size → (∀ q : Nat, q < H.size → ¬ A1 q → H1[q]? = H[q]?) → va_S A0 H0 H1 locs1 → W p l e R s m args below meth c H1 locs1 (cells + mc) (slots + ms) Q (F0 m (pc + 3) ls (.float r :: rest))) : W p l e R s m args below meth c H locs cells slots Q (F0 m pc ls st0) := by
  intro T hT X
  rcases hr T hT X with ⟨v, st₀, t, T', L, h0, X', hL, e1, e2, ⟨⟨r, u, hv, hp, hb⟩, hF⟩, st⟩ | ⟨q, st₀, t, T', L, E, ce, h0, X', hL, e1, e2, ⟨u, hp, hb, hF⟩, hce, hcv, hcl, st⟩
  · cases hv
    obtain ⟨k1, k2, k3⟩ := vx_keep h0 e1 hS hA hf hL hF
    obtain ⟨t2, a1, b1⟩ := kk r u t T'.heap (locs ++ L) e1.symm (by rw [← e2]; exact X'.warmed.alike) hp hb k1 k2 k3 T' rfl X'
    exact ⟨t2, st t2 a1, b1⟩
  · obtain ⟨k1, k2, k3⟩ := vx_keep h0 e1 hS hAX hf hL hF
    obtain ⟨t2, a1, b1⟩ := kx E ce q u t T'.heap (locs ++ L) e1.symm (by rw [← e2]; exact X'.warmed.alike) hp hb k1 k2 k3 (by rw [e1]; exact hce) hcv hcl T' rfl X'
    exact ⟨t2, st.trans a1, b1⟩
theorem vx_calld {S SX : Type} {post : UInt64 → S → Prop} {px : SX → Prop} {B : S → State → Prop} {BX : String → SX → State → Prop} {AX : Nat → Prop} (hr : vx_Run p l e R s m args below meth c H locs cells slots mc ms (F0 m pc ls st0) rest (va_Qd post B A1 a) (vx_X px BX AX) free) (hS : va_S A0 H0 H locs) (hA : ∀ q, q < H.size → A1 q → A0 q) (hf : ∀ q, free q → A0 q) (hAX : ∀ q, q < H.size → AX q → A0 q)
    (kx : ∀ (E : String) (ce : Cell) (q9 : Addr) (u : SX) (t : State) (H1 : Heap) (locs1 : List Loc), t.heap = H1 → s.vm.Alike t.vm → px u → BX E u t → H.size ≤ H1.size → (∀ q : Nat, q < H.size → ¬ AX q → H1[q]? = H[q]?) → va_S A0 H0 H1 locs1 → H1[q9]? = some ce → ce.vm = .none → s.vm.findClass E = some ce.cls → vx_W p l e R s m args below meth c H1 locs1 (cells + mc) (slots + ms) Q (F0 m pc ls rest) q9)
    (kk : ∀ (r : UInt64) (u : S) (t : State) (H1 : Heap) (locs1 : List Loc), t.heap = H1 → s.vm.Alike t.vm → post r u → B u t → H.size ≤ H1.size → (∀ q : Nat, q < H.size → ¬ A1 q → H1[q]? = H[q]?) → va_S A0 H0 H1 locs1 → W p l e R s m args below meth c H1 locs1 (cells + mc) (slots + ms) Q (F0 m (pc + 3) ls (.double r :: rest))) : W p l e R s m args below meth c H locs cells slots Q (F0 m pc ls st0) := by
  intro T hT X
  rcases hr T hT X with ⟨v, st₀, t, T', L, h0, X', hL, e1, e2, ⟨⟨r, u, hv, hp, hb⟩, hF⟩, st⟩ | ⟨q, st₀, t, T', L, E, ce, h0, X', hL, e1, e2, ⟨u, hp, hb, hF⟩, hce, hcv, hcl, st⟩
  · cases hv
    obtain ⟨k1, k2, k3⟩ := vx_keep h0 e1 hS hA hf hL hF
    obtain ⟨t2, a1, b1⟩ := kk r u t T'.heap (locs ++ L) e1.symm (by rw [← e2]; exact X'.warmed.alike) hp hb k1 k2 k3 T' rfl X'
    exact ⟨t2, st t2 a1, b1⟩
  · obtain ⟨k1, k2, k3⟩ := vx_keep h0 e1 hS hAX hf hL hF
    obtain ⟨t2, a1, b1⟩ := kx E ce q u t T'.heap (locs ++ L) e1.symm (by rw [← e2]; exact X'.warmed.alike) hp hb k1 k2 k3 (by rw [e1]; exact hce) hcv hcl T' rfl X'
    exact ⟨t2, st.trans a1, b1⟩
theorem vx_callv {S SX : Type} {post : S → Prop} {px : SX → Prop} {B : S → State → Prop} {BX : String → SX → State → Prop} {AX : Nat → Prop} (hr : vx_Run p l e R s m args below meth c H locs cells slots mc ms (F0 m pc ls st0) rest (va_Qv post B A1 a) (vx_X px BX AX) free) (hS : va_S A0 H0 H locs) (hA : ∀ q, q < H.size → A1 q → A0 q) (hf : ∀ q, free q → A0 q) (hAX : ∀ q, q < H.size → AX q → A0 q)
    (kx : ∀ (E : String) (ce : Cell) (q9 : Addr) (u : SX) (t : State) (H1 : Heap) (locs1 : List Loc), t.heap = H1 → s.vm.Alike t.vm → px u → BX E u t → H.size ≤ H1.size → (∀ q : Nat, q < H.size → ¬ AX q → H1[q]? = H[q]?) → va_S A0 H0 H1 locs1 → H1[q9]? = some ce → ce.vm = .none → s.vm.findClass E = some ce.cls → vx_W p l e R s m args below meth c H1 locs1 (cells + mc) (slots + ms) Q (F0 m pc ls rest) q9)
    (kk : ∀ (u : S) (t : State) (H1 : Heap) (locs1 : List Loc), t.heap = H1 → s.vm.Alike t.vm → post u → B u t → H.size ≤ H1.size → (∀ q : Nat, q < H.size → ¬ A1 q → H1[q]? = H[q]?) → va_S A0 H0 H1 locs1 → W p l e R s m args below meth c H1 locs1 (cells + mc) (slots + ms) Q (F0 m (pc + 3) ls (rest))) : W p l e R s m args below meth c H locs cells slots Q (F0 m pc ls st0) := by
  intro T hT X
  rcases hr T hT X with ⟨v, st₀, t, T', L, h0, X', hL, e1, e2, ⟨⟨u, hv, hp, hb⟩, hF⟩, st⟩ | ⟨q, st₀, t, T', L, E, ce, h0, X', hL, e1, e2, ⟨u, hp, hb, hF⟩, hce, hcv, hcl, st⟩
  · cases hv
    obtain ⟨k1, k2, k3⟩ := vx_keep h0 e1 hS hA hf hL hF
    obtain ⟨t2, a1, b1⟩ := kk u t T'.heap (locs ++ L) e1.symm (by rw [← e2]; exact X'.warmed.alike) hp hb k1 k2 k3 T' rfl X'
    exact ⟨t2, st t2 a1, b1⟩
  · obtain ⟨k1, k2, k3⟩ := vx_keep h0 e1 hS hAX hf hL hF
    obtain ⟨t2, a1, b1⟩ := kx E ce q u t T'.heap (locs ++ L) e1.symm (by rw [← e2]; exact X'.warmed.alike) hp hb k1 k2 k3 (by rw [e1]; exact hce) hcv hcl T' rfl X'
    exact ⟨t2, st.trans a1, b1⟩
/-- caught by the row x of this method's table; the rows ahead don't take it -/
theorem vx_catch {own name : String} {E : String} {ce : Cell} {q : Addr} (hown : s.vm.findClass own = some m.cls) (pre : List ExceptionTableEntry) (x : ExceptionTableEntry) (suf : List ExceptionTableEntry) (hsplit : c.exceptionTable.toList = pre ++ x :: suf)
    (hpass : ∀ z ∈ pre, covers z pc = false ∨ (z.catchType ≠ 0 ∧ ∃ nm : String, (Cond.classLink own z.catchType nm).before args s = true ∧ va_Nc E nm s)) (hx : covers x pc = true) (h0 : x.catchType ≠ 0)
    (hlink : (Cond.classLink own x.catchType name).before args s = true) (hcast : (Cond.castable E name).before args s = true) (hcell : H[q]? = some ce) (hv : ce.vm = .none) (hcl : s.vm.findClass E = some ce.cls)
    (kk : W p l e R s m args below meth c H locs cells slots Q (F0 m x.handlerPc ls [.ref q])) : vx_W p l e R s m args below meth c H locs cells slots Q (F0 m pc ls rest) q := by
  intro T hT X
  have hpl : e.platform.magicAccessors = ({} : Platform).magicAccessors := by rw [X.admits.platform]
  obtain ⟨c3, c4, hc3, hc4, hasg⟩ := Cond.castable_spec hcast
  cases Option.some.inj (hc3.symm.trans hcl)
  obtain ⟨c5, hc5, hcl5⟩ := Cond.classLink_spec hown hlink e.platform hpl
  cases Option.some.inj (hc4.symm.trans hc5)
  obtain ⟨vm', X', st⟩ := X.thenCaughtThrough q (g := F0 m pc ls rest) rfl (Steps.refl _) (by rw [hT]; exact hcell) (by rw [hv]; rfl) (by obtain ⟨k9, h9, -⟩ := Vm.findClass_spec hcl; exact ⟨k9, h9⟩) pre x suf hsplit
    (fun z hz => by
      rcases hpass z hz with h | ⟨hz0, nm, hl1, hn1⟩
      · exact Or.inl h
      · obtain ⟨c6, hc6, hcl6⟩ := Cond.classLink_spec hown hl1 e.platform hpl
        obtain ⟨a8, b8, h1, h2, h3⟩ := hn1
        cases Option.some.inj (h1.symm.trans hcl)
        cases Option.some.inj (h2.symm.trans hc6)
        exact Or.inr ⟨hz0, _, hcl6, h3⟩) hx (Or.inr ⟨h0, c4, hcl5, hasg⟩)
  obtain ⟨t, a1, b1⟩ := kk (T.setVm vm') hT X'
  exact ⟨t, st.trans a1, b1⟩
end Rows
section Ends
variable {p : Program} {l : Launch} {e : Env} {R : Room} {s : State} {m : MethodId} {args : Array Value} {below : List Frame} {meth : Method} {c : Code} {H : Heap} {locs : List Loc} {cells slots : Nat} {Q : State → Prop}
variable {mc ms : Nat} {free : Addr → Prop} {A0 A1 : Nat → Prop} {H0 : Heap} {a : Array Value} {ls : Array Slot} {st0 rest : List Value}
variable {Qc : Array Value → State → Outcome → State → Prop} {XC : String → State → State → Prop}
/-- what a body that may throw owes at its end -/
def vx_MQ (below : List Frame) (Qc : Array Value → State → Outcome → State → Prop) (XC : String → State → State → Prop) (a : Array Value) (s : State) (mc ms : Nat) (free : Addr → Prop) : State → Prop := fun t =>
  ∃ o, t.status = .running ∧ Ended t below o ∧ vx_Q Qc XC mc ms free a s o t
theorem vx_ret {g : JFrame} {mc ms : Nat} (k : W p l e R s m args below meth c H locs cells slots (MQ below Qc args s mc ms free) g) : W p l e R s m args below meth c H locs cells slots (vx_MQ below Qc XC args s mc ms free) g := by
  intro T hT X
  obtain ⟨t, a1, o, b1, b2, b3, b4⟩ := k T hT X
  exact ⟨t, a1, o, b1, b2, Or.inl ⟨b3, b4⟩⟩
/-- not caught here: it goes on to the caller -/
theorem vx_widen {g : JFrame} {q : Addr} {k n : Nat} (h1 : cells ≤ k) (h2 : slots ≤ n) (kk : vx_W p l e R s m args below meth c H locs k n Q g q) : vx_W p l e R s m args below meth c H locs cells slots Q g q := fun T hT X => kk T hT (stand_widen X h1 h2)
theorem vx_out {pc : Nat} {E : String} {ce : Cell} {q : Addr} {mc ms : Nat} (hout : ∀ x ∈ c.exceptionTable.toList, covers x pc = false) (hlocks : meth.locks = false) (hcell : H[q]? = some ce) (hv : ce.vm = .none) (hcl : s.vm.findClass E = some ce.cls)
    (hx : ∀ t : State, t.heap = H → s.vm.Alike t.vm → XC E s t) (hf : ∀ z ∈ locs, free z.base) (hc : cells ≤ mc) (hs : slots ≤ ms) :
    vx_W p l e R s m args below meth c H locs cells slots (vx_MQ below Qc XC args s mc ms free) (F0 m pc ls rest) q := by
  intro T hT X
  obtain ⟨st1, hrun, hend, hW, hsm⟩ := X.leaveThrown q (g := F0 m pc ls rest) rfl rfl rfl hout hlocks
  have hcell9 : (T.setFrames (.throwing q :: below)).heap[q]? = some ce := by
    show T.heap[q]? = some ce
    rw [hT]; exact hcell
  exact ⟨_, st1, .threw q, hrun, hend, Or.inr ⟨q, rfl, E, ce, locs, hx _ hT hW.alike, hcell9, hv, hcl, hW, hsm.mono hc hs, hf⟩⟩
theorem vx_frame {U : State} {k n : Nat} (h : s.sameButNew ({ U with vm := s.vm } : State) locs k n) : s.heap.size ≤ U.heap.size ∧ ∀ q : Nat, q < s.heap.size → (∀ z ∈ locs, z.base ≠ q) → U.heap[q]? = s.heap[q]? := by
  obtain ⟨-, h2, -, -, -, h6⟩ := h
  refine ⟨h2, fun q hq hz => ?_⟩
  obtain ⟨c9, e1, e2, e3, e4⟩ := h6 q _ (Array.getElem?_eq_getElem hq)
  have hs : c9.slots = (s.heap[q]).slots := Array.ext_getElem? fun i => e4 i fun hm => hz _ hm rfl
  have h9 : c9 = s.heap[q] := by
    rw [hs] at e2
    exact e2
  have e5 : U.heap[q]? = some c9 := e1
  rw [e5, h9, Array.getElem?_eq_getElem hq]
/-- the words of a throw but the four that speak of the heap -/
def vx_no (w : Cond) : Bool := decide (w ≠ .isRef (.static Bundle.tN "UNASSIGNED_STACK" Bundle.steD)) && decide (w ≠ .isRef (.static Bundle.tN "SUPPRESSED_SENTINEL" Bundle.listD)) && decide (w ≠ .laysStatic Bundle.tN "UNASSIGNED_STACK" Bundle.steD) && decide (w ≠ .laysStatic Bundle.tN "SUPPRESSED_SENTINEL" Bundle.listD)
def vx_at0 (own : String) (ic : Nat) (X : String) (names : List String) : List Cond := (Bundle.ownAtoms0 own ic X names).filter vx_no
def vx_atS (own : String) (ic : Nat) (X : String) (names : List String) : List Cond := (Bundle.ownAtoms own ic X names).filter vx_no
/-- a word that the tables alone decide, or a good one -/
def vx_ot (w : Cond) : Bool := w.onTables || goodWord w
theorem vx_ot_at {args a' : Array Value} {s U : State} {w : Cond} (hW : s.WarmedH U.vm) (hvm : s.vm = U.vm) (hg : vx_ot w = true) (h : w.before args s = true) : w.before a' U = true := by
  simp only [vx_ot, Bool.or_eq_true] at hg
  rcases hg with hg | hg
  · exact va_tabs hg hvm h
  · exact word_at hW (good_of_word hg) h
/-- a list's words: the good ones out of the method's own list, the others by premises of their own -/
theorem vx_hat {args : Array Value} {s : State} {L B : List Cond} (h1 : ∀ w ∈ L.filter goodWord, w.before args s = true) (h2 : ∀ w ∈ L.filter (fun w => !goodWord w), w ∈ B) (h3 : ∀ w ∈ B, w.before args s = true) : ∀ w ∈ L, w.before args s = true := by
  intro w hw
  by_cases g : goodWord w = true
  · exact h1 w (List.mem_filter.mpr ⟨hw, g⟩)
  · refine h3 w (h2 w (List.mem_filter.mpr ⟨hw, ?_⟩))
    show (!goodWord w) = true
    cases hgw : goodWord w
    · rfl
    · exact absurd hgw g
theorem vx_c {args : Array Value} {s : State} {w : Cond} {B : List Cond} (h : w.before args s = true) (t : ∀ w ∈ B, w.before args s = true) : ∀ w' ∈ w :: B, w'.before args s = true := fun w' h' => (List.mem_cons.mp h').elim (fun e => by rw [e]; exact h) (t w')
theorem vx_n {args : Array Value} {s : State} : ∀ w ∈ ([] : List Cond), w.before args s = true := fun _ h => nomatch h
theorem vx_own {args : Array Value} {s : State} {L : List Cond} (h1 : ∀ w ∈ L.filter vx_no, w.before args s = true)
    (hU : (Cond.isRef (.static Bundle.tN "UNASSIGNED_STACK" Bundle.steD)).before args s = true) (hN : (Cond.isRef (.static Bundle.tN "SUPPRESSED_SENTINEL" Bundle.listD)).before args s = true)
    (lU : (Cond.laysStatic Bundle.tN "UNASSIGNED_STACK" Bundle.steD).before args s = true) (lN : (Cond.laysStatic Bundle.tN "SUPPRESSED_SENTINEL" Bundle.listD).before args s = true) : ∀ w ∈ L, w.before args s = true := by
  intro w hw
  by_cases e1 : w = .isRef (.static Bundle.tN "UNASSIGNED_STACK" Bundle.steD)
  · rw [e1]; exact hU
  · by_cases e2 : w = .isRef (.static Bundle.tN "SUPPRESSED_SENTINEL" Bundle.listD)
    · rw [e2]; exact hN
    · by_cases e3 : w = .laysStatic Bundle.tN "UNASSIGNED_STACK" Bundle.steD
      · rw [e3]; exact lU
      · by_cases e4 : w = .laysStatic Bundle.tN "SUPPRESSED_SENTINEL" Bundle.listD
        · rw [e4]; exact lN
        · exact h1 w (List.mem_filter.mpr ⟨hw, by unfold vx_no; rw [decide_eq_true e1, decide_eq_true e2, decide_eq_true e3, decide_eq_true e4]; rfl⟩)
/-- where a static field lies, its class's statics cell in H -/
def vx_L (C n d : String) (A : Nat → Prop) (U : State) (H : Heap) : Prop := ∃ (c : ClassId) (k : Class) (i : Nat) (f : Field) (a : Nat) (cell : Cell), U.vm.findClass C = some c ∧ U.fieldFound? C n d = some (c, k, i, f) ∧ f.isStatic = true ∧ k.statics = some a ∧ H[a]? = some cell ∧ cell.vm.isStatics = true ∧ cell.cls = c ∧ f.slot < cell.slots.size ∧ k.staticTypes[f.slot]? = some f.type ∧ ¬ A a
theorem vx_L.moved {C n d : String} {A : Nat → Prop} {u U : State} {H : Heap} (hvm : u.vm.Alike U.vm) (h : vx_L C n d A u H) : vx_L C n d A U H := by
  obtain ⟨c, k, i, f, a, cell, h1, h2, h3, h4, h5, h6, h7, h8, h9, h10⟩ := h
  obtain ⟨k', hi', he⟩ := State.fieldFound?_setVm hvm h2
  exact ⟨c, k', i, f, a, cell, by rw [hvm.findClass]; exact h1, hi', h3, by rw [he]; exact h4, h5, h6, h7, h8, by rw [he]; exact h9, h10⟩
theorem vx_L.kept {C n d : String} {A : Nat → Prop} {U : State} {H H1 : Heap} (h : vx_L C n d A U H) (hq : ∀ a : Nat, a < H.size → ¬ A a → H1[a]? = H[a]?) : vx_L C n d A U H1 := by
  obtain ⟨c, k, i, f, a, cell, h1, h2, h3, h4, h5, h6, h7, h8, h9, h10⟩ := h
  exact ⟨c, k, i, f, a, cell, h1, h2, h3, h4, by rw [hq a (Array.getElem?_eq_some_iff.mp h5).1 h10]; exact h5, h6, h7, h8, h9, h10⟩
theorem vx_L.narrow {C n d : String} {A B : Nat → Prop} {U : State} {H : Heap} (h : vx_L C n d A U H) (hAB : ∀ q, B q → A q) : vx_L C n d B U H := by
  obtain ⟨c, k, i, f, a, cell, h1, h2, h3, h4, h5, h6, h7, h8, h9, h10⟩ := h
  exact ⟨c, k, i, f, a, cell, h1, h2, h3, h4, h5, h6, h7, h8, h9, fun z => h10 (hAB _ z)⟩
theorem vx_L.word {C n d : String} {A : Nat → Prop} {s : State} {args : Array Value} (h : vx_L C n d A s s.heap) : (Cond.laysStatic C n d).before args s = true := by
  obtain ⟨c, k, i, f, a, cell, h1, h2, h3, h4, h5, h6, h7, h8, h9, -⟩ := h
  show (Cond.laysStatic C n d).holds args s none s [] = true
  exact Cond.laysStatic_of h1 h2 h3 h4 h5 h6 h7 h8 h9
/-- .. and what it holds: null or some reference -/
def vx_Zq (C n d : String) (A : Nat → Prop) (U : State) (H : Heap) : Prop := va_Zq C n d A U H ∧ vx_L C n d A U H
theorem vx_Zq.moved {C n d : String} {A : Nat → Prop} {u U : State} {H : Heap} (hvm : u.vm.Alike U.vm) (h : vx_Zq C n d A u H) : vx_Zq C n d A U H := ⟨va_Zq.moved hvm h.1, vx_L.moved hvm h.2⟩
theorem vx_Zq.kept {C n d : String} {A : Nat → Prop} {U : State} {H H1 : Heap} (h : vx_Zq C n d A U H) (hq : ∀ a : Nat, a < H.size → ¬ A a → H1[a]? = H[a]?) : vx_Zq C n d A U H1 := ⟨va_Zq.kept h.1 hq, vx_L.kept h.2 hq⟩
theorem vx_Zq.narrow {C n d : String} {A B : Nat → Prop} {U : State} {H : Heap} (h : vx_Zq C n d A U H) (hAB : ∀ q, B q → A q) : vx_Zq C n d B U H := ⟨va_Zq.narrow h.1 hAB, vx_L.narrow h.2 hAB⟩
theorem vx_Zqof {args : Array Value} {s : State} {C n d : String} {A : Nat → Prop} (hl : (Cond.laysStatic C n d).before args s = true) (hini : (Cond.initialized C).before args s = true) (h : (Cond.isRef (.static C n d)).before args s = true) (hA : ∀ a : Nat, a < s.heap.size → ¬ A a) : vx_Zq C n d A s s.heap := by
  refine ⟨va_Zqof hl hini h hA, ?_⟩
  obtain ⟨c, k, i, f, a, cell, h1, h2, h3, h4, h5, h6, h7, h8, h9⟩ := Cond.laysStatic_spec hl
  exact ⟨c, k, i, f, a, cell, h1, h2, h3, h4, h5, h6, h7, h8, h9, hA a (Array.getElem?_eq_some_iff.mp h5).1⟩
theorem vx_isRef {C n d : String} {v : Value} {A : Nat → Prop} {s : State} {args : Array Value} (h : va_Z C n d v A s s.heap) (hv : v.isRef = true) : (Cond.isRef (.static C n d)).before args s = true := by
  obtain ⟨cf, kf, fi, f, a, cell, h1, h2, h3, h4, h5, h6, h7, -⟩ := h
  have he : (Term.static C n d).eval args s none [] s = some v := by
    simp [Term.eval, State.fieldNamed?, h1, h2, h4, h5, h6, h7]
  simp only [Cond.before, Cond.holds, Cond.value, he]
  cases v <;> simp_all [Value.isRef]
theorem vx_isRefq {C n d : String} {A : Nat → Prop} {s : State} {args : Array Value} (h : va_Zq C n d A s s.heap) : (Cond.isRef (.static C n d)).before args s = true := by
  rcases h with h | ⟨t, h⟩
  · exact vx_isRef h rfl
  · exact vx_isRef h rfl
/-- the same frame, seen from here: as if the method were called anew in this heap -/
theorem vx_rebase {T : State} (X : Stand p l e R s m args below meth c T locs cells slots) {R' : Room} (hf : R'.frames ≤ R.frames) (hl : R'.locals ≤ R.locals) (hc : cells + R'.cells ≤ R.cells) (hs : slots + R'.slots ≤ R.slots) :
    Stand p l e R' ((T.setVm s.vm).setFrames (.invoking m args :: below)) m args below meth c T [] 0 0 := by
  have htop : (T.setVm s.vm).topJava?.isSome := X.here.top
  have hF : ((T.setVm s.vm).setFrames (.invoking m args :: below)).frames = .invoking m args :: below := State.frames_setFrames _ (State.cur_lt_of_top htop)
  obtain ⟨g₀, hg0⟩ := Option.isSome_iff_exists.mp htop
  obtain ⟨r, hr⟩ := State.topJava?_eq_some.mp hg0
  have hl9 : e.platform.stackLimits (T.setVm s.vm).me = e.platform.stackLimits s.me := X.limits
  have hb9 : (T.setVm s.vm).me.stackBytes = s.me.stackBytes := X.bytes
  refine ⟨X.admits, X.cas, X.clock, hF, ?_, X.hears, X.method, X.code, X.here, X.tail, X.warmed, ?_, ?_, ?_⟩
  · have h := X.room
    have hU : ((T.setVm s.vm).setFrames (.invoking m args :: below)).localsInUse = s.localsInUse := by
      rw [State.localsInUse_invoking hF (meth := meth) (c := c) X.method X.code, State.localsInUse_invoking X.frames X.method X.code]
    simp only [State.hasRoom, Bool.and_eq_true, decide_eq_true_eq] at h ⊢
    obtain ⟨⟨⟨⟨h1, h2, h3, h4, h5, h6⟩, h7⟩, h8⟩, h9⟩ := h
    rw [X.frames, List.length_cons] at h2 h3
    have q1 := X.heapSize
    have q2 := X.used
    simp only [hF, hU, List.length_cons, State.stackLimits_setFrames, State.stackBytes_setFrames, hl9, hb9]
    refine ⟨⟨⟨⟨by omega, by omega, by omega, by omega, by omega, h6⟩, ?_⟩, ?_⟩, X.book⟩
    · show T.heap.size + R'.cells ≤ e.platform.maxCells
      omega
    · show T.slotsUsed + R'.slots ≤ e.platform.maxSlots
      omega
  · rw [State.stackLimits_setFrames]; rfl
  · rw [State.stackBytes_setFrames]; rfl
  · refine ⟨?_, Nat.le_refl _, Nat.le_refl _, ?_, ?_, fun a c9 h9 => ⟨c9, h9, rfl, rfl, fun _ _ => rfl⟩⟩
    · obtain ⟨t, ht, -⟩ := State.frames_cons hr
      show T.setVm s.vm = { ((T.setVm s.vm).setFrames (.invoking m args :: below)).setFrames (T.setVm s.vm).frames with heap := T.heap, slotsUsed := T.slotsUsed }
      rw [State.setFrames_setFrames, State.setFrames_self ht]
      rfl
    · show T.slotsUsed = T.slotsUsed + ((T.heap.toList.drop T.heap.size).map (·.slots.size)).sum
      rw [List.drop_eq_nil_of_le (Nat.le_of_eq Array.length_toList)]
      rfl
    · show ((T.heap.toList.drop T.heap.size).map (·.slots.size)).sum ≤ 0
      rw [List.drop_eq_nil_of_le (Nat.le_of_eq Array.length_toList)]
      exact Nat.le_refl _
/-- 'throw new E()': new; dup; invokespecial; athrow -/
theorem vx_throw0 {cc : ByteArray} {pc : Nat} (hexec : p.tables.exec = Jvm.exec) (hb : c.code = cc) (hl : l.stackTraces = false) {own cls : String} {names : List String} {ik ic mc ms : Nat} {A : Nat → Prop}
    (hown : s.vm.findClass own = some m.cls) (hcls : Bundle.fit cls = true) (hnames : ∀ n ∈ names, Bundle.fit n = true)
    (hk : (Cond.classLink own ik cls).before args s = true) (hini : (Cond.initialized cls).before args s = true) (hat : ∀ w ∈ vx_at0 own ic cls names, w.before args s = true)
    (hgood : ∀ w ∈ Cond.classLink own ik cls :: Cond.initialized cls :: vx_at0 own ic cls names, vx_ot w = true)
    (hU : vx_Zq Bundle.tN "UNASSIGNED_STACK" Bundle.steD A s s.heap) (hN : vx_Zq Bundle.tN "SUPPRESSED_SENTINEL" Bundle.listD A s s.heap) (hS : va_S A s.heap H locs) (hsize : ls.size = c.maxLocals)
    (d0 : decode cc pc = .ok (.new ik, 3)) (d3 : decode cc (pc + 3) = .ok (.dup, 1)) (d4 : decode cc (pc + 4) = .ok (.invokespecial ic, 3)) (d7 : decode cc (pc + 7) = .ok (.athrow, 1))
    (hout : ∀ x ∈ c.exceptionTable.toList, covers x (pc + 7) = false)
    (hRframes : names.length + 3 < R.frames) (hRlocals : (rest.map fun v => v.category).sum + (13 * (names.length + 1) + 42) ≤ R.locals) (hRcells : cells + 1 ≤ R.cells) (hRslots : slots + 6 ≤ R.slots) (hlocks : meth.locks = false)
    (hx : ∀ t : State, s.vm.Alike t.vm → H.size ≤ t.heap.size → (∀ q : Nat, q < H.size → t.heap[q]? = H[q]?) → XC cls s t)
    (hf : ∀ z ∈ locs, free z.base) (hc : cells + 1 ≤ mc) (hs : slots + 6 ≤ ms) :
    W p l e R s m args below meth c H locs cells slots (vx_MQ below Qc XC args s mc ms free) (F0 m pc ls rest) := by
  intro T hT X
  have htr : e.platform.stackTraces = false := (show e.platform.stackTraces = l.stackTraces by rw [X.admits.platform]).trans hl
  have Y := vx_rebase X (R' := { frames := R.frames, locals := R.locals, cells := 1, slots := 6 }) (Nat.le_refl _) (Nat.le_refl _) hRcells hRslots
  obtain ⟨s', hA⟩ : ∃ z, z = (T.setVm s.vm).setFrames (.invoking m args :: below) := ⟨_, rfl⟩
  rw [← hA] at Y
  have hvm : s'.vm = s.vm := by rw [hA]; rfl
  have hhp : s'.heap = H := by rw [hA]; exact hT
  have hW0 : s.WarmedH s'.vm := by rw [hvm]; exact State.WarmedH.refl s
  have hat' : ∀ w ∈ vx_at0 own ic cls names, w.before args s' = true := fun w hw => vx_ot_at hW0 hvm.symm (hgood w (List.mem_cons_of_mem _ (List.mem_cons_of_mem _ hw))) (hat w hw)
  have hk' : (Cond.classLink own ik cls).before args s' = true := vx_ot_at hW0 hvm.symm (hgood _ List.mem_cons_self) hk
  have hini' : (Cond.initialized cls).before args s' = true := vx_ot_at hW0 hvm.symm (hgood _ (List.mem_cons_of_mem _ List.mem_cons_self)) hini
  have hU' : vx_Zq Bundle.tN "UNASSIGNED_STACK" Bundle.steD A s' s'.heap := by rw [hhp]; exact vx_Zq.moved hW0.alike (hU.kept hS.2.1)
  have hN' : vx_Zq Bundle.tN "SUPPRESSED_SENTINEL" Bundle.listD A s' s'.heap := by rw [hhp]; exact vx_Zq.moved hW0.alike (hN.kept hS.2.1)
  have h : ∀ w ∈ Bundle.ownAtoms0 own ic cls names, w.before args s' = true := vx_own hat' (vx_isRefq hU'.1) (vx_isRefq hN'.1) hU'.2.word hN'.2.word
  have hown' : s'.vm.findClass own = some m.cls := by rw [hvm]; exact hown
  have hins : (Cond.instantiable cls 6).before args s' = true := h _ (by simp [Bundle.ownAtoms0])
  obtain ⟨vm₁, cX, kX, hfX, hkX, -, -, X₁, st1⟩ := Y.newCold hexec (own := own) (C := cls) (index := ik) (n := 6) hown' hk' hins hini'
    (g := F0 m pc ls rest) rfl (by rw [hb]; exact d0) (Nat.le_refl _) (Nat.le_refl _)
  generalize hT1 : (T.setVm vm₁).pushCell { cls := cX, slots := kX.instanceTypes.map defaultValue, vm := .none } = T1 at X₁ st1
  have hcat : (Value.ref T.heap.size).category = 1 := rfl
  have hcellA : T1.heap[T.heap.size]? = some (freshCell cX kX) := by rw [← hT1]; exact State.heap_pushCell_size _ _
  have d3' : decode c.code (pc + 3) = .ok (.dup, 1) := by rw [hb]; exact d3
  obtain ⟨U, hsteps, hrun, hend, hW, hsame, ce, hce, hO⟩ := X₁.ctorThrow0 hexec htr (own := own) (cls := cls) (names := names) (ic := ic) hown' hcls hnames h (fun x hx => nomatch hx) hfX hkX hcellA (by rw [hhp, hT]; exact Nat.le_refl _)
    (g := { method := m, pc := pc + 4, locals := ls, stack := .ref T.heap.size :: .ref T.heap.size :: rest, locked := none }) rfl hsize rfl rfl (rest := rest) rfl
    (by rw [hb]; exact d4) (by rw [hb]; exact d7) hout hRframes (by simp only [List.map_cons, List.sum_cons, hcat]; omega) hlocks
  obtain ⟨f1, f2⟩ := vx_frame hsame
  rw [hhp] at f1 f2
  have hWs : s.WarmedH U.vm := State.WarmedH.trans hW0 hW
  have hcl : s.vm.findClass cls = some ce.cls := by
    have h9 := hO.cls
    rw [hvm] at h9
    exact h9
  have hall : s.sameButNew ({ U with vm := s.vm } : State) locs mc ms := by
    subst hA
    obtain ⟨e1, e2⟩ := hsame
    rw [State.setFrames_setFrames] at e1
    have h2 : (T.setVm s.vm).sameButNew ({ U with vm := s.vm } : State) [] (0 + 1) (0 + 6) := ⟨e1, e2⟩
    have h3 := X.same.trans h2
    rw [List.append_nil] at h3
    exact h3.mono hc hs
  refine ⟨U, ?_, .threw T.heap.size, hrun, hend, Or.inr ⟨T.heap.size, rfl, cls, ce, locs, hx U hWs.alike f1 (fun q hq => f2 q hq (fun z hz => nomatch hz)), hce, hO.vm, hcl, hWs, hall, hf⟩⟩
  refine st1 _ ?_
  show Steps p.tables e below (T1.setTop { method := m, pc := pc + 3, locals := ls, stack := .ref T.heap.size :: rest, locked := none }) _
  jvm_step X₁.here [X₁.here.top, hexec, d3', Value.category]
  exact hsteps
/-- 'throw new E("text")': new; dup; ldc; invokespecial; athrow -/
theorem vx_throwS {cc : ByteArray} {pc : Nat} (hexec : p.tables.exec = Jvm.exec) (hb : c.code = cc) (hl : l.stackTraces = false) {own cls text : String} {names : List String} {ik is ic mc ms sa : Nat} {A : Nat → Prop}
    (hown : s.vm.findClass own = some m.cls) (hcls : Bundle.fit cls = true) (hnames : ∀ n ∈ names, Bundle.fit n = true)
    (hk : (Cond.classLink own ik cls).before args s = true) (hini : (Cond.initialized cls).before args s = true) (hstr : vk_R own is text sa s) (hat : ∀ w ∈ vx_atS own ic cls names, w.before args s = true)
    (hgood : ∀ w ∈ Cond.classLink own ik cls :: Cond.initialized cls :: vx_atS own ic cls names, vx_ot w = true)
    (hU : vx_Zq Bundle.tN "UNASSIGNED_STACK" Bundle.steD A s s.heap) (hN : vx_Zq Bundle.tN "SUPPRESSED_SENTINEL" Bundle.listD A s s.heap) (hS : va_S A s.heap H locs) (hsize : ls.size = c.maxLocals)
    (d0 : decode cc pc = .ok (.new ik, 3)) (d3 : decode cc (pc + 3) = .ok (.dup, 1)) (d4 : decode cc (pc + 4) = .ok (.ldc is, 2)) (d6 : decode cc (pc + 6) = .ok (.invokespecial ic, 3)) (d9 : decode cc (pc + 9) = .ok (.athrow, 1))
    (hout : ∀ x ∈ c.exceptionTable.toList, covers x (pc + 9) = false)
    (hRframes : names.length + 3 < R.frames) (hRlocals : (rest.map fun v => v.category).sum + (13 * (names.length + 1) + 43) ≤ R.locals) (hRcells : cells + 1 ≤ R.cells) (hRslots : slots + 6 ≤ R.slots) (hlocks : meth.locks = false)
    (hx : ∀ t : State, s.vm.Alike t.vm → H.size ≤ t.heap.size → (∀ q : Nat, q < H.size → t.heap[q]? = H[q]?) → XC cls s t)
    (hf : ∀ z ∈ locs, free z.base) (hc : cells + 1 ≤ mc) (hs : slots + 6 ≤ ms) :
    W p l e R s m args below meth c H locs cells slots (vx_MQ below Qc XC args s mc ms free) (F0 m pc ls rest) := by
  intro T hT X
  have htr : e.platform.stackTraces = false := (show e.platform.stackTraces = l.stackTraces by rw [X.admits.platform]).trans hl
  have Y := vx_rebase X (R' := { frames := R.frames, locals := R.locals, cells := 1, slots := 6 }) (Nat.le_refl _) (Nat.le_refl _) hRcells hRslots
  obtain ⟨s', hA⟩ : ∃ z, z = (T.setVm s.vm).setFrames (.invoking m args :: below) := ⟨_, rfl⟩
  rw [← hA] at Y
  have hvm : s'.vm = s.vm := by rw [hA]; rfl
  have hhp : s'.heap = H := by rw [hA]; exact hT
  have hW0 : s.WarmedH s'.vm := by rw [hvm]; exact State.WarmedH.refl s
  have hat' : ∀ w ∈ vx_atS own ic cls names, w.before args s' = true := fun w hw => vx_ot_at hW0 hvm.symm (hgood w (List.mem_cons_of_mem _ (List.mem_cons_of_mem _ hw))) (hat w hw)
  have hk' : (Cond.classLink own ik cls).before args s' = true := vx_ot_at hW0 hvm.symm (hgood _ List.mem_cons_self) hk
  have hini' : (Cond.initialized cls).before args s' = true := vx_ot_at hW0 hvm.symm (hgood _ (List.mem_cons_of_mem _ List.mem_cons_self)) hini
  have hU' : vx_Zq Bundle.tN "UNASSIGNED_STACK" Bundle.steD A s' s'.heap := by rw [hhp]; exact vx_Zq.moved hW0.alike (hU.kept hS.2.1)
  have hN' : vx_Zq Bundle.tN "SUPPRESSED_SENTINEL" Bundle.listD A s' s'.heap := by rw [hhp]; exact vx_Zq.moved hW0.alike (hN.kept hS.2.1)
  have h : ∀ w ∈ Bundle.ownAtoms own ic cls names, w.before args s' = true := vx_own hat' (vx_isRefq hU'.1) (vx_isRefq hN'.1) hU'.2.word hN'.2.word
  have hown' : s'.vm.findClass own = some m.cls := by rw [hvm]; exact hown
  have hins : (Cond.instantiable cls 6).before args s' = true := h _ (by simp [Bundle.ownAtoms])
  obtain ⟨vm₁, cX, kX, hfX, hkX, -, -, X₁, st1⟩ := Y.newCold hexec (own := own) (C := cls) (index := ik) (n := 6) hown' hk' hins hini'
    (g := F0 m pc ls rest) rfl (by rw [hb]; exact d0) (Nat.le_refl _) (Nat.le_refl _)
  generalize hT1 : (T.setVm vm₁).pushCell { cls := cX, slots := kX.instanceTypes.map defaultValue, vm := .none } = T1 at X₁ st1
  have hcat : (Value.ref T.heap.size).category = 1 := rfl
  have hcellA : T1.heap[T.heap.size]? = some (freshCell cX kX) := by rw [← hT1]; exact State.heap_pushCell_size _ _
  have d3' : decode c.code (pc + 3) = .ok (.dup, 1) := by rw [hb]; exact d3
  have d4' : decode c.code (pc + 4) = .ok (.ldc is, 2) := by rw [hb]; exact d4
  have hstr' : vk_R own is text sa s' := vk_R.warm hW0 hstr
  obtain ⟨U, hsteps, hrun, hend, hW, hsame, ce, hce, hO⟩ := X₁.ctorThrowS hexec htr (own := own) (cls := cls) (names := names) (ic := ic) hown' hcls hnames h (fun x hx => nomatch hx) hfX hkX hcellA (by rw [hhp, hT]; exact Nat.le_refl _) (msg := .ref sa) rfl
    (g := { method := m, pc := pc + 6, locals := ls, stack := .ref sa :: .ref T.heap.size :: .ref T.heap.size :: rest, locked := none }) rfl hsize rfl rfl (rest := rest) rfl
    (by rw [hb]; exact d6) (by rw [hb]; exact d9) hout hRframes (by simp only [List.map_cons, List.sum_cons, hcat]; omega) hlocks
  obtain ⟨f1, f2⟩ := vx_frame hsame
  rw [hhp] at f1 f2
  have hWs : s.WarmedH U.vm := State.WarmedH.trans hW0 hW
  have hcl : s.vm.findClass cls = some ce.cls := by
    have h9 := hO.cls
    rw [hvm] at h9
    exact h9
  have hall : s.sameButNew ({ U with vm := s.vm } : State) locs mc ms := by
    subst hA
    obtain ⟨e1, e2⟩ := hsame
    rw [State.setFrames_setFrames] at e1
    have h2 : (T.setVm s.vm).sameButNew ({ U with vm := s.vm } : State) [] (0 + 1) (0 + 6) := ⟨e1, e2⟩
    have h3 := X.same.trans h2
    rw [List.append_nil] at h3
    exact h3.mono hc hs
  refine ⟨U, ?_, .threw T.heap.size, hrun, hend, Or.inr ⟨T.heap.size, rfl, cls, ce, locs, hx U hWs.alike f1 (fun q hq => f2 q hq (fun z hz => nomatch hz)), hce, hO.vm, hcl, hWs, hall, hf⟩⟩
  refine st1 _ ?_
  show Steps p.tables e below (T1.setTop { method := m, pc := pc + 3, locals := ls, stack := .ref T.heap.size :: rest, locked := none }) _
  jvm_step X₁.here [X₁.here.top, hexec, d3', Value.category]
  exact X₁.ldcString hexec (own := own) (text := text) (index := is) (a := sa) hown' hstr'.1 hstr'.2
    (g := { method := m, pc := pc + 4, locals := ls, stack := .ref T.heap.size :: .ref T.heap.size :: rest, locked := none }) rfl d4' _ hsteps
/-- 'throw new E("text")', the text by a wide index -/
theorem vx_throwSW {cc : ByteArray} {pc : Nat} (hexec : p.tables.exec = Jvm.exec) (hb : c.code = cc) (hl : l.stackTraces = false) {own cls text : String} {names : List String} {ik is ic mc ms sa : Nat} {A : Nat → Prop}
    (hown : s.vm.findClass own = some m.cls) (hcls : Bundle.fit cls = true) (hnames : ∀ n ∈ names, Bundle.fit n = true)
    (hk : (Cond.classLink own ik cls).before args s = true) (hini : (Cond.initialized cls).before args s = true) (hstr : vk_R own is text sa s) (hat : ∀ w ∈ vx_atS own ic cls names, w.before args s = true)
    (hgood : ∀ w ∈ Cond.classLink own ik cls :: Cond.initialized cls :: vx_atS own ic cls names, vx_ot w = true)
    (hU : vx_Zq Bundle.tN "UNASSIGNED_STACK" Bundle.steD A s s.heap) (hN : vx_Zq Bundle.tN "SUPPRESSED_SENTINEL" Bundle.listD A s s.heap) (hS : va_S A s.heap H locs) (hsize : ls.size = c.maxLocals)
    (d0 : decode cc pc = .ok (.new ik, 3)) (d3 : decode cc (pc + 3) = .ok (.dup, 1)) (d4 : decode cc (pc + 4) = .ok (.ldc_w is, 3)) (d7 : decode cc (pc + 7) = .ok (.invokespecial ic, 3)) (d10 : decode cc (pc + 10) = .ok (.athrow, 1))
    (hout : ∀ x ∈ c.exceptionTable.toList, covers x (pc + 10) = false)
    (hRframes : names.length + 3 < R.frames) (hRlocals : (rest.map fun v => v.category).sum + (13 * (names.length + 1) + 43) ≤ R.locals) (hRcells : cells + 1 ≤ R.cells) (hRslots : slots + 6 ≤ R.slots) (hlocks : meth.locks = false)
    (hx : ∀ t : State, s.vm.Alike t.vm → H.size ≤ t.heap.size → (∀ q : Nat, q < H.size → t.heap[q]? = H[q]?) → XC cls s t)
    (hf : ∀ z ∈ locs, free z.base) (hc : cells + 1 ≤ mc) (hs : slots + 6 ≤ ms) :
    W p l e R s m args below meth c H locs cells slots (vx_MQ below Qc XC args s mc ms free) (F0 m pc ls rest) := by
  intro T hT X
  have htr : e.platform.stackTraces = false := (show e.platform.stackTraces = l.stackTraces by rw [X.admits.platform]).trans hl
  have Y := vx_rebase X (R' := { frames := R.frames, locals := R.locals, cells := 1, slots := 6 }) (Nat.le_refl _) (Nat.le_refl _) hRcells hRslots
  obtain ⟨s', hA⟩ : ∃ z, z = (T.setVm s.vm).setFrames (.invoking m args :: below) := ⟨_, rfl⟩
  rw [← hA] at Y
  have hvm : s'.vm = s.vm := by rw [hA]; rfl
  have hhp : s'.heap = H := by rw [hA]; exact hT
  have hW0 : s.WarmedH s'.vm := by rw [hvm]; exact State.WarmedH.refl s
  have hat' : ∀ w ∈ vx_atS own ic cls names, w.before args s' = true := fun w hw => vx_ot_at hW0 hvm.symm (hgood w (List.mem_cons_of_mem _ (List.mem_cons_of_mem _ hw))) (hat w hw)
  have hk' : (Cond.classLink own ik cls).before args s' = true := vx_ot_at hW0 hvm.symm (hgood _ List.mem_cons_self) hk
  have hini' : (Cond.initialized cls).before args s' = true := vx_ot_at hW0 hvm.symm (hgood _ (List.mem_cons_of_mem _ List.mem_cons_self)) hini
  have hU' : vx_Zq Bundle.tN "UNASSIGNED_STACK" Bundle.steD A s' s'.heap := by rw [hhp]; exact vx_Zq.moved hW0.alike (hU.kept hS.2.1)
  have hN' : vx_Zq Bundle.tN "SUPPRESSED_SENTINEL" Bundle.listD A s' s'.heap := by rw [hhp]; exact vx_Zq.moved hW0.alike (hN.kept hS.2.1)
  have h : ∀ w ∈ Bundle.ownAtoms own ic cls names, w.before args s' = true := vx_own hat' (vx_isRefq hU'.1) (vx_isRefq hN'.1) hU'.2.word hN'.2.word
  have hown' : s'.vm.findClass own = some m.cls := by rw [hvm]; exact hown
  have hins : (Cond.instantiable cls 6).before args s' = true := h _ (by simp [Bundle.ownAtoms])
  obtain ⟨vm₁, cX, kX, hfX, hkX, -, -, X₁, st1⟩ := Y.newCold hexec (own := own) (C := cls) (index := ik) (n := 6) hown' hk' hins hini'
    (g := F0 m pc ls rest) rfl (by rw [hb]; exact d0) (Nat.le_refl _) (Nat.le_refl _)
  generalize hT1 : (T.setVm vm₁).pushCell { cls := cX, slots := kX.instanceTypes.map defaultValue, vm := .none } = T1 at X₁ st1
  have hcat : (Value.ref T.heap.size).category = 1 := rfl
  have hcellA : T1.heap[T.heap.size]? = some (freshCell cX kX) := by rw [← hT1]; exact State.heap_pushCell_size _ _
  have d3' : decode c.code (pc + 3) = .ok (.dup, 1) := by rw [hb]; exact d3
  have d4' : decode c.code (pc + 4) = .ok (.ldc_w is, 3) := by rw [hb]; exact d4
  have hstr' : vk_R own is text sa s' := vk_R.warm hW0 hstr
  obtain ⟨U, hsteps, hrun, hend, hW, hsame, ce, hce, hO⟩ := X₁.ctorThrowS hexec htr (own := own) (cls := cls) (names := names) (ic := ic) hown' hcls hnames h (fun x hx => nomatch hx) hfX hkX hcellA (by rw [hhp, hT]; exact Nat.le_refl _) (msg := .ref sa) rfl
    (g := { method := m, pc := pc + 7, locals := ls, stack := .ref sa :: .ref T.heap.size :: .ref T.heap.size :: rest, locked := none }) rfl hsize rfl rfl (rest := rest) rfl
    (by rw [hb]; exact d7) (by rw [hb]; exact d10) hout hRframes (by simp only [List.map_cons, List.sum_cons, hcat]; omega) hlocks
  obtain ⟨f1, f2⟩ := vx_frame hsame
  rw [hhp] at f1 f2
  have hWs : s.WarmedH U.vm := State.WarmedH.trans hW0 hW
  have hcl : s.vm.findClass cls = some ce.cls := by
    have h9 := hO.cls
    rw [hvm] at h9
    exact h9
  have hall : s.sameButNew ({ U with vm := s.vm } : State) locs mc ms := by
    subst hA
    obtain ⟨e1, e2⟩ := hsame
    rw [State.setFrames_setFrames] at e1
    have h2 : (T.setVm s.vm).sameButNew ({ U with vm := s.vm } : State) [] (0 + 1) (0 + 6) := ⟨e1, e2⟩
    have h3 := X.same.trans h2
    rw [List.append_nil] at h3
    exact h3.mono hc hs
  refine ⟨U, ?_, .threw T.heap.size, hrun, hend, Or.inr ⟨T.heap.size, rfl, cls, ce, locs, hx U hWs.alike f1 (fun q hq => f2 q hq (fun z hz => nomatch hz)), hce, hO.vm, hcl, hWs, hall, hf⟩⟩
  refine st1 _ ?_
  show Steps p.tables e below (T1.setTop { method := m, pc := pc + 3, locals := ls, stack := .ref T.heap.size :: rest, locked := none }) _
  jvm_step X₁.here [X₁.here.top, hexec, d3', Value.category]
  exact X₁.ldcStringW hexec (own := own) (text := text) (index := is) (a := sa) hown' hstr'.1 hstr'.2
    (g := { method := m, pc := pc + 4, locals := ls, stack := .ref T.heap.size :: .ref T.heap.size :: rest, locked := none }) rfl d4' _ hsteps
end Ends
section Bodies
variable {l : Launch}
theorem vx_ofW {y : MethodName} {ws ws' : List Cond} {rm : Room} {Pc : Array Value → State → Prop} {Qc : Array Value → State → Outcome → State → Prop} {XC : String → State → State → Prop} {mc ms : Nat} {free : Addr → Prop} {cc : ByteArray} {maxL : Nat} {ret : Option FieldType}
    (hy : plainName y.cls = true) (hw : ws = Cond.code y cc maxL ret :: ws')
    (body : ∀ p e s m args below meth c s₁, BodyLoose p l y (headSpec ws rm) cc maxL ret e s m args below meth c s₁ → c.maxLocals = maxL → (∀ x ∈ c.exceptionTable.toList, False) → Pc args s →
      W p l e (headSpec ws rm).room s m args below meth c s.heap [] 0 0 (vx_MQ below Qc XC args s mc ms free) (entryFrame m args maxL)) : vx_Met l y ws rm Pc Qc XC mc ms free := by
  refine MetFree.of_bodyS (code := cc) (maxLocals := maxL) (ret := ret) hy ?_ ?_
  · intro args s m h hn
    obtain ⟨meth, c, h1, h2, h3, h4, h5, h6, -, -⟩ := Cond.code_spec hn (atoms_spec (ws := ws) h _ (by rw [hw]; exact List.mem_cons_self))
    exact ⟨meth, c, h1, h2, h3, h4, h5, h6⟩
  · intro p e s m args below meth c s₁ B hml hP _
    have hh0 : s₁.heap = s.heap := by rw [B.state]; rfl
    have ht : ∀ x ∈ c.exceptionTable.toList, False := by
      obtain ⟨meth9, c9, h1, h2, -, -, -, -, h7, -⟩ := Cond.code_spec B.named (atoms_spec (ws := ws) B.pre _ (by rw [hw]; exact List.mem_cons_self))
      cases Option.some.inj (h1.symm.trans B.method)
      cases Option.some.inj (h2.symm.trans (Stand.of_body B).code)
      intro x hx
      rw [Array.isEmpty_iff.mp h7] at hx
      cases hx
    obtain ⟨t, a1, o, b1, b2, b3⟩ := body p e s m args below meth c s₁ B hml ht hP s₁ hh0 (Stand.of_body B)
    exact ⟨t, o, a1, b1, b2, b3⟩
/-- the table of a body with handlers -/
theorem vx_table {p : Program} {x y : MethodName} {S : Spec} {cc bytes : ByteArray} {maxL maxL' : Nat} {ret ret' : Option FieldType} {e : Env} {s s₁ : State} {m : MethodId} {args : Array Value} {below : List Frame} {meth : Method} {c : Code} {hh : List (Nat × Nat × Nat × Nat)}
    (B : BodyLoose p l y S cc maxL ret e s m args below meth c s₁) (h : (Cond.codeWith y bytes maxL' ret' hh).before args s = true) : c.exceptionTable.toList = tableOf hh := by
  obtain ⟨m9, meth9, c9, hn9, h1, h2, -, -, h6, -⟩ := Cond.codeWith_spec h
  cases Option.some.inj (hn9.symm.trans B.named)
  cases Option.some.inj (h1.symm.trans B.method)
  cases Option.some.inj (h2.symm.trans (Stand.of_body B).code)
  rw [← h6, table_eq]
end Bodies
end VXA
/-! ===== END ===== -/
/-! ===== BEGIN a static call of a method with an exception table ===== -/
section VXS
variable {p : Program} {l : Launch} {e : Env} {R : Room} {s : State} {m : MethodId} {args : Array Value} {below : List Frame} {meth : Method} {c : Code} {T : State} {H : Heap} {locs : List Loc} {cells slots : Nat}
abbrev vx_CSW (R : Room) (s : State) (args : Array Value) (own : String) (index : Nat) (y : MethodName) (bytes : ByteArray) (maxL : Nat) (ret : Option FieldType) (hh : List (Nat × Nat × Nat × Nat)) (ws : List Cond) (rm : Room) (mc ms n : Nat) : Prop :=
  (rm.cells = mc ∧ rm.slots = ms ∧ rm.frames + 1 ≤ R.frames ∧ 8 + (maxL + 11) + rm.locals ≤ R.locals ∧ (∀ w ∈ ws, ∀ (a' : Array Value) (U : State), s.WarmedH U.vm → w.before a' U = true) ∧ Cond.codeWith y bytes maxL ret hh ∈ ws) ∧
  (Cond.codeWith y bytes maxL ret hh).before args s = true ∧ (Cond.initialized y.cls).before args s = true ∧ (y.cls ≠ "java/lang/invoke/MethodHandle" ∧ y.cls ≠ "java/lang/invoke/VarHandle") ∧
  (∀ sig, parseMethodDescriptor y.desc = some sig → n = sig.parameters.length) ∧ (Cond.methodLink own index y).before args s = true ∧ (Cond.static y).before args s = true
theorem vx_cwSW {own : String} {index maxL mc ms : Nat} {y : MethodName} {bytes : ByteArray} {ret : Option FieldType} {hh : List (Nat × Nat × Nat × Nat)} {Ts ws ws' : List Cond} {rm : Room} (n : Nat) (ht : ∀ w ∈ Ts, w.before args s = true) (hT : GoodIn Ts (va_wsS own index y ws)) (hw : ws = Cond.codeWith y bytes maxL ret hh :: ws') (hrc : rm.cells = mc) (hrs : rm.slots = ms)
    (hd : y.cls ≠ "java/lang/invoke/MethodHandle" ∧ y.cls ≠ "java/lang/invoke/VarHandle" ∧ (parseMethodDescriptor y.desc).map (fun d => d.parameters.length) = some n) (hR : rm.frames + 1 ≤ R.frames ∧ 8 + (maxL + 11) + rm.locals ≤ R.locals) :
    vx_CSW R s args own index y bytes maxL ret hh ws rm mc ms n := by
  have ok : ∀ w ∈ va_wsS own index y ws, w.before args s = true := fun w h => ht w (hT w h).1
  have hG : GoodIn Ts ws := fun w h => hT w (by unfold va_wsS; exact List.mem_append_right _ h)
  have hc : Cond.codeWith y bytes maxL ret hh ∈ ws := by rw [hw]; exact List.mem_cons_self
  refine ⟨⟨hrc, hrs, hR.1, hR.2, pay_in ht hG, hc⟩, ht _ (hG _ hc).1, ok _ (by simp [va_wsS]), ⟨hd.1, hd.2.1⟩, fun sig h => ?_, ok _ (by simp [va_wsS]), ok _ (by simp [va_wsS])⟩
  have h2 := hd.2.2
  rw [h] at h2
  exact (Option.some.inj h2).symm
theorem vx_callSW (X : Stand p l e R s m args below meth c T locs cells slots) (hexec : p.tables.exec = Jvm.exec) {own : String} {index : Nat} {y : MethodName} {bytes : ByteArray} {maxL : Nat} {ret : Option FieldType} {hh : List (Nat × Nat × Nat × Nat)}
    (hown : s.vm.findClass own = some m.cls) (hlink : (Cond.methodLink own index y).before args s = true) (hstat : (Cond.static y).before args s = true) (hinit : (Cond.initialized y.cls).before args s = true)
    (hcode : (Cond.codeWith y bytes maxL ret hh).before args s = true) (hy : y.cls ≠ "java/lang/invoke/MethodHandle" ∧ y.cls ≠ "java/lang/invoke/VarHandle")
    {W9 : Nat} {Pre : Pt → Array Value → Prop} {Post : Pt → Array Value → Option Value → Pt → Prop} (hK : Back l R p e below s args y 3 W9 Pre Post)
    {g : JFrame} (hg : g.method = m) (hsize : g.locals.size = c.maxLocals) {argsL rest : List Value} (hlen : ∀ sig, parseMethodDescriptor y.desc = some sig → argsL.length = sig.parameters.length)
    (hstack : g.stack = argsL.reverse ++ rest) (hW : 2 * g.monitorRoom + (rest.map fun v => v.category).sum ≤ W9) (hdg : decode c.code g.pc = .ok (.invokestatic index, 3))
    (hpre : ∀ vm₁, s.WarmedH vm₁ → Pre ⟨T.setVm vm₁, locs, cells, slots⟩ argsL.toArray) :
    ∃ (v : Option Value) (vm₁ : Vm) (B : Pt), s.WarmedH vm₁ ∧ Stand p l e R s m args below meth c B.U B.locs B.cells B.slots ∧ Post ⟨T.setVm vm₁, locs, cells, slots⟩ argsL.toArray v B ∧
      ∀ target, Steps p.tables e below (B.U.setTop { g with pc := g.pc + 3, stack := v.toList ++ rest }) target → Steps p.tables e below (T.setTop g) target := by
  obtain ⟨mk, methM, cM, hnamed, hmethM, -, -, -, -, -, -, hsigM⟩ := Cond.codeWith_spec hcode
  have hstatic : methM.isStatic = true := Cond.static_spec hnamed hmethM hstat
  obtain ⟨kP, hkP, -⟩ := className_of_methodNamed hnamed
  have hinitP : kP.init = .initialized := Cond.initialized_spec (findClass_of_methodNamed hnamed) hkP hinit
  obtain ⟨vm₁, X₁, hstep₁⟩ := X.invokestatic hexec hown hlink hnamed hmethM hstatic hkP hinitP hy (g := g) hg (argsL := argsL) (rest := rest) (hlen _ hsigM) hstack hdg
  obtain ⟨v, B, X', hpost, hsteps⟩ := hK m meth c ⟨T.setVm vm₁, locs, cells, slots⟩ { g with stack := rest } (.invokestatic index) mk argsL.toArray X₁ hg hsize hdg hW (X₁.named hnamed) (hpre vm₁ X₁.warmed)
  exact ⟨v, vm₁, B, X₁.warmed, X', hpost, fun target h => hstep₁ _ fun acts => by rw [doInvoke_state]; exact hsteps.trans h⟩
theorem vx_runSW {y : MethodName} {bytes cc : ByteArray} {maxL nL mc ms n index : Nat} {ret : Option FieldType} {hh : List (Nat × Nat × Nat × Nat)} {ws : List Cond} {rm : Room} {Pc : Array Value → State → Prop} {Qc : Array Value → State → Outcome → State → Prop} {free : Addr → Prop} {Ts : List Cond} {own : String} {As rest : List Value} {g : JFrame}
    (S : CallFix p m c cc nL s args Ts own) (hM : Met l y ws rm Pc Qc mc ms free) (cw : vx_CSW R s args own index y bytes maxL ret hh ws rm mc ms n) (hp : PreS s H Pc As)
    (hg : g.method = m) (hn : As.length = n) (hsize : g.locals.size = nL) (hstack : g.stack = As.reverse ++ rest) (hW : 2 * g.monitorRoom + (rest.map fun v => v.category).sum ≤ 8) (hdg : decode cc g.pc = .ok (.invokestatic index, 3)) (hf : cells + mc ≤ R.cells ∧ slots + ms ≤ R.slots) :
    va_Run p l e R s m args below meth c H locs cells slots mc ms g rest (Qc As.toArray) (free) := by
  obtain ⟨⟨hrc, hrs, hfr, hlo, hws, hcw⟩, hcode, hini, hy, hlen, hl, hstt⟩ := cw
  have hK : Back l R p e below s args y 3 8 (PreOf R mc ms Pc) (PostOf Qc mc ms free) := va_backW (hh := hh) (bytes := bytes) (maxL := maxL) (ret := ret) hM hp.1 hrc hrs hfr hlo hws hcw (fun a' U hW => word_at hW (Or.inl (by first | rfl | simp [Cond.onTables, Cond.keeps, Cond.steady])) hini)
  obtain ⟨hx, hb, hml, ho, -⟩ := S
  intro T hT X
  obtain ⟨v, vm₁, ⟨U', l2, c2, s2⟩, hW₁, X', ⟨g', mk, t, L, e1, e2, hq, h1, hL, h2, h3⟩, st⟩ := vx_callSW X hx (hh := hh) (bytes := bytes) (maxL := maxL) (ret := ret) ho hl hstt hini hcode hy hK hg (hsize.trans hml.symm) (argsL := As) (rest := rest) (fun sig h => hn.trans (hlen sig h)) hstack hW (by rw [hb]; exact hdg)
    (fun vm₁ hW₁ => ⟨hf.1, hf.2, hp.2 (T.setVm vm₁) hT hW₁⟩)
  dsimp only [Pt.U, Pt.locs, Pt.cells, Pt.slots] at X' e1 e2 h1 h2 h3 st
  subst h1; subst h2; subst h3
  exact ⟨v, (T.setVm vm₁).calling g' mk As.toArray, t, U', L, hT, X', hL, e1, e2, hq, st⟩
/-- not caught here, past rows that name other classes: it goes on to the caller -/
theorem vx_outP {p : Program} {l : Launch} {e : Env} {R : Room} {s : State} {m : MethodId} {args : Array Value} {below : List Frame} {meth : Method} {c : Code} {H : Heap} {locs : List Loc} {cells slots : Nat} {free : Addr → Prop} {ls : Array Slot} {rest : List Value} {Qc : Array Value → State → Outcome → State → Prop} {XC : String → State → State → Prop}
    {pc : Nat} {own E : String} {ce : Cell} {q : Addr} {mc ms : Nat} (hown : s.vm.findClass own = some m.cls) (hlocks : meth.locks = false)
    (hpass : ∀ z ∈ c.exceptionTable.toList, covers z pc = false ∨ (z.catchType ≠ 0 ∧ ∃ nm : String, (Cond.classLink own z.catchType nm).before args s = true ∧ va_Nc E nm s)) (hcell : H[q]? = some ce) (hv : ce.vm = .none) (hcl : s.vm.findClass E = some ce.cls)
    (hx : ∀ t : State, t.heap = H → s.vm.Alike t.vm → XC E s t) (hf : ∀ z ∈ locs, free z.base) (hc : cells ≤ mc) (hs : slots ≤ ms) :
    vx_W p l e R s m args below meth c H locs cells slots (vx_MQ below Qc XC args s mc ms free) (F0 m pc ls rest) q := by
  intro T hT X
  have hpl : e.platform.magicAccessors = ({} : Platform).magicAccessors := by rw [X.admits.platform]
  obtain ⟨vm', hW', X', st⟩ := X.outThrough hlocks q (g := F0 m pc ls rest) rfl rfl rfl (cell := ce) (by rw [hT]; exact hcell) (by rw [hv]; rfl)
    (by obtain ⟨k9, h9, -⟩ := Vm.findClass_spec hcl; exact ⟨k9, h9⟩) (fun z hz => by
      rcases hpass z hz with h | ⟨hz0, nm, hl1, hn1⟩
      · exact Or.inl h
      · obtain ⟨c6, hc6, hcl6⟩ := Cond.classLink_spec hown hl1 e.platform hpl
        obtain ⟨a8, b8, h1, h2, h3⟩ := hn1
        cases Option.some.inj (h1.symm.trans hcl)
        cases Option.some.inj (h2.symm.trans hc6)
        exact Or.inr ⟨hz0, _, hcl6, h3⟩)
  obtain ⟨g₀, hfr⟩ := X'.frames_eq
  have hcell9 : ((T.setVm vm').setFrames (.throwing q :: below)).heap[q]? = some ce := by
    show T.heap[q]? = some ce
    rw [hT]; exact hcell
  have hend : Ended ((T.setVm vm').setFrames (.throwing q :: below)) below (.threw q) := State.frames_setFrames _ (State.cur_lt_of_frames hfr)
  refine ⟨(T.setVm vm').setFrames (.throwing q :: below), ?_, .threw q, X'.here.running, hend, Or.inr ⟨q, rfl, E, ce, locs, hx _ hT (X'.ends _).1.alike, hcell9, hv, hcl, (X'.ends _).1, (X'.ends _).2.mono hc hs, hf⟩⟩
  rw [X.pushThrowing_eq]
  exact st
/-- a thing of a world lies in the heap -/
theorem vx_lt {D : va_G} {cl : List vw_C} {ws : va_W} {H1 : Heap} (h : va_P D cl ws H1) {k : Nat} {q : Nat × va_E} (hk : ws[k]? = some q) : q.1 < H1.size := (h k q hk).lt
end VXS
/-! ===== END ===== -/
/-! ===== BEGIN methods with a table of their own: called by a name, returning or throwing ===== -/
section VXH
/-! vx_backW, vx_callVX, vx_callSX, vx_callVW, vx_runVW, vx_runVX, vx_runSX, vx_ofWH follow the same proofs as their sisters above (Free/Laws.lean, Shelf42/LK1.lean); vx_outP calls Shelf42/NT130.lean (outThrough). -/
section
variable {l : Launch} {R : Room} {p : Program} {e : Env} {below : List Frame} {s : State} {sargs : Array Value} {y : MethodName} {len W9 : Nat}
theorem vx_backW {ws : List Cond} {rm : Room} {Pc : Array Value → State → Prop} {Qc : Array Value → State → Outcome → State → Prop} {XC : String → State → State → Prop} {mc ms : Nat} {free : Addr → Prop} {bytes : ByteArray} {maxL : Nat} {ret : Option FieldType} {hh : List (Nat × Nat × Nat × Nat)}
    (hM : vx_Met l y ws rm Pc Qc XC mc ms free) (hblind : FrameBlind Pc) (hrc : rm.cells = mc) (hrs : rm.slots = ms)
    (hframes : rm.frames + 1 ≤ R.frames) (hlocals : W9 + (maxL + 11) + rm.locals ≤ R.locals)
    (hws : ∀ w ∈ ws, ∀ a' U, s.WarmedH U.vm → w.before a' U = true) (hcode : Cond.codeWith y bytes maxL ret hh ∈ ws) (hinit : ∀ a' U, s.WarmedH U.vm → (Cond.initialized y.cls).before a' U = true) :
    vx_Back l R p e below s sargs y len W9 (PreOf R mc ms Pc) (PostOf Qc mc ms free) (vx_Post XC mc ms free) := by
  intro m meth c A g ig mk a X hg hsize hdg hW hn hp
  have h1 : (headSpec ws rm).pre.before a A.U = true := atoms_intro fun w hw => hws w hw _ _ X.warmed
  have h2 : (Cond.codeWith y bytes maxL ret hh).before a A.U = true := hws _ hcode _ _ X.warmed
  have h3 : (Cond.initialized y.cls).before a A.U = true := hinit _ _ X.warmed
  have h4 : A.cells + (headSpec ws rm).room.cells ≤ R.cells := by rw [show (headSpec ws rm).room.cells = mc from hrc]; exact hp.1
  have h5 : A.slots + (headSpec ws rm).room.slots ≤ R.slots := by rw [show (headSpec ws rm).room.slots = ms from hrs]; exact hp.2.1
  have hPc : Pc a (A.U.calling g mk a) := hblind _ _ _ _ hp.2.2
  obtain ⟨U, Ls, c0, s0⟩ := A
  dsimp only [Pt.U, Pt.locs, Pt.cells, Pt.slots] at h1 h2 h3 h4 h5 X hn hPc ⊢
  obtain ⟨m9, methY, cY, hn9, hmY, hcY, -, hlY, -⟩ := Cond.codeWith_spec h2
  cases Option.some.inj (hn9.symm.trans hn)
  obtain ⟨kY, hkY, -⟩ := className_of_methodNamed hn
  have hinitY : kY.init = .initialized := Cond.initialized_spec (findClass_of_methodNamed hn) hkY h3
  have h : At U g.method c below := by rw [hg]; exact X.here
  have hlocals9 : W9 + (maxL + 11) + (headSpec ws rm).room.locals ≤ R.locals := hlocals
  have happ : (headSpec ws rm).appliesLoose y e.platform (U.calling g mk a) = true :=
    Spec.appliesLoose_calling (g := g) h hdg hn hkY hinitY
      (X.room_calling (g := g) (R' := (headSpec ws rm).room) hsize hmY hcY hframes (by rw [hlY]; omega) h4 h5) h1
  obtain ⟨mid, hmid⟩ := h.above
  have hfr : (U.setTop g).frames = (.java g :: mid) ++ below := by rw [State.frames_setTop' g h.top, hmid]; rfl
  obtain ⟨o, s₂, hsteps, -, hend, hq⟩ := Steps.callFree hM p X.admits X.cas X.clock (acts := []) hfr happ hPc trivial
  have hq' : vx_Q Qc XC mc ms free a (U.calling g mk a) o s₂ := hq
  rw [State.frames_setTop' g h.top] at hend
  obtain ⟨g₀, hg0⟩ := Option.isSome_iff_exists.mp h.top
  obtain ⟨r, hr⟩ := State.topJava?_eq_some.mp hg0
  have hr' : (({ U with heap := s₂.heap, slotsUsed := s₂.slotsUsed } : State).setVm s₂.vm).frames = .java g₀ :: r := hr
  rcases hq' with ⟨hqc, L, hfe, hL⟩ | ⟨q, rfl, E, ce, L, hx, hce, hcv, hcl, hW₂, hsm, hL⟩
  · obtain ⟨⟨v, rfl⟩, hW₂, e2, q2, q3, q4, q5, q6⟩ := id hfe
    have e3 : s₂ = ({ (U.calling g mk a).setFrames s₂.frames with heap := s₂.heap, slotsUsed := s₂.slotsUsed } : State).setVm s₂.vm := by
      have : s₂ = ({ s₂ with vm := (U.calling g mk a).vm } : State).setVm s₂.vm := rfl
      rw [e2] at this
      exact this
    obtain ⟨c₂, i₂, len₂, hc₂, hd₂, hf₂⟩ := hend
    have hW' : U.WarmedH s₂.vm := hW₂
    have hcc : c₂ = c := by
      have h1 : s₂.code? g.method = U.code? g.method := by
        rw [State.code?_eq, State.code?_eq, hW'.alike.method?]
      exact Option.some.inj (hc₂.symm.trans (h1.trans h.code))
    subst hcc
    have hlen : len₂ = len := by rw [hdg] at hd₂; cases hd₂; rfl
    subst hlen
    have hs₂ : s₂ = (({ U with heap := s₂.heap, slotsUsed := s₂.slotsUsed } : State).setVm s₂.vm).setTop { g with pc := g.pc + len₂, stack := v.toList ++ g.stack } := by
      refine e3.trans ?_
      rw [hf₂, State.calling_eq h.top, State.setFrames_setFrames, State.setTop_of_frames _ hr', hr]
      rfl
    have hsame : U.sameButNew ({ U with heap := s₂.heap, slotsUsed := s₂.slotsUsed } : State) L mc ms := by
      refine ⟨?_, q2, q3, q4, q5, q6⟩
      obtain ⟨t, ht, -⟩ := State.frames_cons hr
      show ({ U with heap := s₂.heap, slotsUsed := s₂.slotsUsed } : State) = { U.setFrames U.frames with heap := s₂.heap, slotsUsed := s₂.slotsUsed }
      rw [State.setFrames_self ht]
    subst hg
    refine Or.inl ⟨v, ⟨(({ U with heap := s₂.heap, slotsUsed := s₂.slotsUsed } : State).setVm s₂.vm), Ls ++ L, c0 + mc, s0 + ms⟩,
      ⟨X.admits, X.cas, X.clock, X.frames, X.room, X.hears, X.method, X.code, (X.here.setHeapUsed s₂.heap s₂.slotsUsed).setVm hW'.alike, X.tail, State.WarmedH.trans X.warmed hW', X.limits, X.bytes, X.same.trans (hsame.setVm s.vm)⟩,
      ⟨g, mk, s₂, L, rfl, rfl, hqc, rfl, hL, rfl, rfl⟩, ?_⟩
    show Steps p.tables e below _ ((({ U with heap := s₂.heap, slotsUsed := s₂.slotsUsed } : State).setVm s₂.vm).setTop { g with pc := g.pc + len₂, stack := v.toList ++ g.stack })
    rw [← hs₂]
    exact hsteps
  · obtain ⟨e2, q2, q3, q4, q5, q6⟩ := id hsm
    have e3 : s₂ = ({ (U.calling g mk a).setFrames s₂.frames with heap := s₂.heap, slotsUsed := s₂.slotsUsed } : State).setVm s₂.vm := by
      have : s₂ = ({ s₂ with vm := (U.calling g mk a).vm } : State).setVm s₂.vm := rfl
      rw [e2] at this
      exact this
    have hf₂ : s₂.frames = .throwing q :: .java g :: U.frames.tail := hend
    have hW' : U.WarmedH s₂.vm := hW₂
    have hs₂ : s₂ = ((({ U with heap := s₂.heap, slotsUsed := s₂.slotsUsed } : State).setVm s₂.vm).setTop g).pushFrame (.throwing q) := by
      refine e3.trans ?_
      rw [hf₂, State.calling_eq h.top, State.setFrames_setFrames, State.pushFrame, State.frames_setTop _ hr', State.setTop_of_frames _ hr', State.setFrames_setFrames, hr]
      rfl
    have hsame : U.sameButNew ({ U with heap := s₂.heap, slotsUsed := s₂.slotsUsed } : State) L mc ms := by
      refine ⟨?_, q2, q3, q4, q5, q6⟩
      obtain ⟨t, ht, -⟩ := State.frames_cons hr
      show ({ U with heap := s₂.heap, slotsUsed := s₂.slotsUsed } : State) = { U.setFrames U.frames with heap := s₂.heap, slotsUsed := s₂.slotsUsed }
      rw [State.setFrames_self ht]
    subst hg
    refine Or.inr ⟨q, ⟨(({ U with heap := s₂.heap, slotsUsed := s₂.slotsUsed } : State).setVm s₂.vm), Ls ++ L, c0 + mc, s0 + ms⟩,
      ⟨X.admits, X.cas, X.clock, X.frames, X.room, X.hears, X.method, X.code, (X.here.setHeapUsed s₂.heap s₂.slotsUsed).setVm hW'.alike, X.tail, State.WarmedH.trans X.warmed hW', X.limits, X.bytes, X.same.trans (hsame.setVm s.vm)⟩,
      ⟨g, mk, s₂, L, E, ce, rfl, rfl, hx, hce, hcv, hcl, rfl, hL, rfl, rfl⟩, ?_⟩
    show Steps p.tables e below _ (((({ U with heap := s₂.heap, slotsUsed := s₂.slotsUsed } : State).setVm s₂.vm).setTop g).pushFrame (.throwing q))
    rw [← hs₂]
    exact hsteps
end
variable {p : Program} {l : Launch} {e : Env} {R : Room} {s : State} {m : MethodId} {args : Array Value} {below : List Frame} {meth : Method} {c : Code} {T : State} {H : Heap} {locs : List Loc} {cells slots : Nat}
theorem vx_callVX (X : Stand p l e R s m args below meth c T locs cells slots) (hexec : p.tables.exec = Jvm.exec) {own C : String} {index : Nat} {y : MethodName} {bytes : ByteArray} {maxL : Nat} {ret : Option FieldType} {hh : List (Nat × Nat × Nat × Nat)}
    (hown : s.vm.findClass own = some m.cls) (hlink : (Cond.methodLink own index y).before args s = true) (hinst : (Cond.instanceMethod y).before args s = true) (hsel : (Cond.selects C y y).before args s = true)
    (hcode : (Cond.codeWith y bytes maxL ret hh).before args s = true) (hy : y.cls ≠ "java/lang/invoke/MethodHandle" ∧ y.cls ≠ "java/lang/invoke/VarHandle")
    {W9 : Nat} {Pre : Pt → Array Value → Prop} {Post : Pt → Array Value → Option Value → Pt → Prop} {PostX : Pt → Array Value → Addr → Pt → Prop} (hK : vx_Back l R p e below s args y 3 W9 Pre Post PostX)
    {b : Addr} {cellB : Cell} (hcell : T.heap[b]? = some cellB) (hobj : cellB.vm.isStatics = false) (hcls : s.vm.findClass C = some cellB.cls)
    {g : JFrame} (hg : g.method = m) (hsize : g.locals.size = c.maxLocals) {argsL rest : List Value} (hlen : ∀ sig, parseMethodDescriptor y.desc = some sig → argsL.length = sig.parameters.length)
    (hstack : g.stack = argsL.reverse ++ .ref b :: rest) (hW : 2 * g.monitorRoom + (rest.map fun v => v.category).sum ≤ W9) (hdg : decode c.code g.pc = .ok (.invokevirtual index, 3))
    (hpre : ∀ vm₁, s.WarmedH vm₁ → Pre ⟨T.setVm vm₁, locs, cells, slots⟩ (Value.ref b :: argsL).toArray) :
    (∃ (v : Option Value) (vm₁ : Vm) (B : Pt), s.WarmedH vm₁ ∧ Stand p l e R s m args below meth c B.U B.locs B.cells B.slots ∧ Post ⟨T.setVm vm₁, locs, cells, slots⟩ (Value.ref b :: argsL).toArray v B ∧
      ∀ target, Steps p.tables e below (B.U.setTop { g with pc := g.pc + 3, stack := v.toList ++ rest }) target → Steps p.tables e below (T.setTop g) target) ∨
    (∃ (q : Addr) (vm₁ : Vm) (B : Pt), s.WarmedH vm₁ ∧ Stand p l e R s m args below meth c B.U B.locs B.cells B.slots ∧ PostX ⟨T.setVm vm₁, locs, cells, slots⟩ (Value.ref b :: argsL).toArray q B ∧
      Steps p.tables e below (T.setTop g) ((B.U.setTop { g with stack := rest }).pushFrame (.throwing q))) := by
  obtain ⟨mk, methM, hnamed, hmethM, hstM, habM⟩ := Cond.instanceMethod_spec hinst
  obtain ⟨m8, methM', cM, hn8, hmethM', -, -, -, -, -, -, hsigM⟩ := Cond.codeWith_spec hcode
  cases Option.some.inj (hn8.symm.trans hnamed)
  cases hmethM.symm.trans hmethM'
  obtain ⟨c2, r2, m2, q1, q2, q3, q4, kP, hkP, hkPi⟩ := Cond.selects_spec hsel
  cases hcls.symm.trans q1
  cases (State.methodFound?_of_named hnamed hy).symm.trans q2
  cases hnamed.symm.trans q3
  have hselP : selectMethod e.platform s.vm cellB.cls mk = .method mk := by rw [Launch.admits_selectMethod X.admits]; exact q4
  obtain ⟨vm₁, X₁, hstep₁⟩ := X.invokevirtual hexec hown hlink hnamed hmethM hstM hkP hkPi hy (a := b) (cell := cellB) hcell
    (fun z h => by rw [h] at hobj; cases hobj) hselP hmethM habM hkP hkPi (g := g) hg (argsL := argsL) (rest := rest) (hlen _ hsigM) hstack hdg
  rcases hK m meth c ⟨T.setVm vm₁, locs, cells, slots⟩ { g with stack := rest } (.invokevirtual index) mk (Value.ref b :: argsL).toArray X₁ hg hsize hdg hW (X₁.named hnamed) (hpre vm₁ X₁.warmed) with ⟨v, B, X', hpost, hsteps⟩ | ⟨q, B, X', hpost, hsteps⟩
  · exact Or.inl ⟨v, vm₁, B, X₁.warmed, X', hpost, fun target h => hstep₁ _ fun acts => by rw [doInvoke_state]; exact hsteps.trans h⟩
  · exact Or.inr ⟨q, vm₁, B, X₁.warmed, X', hpost, hstep₁ _ fun acts => by rw [doInvoke_state]; exact hsteps⟩
theorem vx_callSX (X : Stand p l e R s m args below meth c T locs cells slots) (hexec : p.tables.exec = Jvm.exec) {own : String} {index : Nat} {y : MethodName} {bytes : ByteArray} {maxL : Nat} {ret : Option FieldType} {hh : List (Nat × Nat × Nat × Nat)}
    (hown : s.vm.findClass own = some m.cls) (hlink : (Cond.methodLink own index y).before args s = true) (hstat : (Cond.static y).before args s = true) (hinit : (Cond.initialized y.cls).before args s = true)
    (hcode : (Cond.codeWith y bytes maxL ret hh).before args s = true) (hy : y.cls ≠ "java/lang/invoke/MethodHandle" ∧ y.cls ≠ "java/lang/invoke/VarHandle")
    {W9 : Nat} {Pre : Pt → Array Value → Prop} {Post : Pt → Array Value → Option Value → Pt → Prop} {PostX : Pt → Array Value → Addr → Pt → Prop} (hK : vx_Back l R p e below s args y 3 W9 Pre Post PostX)
    {g : JFrame} (hg : g.method = m) (hsize : g.locals.size = c.maxLocals) {argsL rest : List Value} (hlen : ∀ sig, parseMethodDescriptor y.desc = some sig → argsL.length = sig.parameters.length)
    (hstack : g.stack = argsL.reverse ++ rest) (hW : 2 * g.monitorRoom + (rest.map fun v => v.category).sum ≤ W9) (hdg : decode c.code g.pc = .ok (.invokestatic index, 3))
    (hpre : ∀ vm₁, s.WarmedH vm₁ → Pre ⟨T.setVm vm₁, locs, cells, slots⟩ argsL.toArray) :
    (∃ (v : Option Value) (vm₁ : Vm) (B : Pt), s.WarmedH vm₁ ∧ Stand p l e R s m args below meth c B.U B.locs B.cells B.slots ∧ Post ⟨T.setVm vm₁, locs, cells, slots⟩ argsL.toArray v B ∧
      ∀ target, Steps p.tables e below (B.U.setTop { g with pc := g.pc + 3, stack := v.toList ++ rest }) target → Steps p.tables e below (T.setTop g) target) ∨
    (∃ (q : Addr) (vm₁ : Vm) (B : Pt), s.WarmedH vm₁ ∧ Stand p l e R s m args below meth c B.U B.locs B.cells B.slots ∧ PostX ⟨T.setVm vm₁, locs, cells, slots⟩ argsL.toArray q B ∧
      Steps p.tables e below (T.setTop g) ((B.U.setTop { g with stack := rest }).pushFrame (.throwing q))) := by
  obtain ⟨mk, methM, cM, hnamed, hmethM, -, -, -, -, -, -, hsigM⟩ := Cond.codeWith_spec hcode
  have hstatic : methM.isStatic = true := Cond.static_spec hnamed hmethM hstat
  obtain ⟨kP, hkP, -⟩ := className_of_methodNamed hnamed
  have hinitP : kP.init = .initialized := Cond.initialized_spec (findClass_of_methodNamed hnamed) hkP hinit
  obtain ⟨vm₁, X₁, hstep₁⟩ := X.invokestatic hexec hown hlink hnamed hmethM hstatic hkP hinitP hy (g := g) hg (argsL := argsL) (rest := rest) (hlen _ hsigM) hstack hdg
  rcases hK m meth c ⟨T.setVm vm₁, locs, cells, slots⟩ { g with stack := rest } (.invokestatic index) mk argsL.toArray X₁ hg hsize hdg hW (X₁.named hnamed) (hpre vm₁ X₁.warmed) with ⟨v, B, X', hpost, hsteps⟩ | ⟨q, B, X', hpost, hsteps⟩
  · exact Or.inl ⟨v, vm₁, B, X₁.warmed, X', hpost, fun target h => hstep₁ _ fun acts => by rw [doInvoke_state]; exact hsteps.trans h⟩
  · exact Or.inr ⟨q, vm₁, B, X₁.warmed, X', hpost, hstep₁ _ fun acts => by rw [doInvoke_state]; exact hsteps⟩
theorem vx_callVW (X : Stand p l e R s m args below meth c T locs cells slots) (hexec : p.tables.exec = Jvm.exec) {own C : String} {index : Nat} {y : MethodName} {bytes : ByteArray} {maxL : Nat} {ret : Option FieldType} {hh : List (Nat × Nat × Nat × Nat)}
    (hown : s.vm.findClass own = some m.cls) (hlink : (Cond.methodLink own index y).before args s = true) (hinst : (Cond.instanceMethod y).before args s = true) (hsel : (Cond.selects C y y).before args s = true)
    (hcode : (Cond.codeWith y bytes maxL ret hh).before args s = true) (hy : y.cls ≠ "java/lang/invoke/MethodHandle" ∧ y.cls ≠ "java/lang/invoke/VarHandle")
    {W9 : Nat} {Pre : Pt → Array Value → Prop} {Post : Pt → Array Value → Option Value → Pt → Prop} (hK : Back l R p e below s args y 3 W9 Pre Post)
    {b : Addr} {cellB : Cell} (hcell : T.heap[b]? = some cellB) (hobj : cellB.vm.isStatics = false) (hcls : s.vm.findClass C = some cellB.cls)
    {g : JFrame} (hg : g.method = m) (hsize : g.locals.size = c.maxLocals) {argsL rest : List Value} (hlen : ∀ sig, parseMethodDescriptor y.desc = some sig → argsL.length = sig.parameters.length)
    (hstack : g.stack = argsL.reverse ++ .ref b :: rest) (hW : 2 * g.monitorRoom + (rest.map fun v => v.category).sum ≤ W9) (hdg : decode c.code g.pc = .ok (.invokevirtual index, 3))
    (hpre : ∀ vm₁, s.WarmedH vm₁ → Pre ⟨T.setVm vm₁, locs, cells, slots⟩ (Value.ref b :: argsL).toArray) :
    ∃ (v : Option Value) (vm₁ : Vm) (B : Pt), s.WarmedH vm₁ ∧ Stand p l e R s m args below meth c B.U B.locs B.cells B.slots ∧ Post ⟨T.setVm vm₁, locs, cells, slots⟩ (Value.ref b :: argsL).toArray v B ∧
      ∀ target, Steps p.tables e below (B.U.setTop { g with pc := g.pc + 3, stack := v.toList ++ rest }) target → Steps p.tables e below (T.setTop g) target := by
  obtain ⟨mk, methM, hnamed, hmethM, hstM, habM⟩ := Cond.instanceMethod_spec hinst
  obtain ⟨m8, methM', cM, hn8, hmethM', -, -, -, -, -, -, hsigM⟩ := Cond.codeWith_spec hcode
  cases Option.some.inj (hn8.symm.trans hnamed)
  cases hmethM.symm.trans hmethM'
  obtain ⟨c2, r2, m2, q1, q2, q3, q4, kP, hkP, hkPi⟩ := Cond.selects_spec hsel
  cases hcls.symm.trans q1
  cases (State.methodFound?_of_named hnamed hy).symm.trans q2
  cases hnamed.symm.trans q3
  have hselP : selectMethod e.platform s.vm cellB.cls mk = .method mk := by rw [Launch.admits_selectMethod X.admits]; exact q4
  obtain ⟨vm₁, X₁, hstep₁⟩ := X.invokevirtual hexec hown hlink hnamed hmethM hstM hkP hkPi hy (a := b) (cell := cellB) hcell
    (fun z h => by rw [h] at hobj; cases hobj) hselP hmethM habM hkP hkPi (g := g) hg (argsL := argsL) (rest := rest) (hlen _ hsigM) hstack hdg
  obtain ⟨v, B, X', hpost, hsteps⟩ := hK m meth c ⟨T.setVm vm₁, locs, cells, slots⟩ { g with stack := rest } (.invokevirtual index) mk (Value.ref b :: argsL).toArray X₁ hg hsize hdg hW (X₁.named hnamed) (hpre vm₁ X₁.warmed)
  exact ⟨v, vm₁, B, X₁.warmed, X', hpost, fun target h => hstep₁ _ fun acts => by rw [doInvoke_state]; exact hsteps.trans h⟩
abbrev vx_CVW (R : Room) (s : State) (args : Array Value) (own C : String) (index : Nat) (y : MethodName) (bytes : ByteArray) (maxL : Nat) (ret : Option FieldType) (hh : List (Nat × Nat × Nat × Nat)) (ws : List Cond) (rm : Room) (mc ms n : Nat) : Prop :=
  (rm.cells = mc ∧ rm.slots = ms ∧ rm.frames + 1 ≤ R.frames ∧ 8 + (maxL + 11) + rm.locals ≤ R.locals ∧ (∀ w ∈ ws, ∀ (a' : Array Value) (U : State), s.WarmedH U.vm → w.before a' U = true) ∧ Cond.codeWith y bytes maxL ret hh ∈ ws) ∧
  (Cond.codeWith y bytes maxL ret hh).before args s = true ∧ (Cond.initialized y.cls).before args s = true ∧ (y.cls ≠ "java/lang/invoke/MethodHandle" ∧ y.cls ≠ "java/lang/invoke/VarHandle") ∧
  (∀ sig, parseMethodDescriptor y.desc = some sig → n = sig.parameters.length) ∧ (Cond.methodLink own index y).before args s = true ∧ (Cond.instanceMethod y).before args s = true ∧ (Cond.selects C y y).before args s = true
theorem vx_cwVW {own C : String} {index maxL mc ms : Nat} {y : MethodName} {bytes : ByteArray} {ret : Option FieldType} {hh : List (Nat × Nat × Nat × Nat)} {Ts ws ws' : List Cond} {rm : Room} (n : Nat) (ht : ∀ w ∈ Ts, w.before args s = true) (hT : GoodIn Ts (wsV own index C y ws)) (hw : ws = Cond.codeWith y bytes maxL ret hh :: ws') (hrc : rm.cells = mc) (hrs : rm.slots = ms)
    (hd : y.cls = C ∧ y.cls ≠ "java/lang/invoke/MethodHandle" ∧ y.cls ≠ "java/lang/invoke/VarHandle" ∧ (parseMethodDescriptor y.desc).map (fun d => d.parameters.length) = some n) (hR : rm.frames + 1 ≤ R.frames ∧ 8 + (maxL + 11) + rm.locals ≤ R.locals) :
    vx_CVW R s args own C index y bytes maxL ret hh ws rm mc ms n := by
  obtain ⟨hC, hd⟩ := hd
  subst hC
  have ok : ∀ w ∈ wsV own index y.cls y ws, w.before args s = true := fun w h => ht w (hT w h).1
  have hG : GoodIn Ts ws := fun w h => hT w (by unfold wsV; exact List.mem_append_right _ h)
  have hc : Cond.codeWith y bytes maxL ret hh ∈ ws := by rw [hw]; exact List.mem_cons_self
  refine ⟨⟨hrc, hrs, hR.1, hR.2, pay_in ht hG, hc⟩, ht _ (hG _ hc).1, ok _ (by simp [wsV]), ⟨hd.1, hd.2.1⟩, fun sig h => ?_, ok _ (by simp [wsV]), ok _ (by simp [wsV]), ok _ (by simp [wsV])⟩
  have h2 := hd.2.2
  rw [h] at h2
  exact (Option.some.inj h2).symm
theorem vx_runVW {y : MethodName} {bytes cc : ByteArray} {maxL nL mc ms n index : Nat} {ret : Option FieldType} {hh : List (Nat × Nat × Nat × Nat)} {ws : List Cond} {rm : Room} {Pc : Array Value → State → Prop} {Qc : Array Value → State → Outcome → State → Prop} {free : Addr → Prop} {Ts : List Cond} {own C : String} {b : Addr} {As rest : List Value} {g : JFrame}
    (S : CallFix p m c cc nL s args Ts own) (hM : Met l y ws rm Pc Qc mc ms free) (cw : vx_CVW R s args own C index y bytes maxL ret hh ws rm mc ms n) (hp : PreV s H C b Pc As)
    (hg : g.method = m) (hn : As.length = n) (hsize : g.locals.size = nL) (hstack : g.stack = As.reverse ++ .ref b :: rest) (hW : 2 * g.monitorRoom + (rest.map fun v => v.category).sum ≤ 8) (hdg : decode cc g.pc = .ok (.invokevirtual index, 3)) (hf : cells + mc ≤ R.cells ∧ slots + ms ≤ R.slots) :
    va_Run p l e R s m args below meth c H locs cells slots mc ms g rest (Qc (Value.ref b :: As).toArray) free := by
  obtain ⟨⟨hrc, hrs, hfr, hlo, hws, hcw⟩, hcode, hini, hy, hlen, hl, hin, hse⟩ := cw
  have hK : Back l R p e below s args y 3 8 (PreOf R mc ms Pc) (PostOf Qc mc ms free) := va_backW (hh := hh) (bytes := bytes) (maxL := maxL) (ret := ret) hM hp.1 hrc hrs hfr hlo hws hcw (fun a' U hW => word_at hW (Or.inl (by first | rfl | simp [Cond.onTables, Cond.keeps, Cond.steady])) hini)
  obtain ⟨hx, hb, hml, ho, -⟩ := S
  obtain ⟨-, ⟨cellB, hcB, hoB, hclB⟩, hPc⟩ := hp
  intro T hT X
  obtain ⟨v, vm₁, ⟨U', l2, c2, s2⟩, hW₁, X', ⟨g', mk, t, L, e1, e2, hq, h1, hL, h2, h3⟩, st⟩ := vx_callVW X hx (C := C) (hh := hh) (bytes := bytes) (maxL := maxL) (ret := ret) ho hl hin hse hcode hy hK (by rw [hT]; exact hcB) hoB hclB hg (hsize.trans hml.symm) (argsL := As) (rest := rest) (fun sig h => hn.trans (hlen sig h)) hstack hW (by rw [hb]; exact hdg)
    (fun vm₁ hW₁ => ⟨hf.1, hf.2, hPc (T.setVm vm₁) hT hW₁⟩)
  dsimp only [Pt.U, Pt.locs, Pt.cells, Pt.slots] at X' e1 e2 h1 h2 h3 st
  subst h1; subst h2; subst h3
  exact ⟨v, (T.setVm vm₁).calling g' mk (Value.ref b :: As).toArray, t, U', L, hT, X', hL, e1, e2, hq, st⟩
section
variable {y : MethodName} {bytes cc : ByteArray} {maxL nL mc ms n index : Nat} {ret : Option FieldType} {ws : List Cond} {rm : Room} {Pc : Array Value → State → Prop} {Qc : Array Value → State → Outcome → State → Prop} {XC : String → State → State → Prop} {free : Addr → Prop} {Ts : List Cond} {own C : String} {b : Addr} {As rest : List Value} {g : JFrame}
theorem vx_runVX {hh : List (Nat × Nat × Nat × Nat)} (S : CallFix p m c cc nL s args Ts own) (hM : vx_Met l y ws rm Pc Qc XC mc ms free) (cw : vx_CVW R s args own C index y bytes maxL ret hh ws rm mc ms n) (hp : PreV s H C b Pc As)
    (hg : g.method = m) (hn : As.length = n) (hsize : g.locals.size = nL) (hstack : g.stack = As.reverse ++ .ref b :: rest) (hW : 2 * g.monitorRoom + (rest.map fun v => v.category).sum ≤ 8) (hdg : decode cc g.pc = .ok (.invokevirtual index, 3)) (hf : cells + mc ≤ R.cells ∧ slots + ms ≤ R.slots) :
    vx_Run p l e R s m args below meth c H locs cells slots mc ms g rest (Qc (Value.ref b :: As).toArray) XC free := by
  obtain ⟨⟨hrc, hrs, hfr, hlo, hws, hcw⟩, hcode, hini, hy, hlen, hl, hin, hse⟩ := cw
  have hK : vx_Back l R p e below s args y 3 8 (PreOf R mc ms Pc) (PostOf Qc mc ms free) (vx_Post XC mc ms free) := vx_backW (hh := hh) (bytes := bytes) (maxL := maxL) (ret := ret) hM hp.1 hrc hrs hfr hlo hws hcw (fun a' U hW => word_at hW (Or.inl (by first | rfl | simp [Cond.onTables, Cond.keeps, Cond.steady])) hini)
  obtain ⟨hx, hb, hml, ho, -⟩ := S
  obtain ⟨-, ⟨cellB, hcB, hoB, hclB⟩, hPc⟩ := hp
  intro T hT X
  rcases vx_callVX X hx (C := C) (hh := hh) (bytes := bytes) (maxL := maxL) (ret := ret) ho hl hin hse hcode hy hK (by rw [hT]; exact hcB) hoB hclB hg (hsize.trans hml.symm) (argsL := As) (rest := rest) (fun sig h => hn.trans (hlen sig h)) hstack hW (by rw [hb]; exact hdg)
    (fun vm₁ hW₁ => ⟨hf.1, hf.2, hPc (T.setVm vm₁) hT hW₁⟩) with ⟨v, vm₁, ⟨U', l2, c2, s2⟩, hW₁, X', ⟨g', mk, t, L, e1, e2, hq, h1, hL, h2, h3⟩, st⟩ | ⟨q, vm₁, ⟨U', l2, c2, s2⟩, hW₁, X', ⟨g', mk, t, L, E, ce, e1, e2, hq, hce, hcv, hcl, h1, hL, h2, h3⟩, st⟩
  · dsimp only [Pt.U, Pt.locs, Pt.cells, Pt.slots] at X' e1 e2 h1 h2 h3 st
    subst h1; subst h2; subst h3
    exact Or.inl ⟨v, (T.setVm vm₁).calling g' mk (Value.ref b :: As).toArray, t, U', L, hT, X', hL, e1, e2, hq, st⟩
  · dsimp only [Pt.U, Pt.locs, Pt.cells, Pt.slots] at X' e1 e2 h1 h2 h3 st hcl
    subst h1; subst h2; subst h3
    exact Or.inr ⟨q, (T.setVm vm₁).calling g' mk (Value.ref b :: As).toArray, t, U', L, E, ce, hT, X', hL, e1, e2, hq, hce, hcv, vx_cls hW₁ hcl, st⟩
theorem vx_runSX {hh : List (Nat × Nat × Nat × Nat)} (S : CallFix p m c cc nL s args Ts own) (hM : vx_Met l y ws rm Pc Qc XC mc ms free) (cw : vx_CSW R s args own index y bytes maxL ret hh ws rm mc ms n) (hp : PreS s H Pc As)
    (hg : g.method = m) (hn : As.length = n) (hsize : g.locals.size = nL) (hstack : g.stack = As.reverse ++ rest) (hW : 2 * g.monitorRoom + (rest.map fun v => v.category).sum ≤ 8) (hdg : decode cc g.pc = .ok (.invokestatic index, 3)) (hf : cells + mc ≤ R.cells ∧ slots + ms ≤ R.slots) :
    vx_Run p l e R s m args below meth c H locs cells slots mc ms g rest (Qc As.toArray) XC free := by
  obtain ⟨⟨hrc, hrs, hfr, hlo, hws, hcw⟩, hcode, hini, hy, hlen, hl, hstt⟩ := cw
  have hK : vx_Back l R p e below s args y 3 8 (PreOf R mc ms Pc) (PostOf Qc mc ms free) (vx_Post XC mc ms free) := vx_backW (hh := hh) (bytes := bytes) (maxL := maxL) (ret := ret) hM hp.1 hrc hrs hfr hlo hws hcw (fun a' U hW => word_at hW (Or.inl (by first | rfl | simp [Cond.onTables, Cond.keeps, Cond.steady])) hini)
  obtain ⟨hx, hb, hml, ho, -⟩ := S
  intro T hT X
  rcases vx_callSX X hx (hh := hh) (bytes := bytes) (maxL := maxL) (ret := ret) ho hl hstt hini hcode hy hK hg (hsize.trans hml.symm) (argsL := As) (rest := rest) (fun sig h => hn.trans (hlen sig h)) hstack hW (by rw [hb]; exact hdg)
    (fun vm₁ hW₁ => ⟨hf.1, hf.2, hp.2 (T.setVm vm₁) hT hW₁⟩) with ⟨v, vm₁, ⟨U', l2, c2, s2⟩, hW₁, X', ⟨g', mk, t, L, e1, e2, hq, h1, hL, h2, h3⟩, st⟩ | ⟨q, vm₁, ⟨U', l2, c2, s2⟩, hW₁, X', ⟨g', mk, t, L, E, ce, e1, e2, hq, hce, hcv, hcl, h1, hL, h2, h3⟩, st⟩
  · dsimp only [Pt.U, Pt.locs, Pt.cells, Pt.slots] at X' e1 e2 h1 h2 h3 st
    subst h1; subst h2; subst h3
    exact Or.inl ⟨v, (T.setVm vm₁).calling g' mk As.toArray, t, U', L, hT, X', hL, e1, e2, hq, st⟩
  · dsimp only [Pt.U, Pt.locs, Pt.cells, Pt.slots] at X' e1 e2 h1 h2 h3 st hcl
    subst h1; subst h2; subst h3
    exact Or.inr ⟨q, (T.setVm vm₁).calling g' mk As.toArray, t, U', L, E, ce, hT, X', hL, e1, e2, hq, hce, hcv, vx_cls hW₁ hcl, st⟩
end
end VXH
theorem vx_ofWH {l : Launch} {y : MethodName} {ws ws' : List Cond} {rm : Room} {Pc : Array Value → State → Prop} {Qc : Array Value → State → Outcome → State → Prop} {XC : String → State → State → Prop} {mc ms : Nat} {free : Addr → Prop} {cc : ByteArray} {maxL : Nat} {ret : Option FieldType} {hh : List (Nat × Nat × Nat × Nat)}
    (hy : plainName y.cls = true) (hw : ws = Cond.codeWith y cc maxL ret hh :: ws')
    (body : ∀ p e s m args below meth c s₁, BodyLoose p l y (headSpec ws rm) cc maxL ret e s m args below meth c s₁ → c.maxLocals = maxL → Pc args s →
      W p l e (headSpec ws rm).room s m args below meth c s.heap [] 0 0 (vx_MQ below Qc XC args s mc ms free) (entryFrame m args maxL)) : vx_Met l y ws rm Pc Qc XC mc ms free := by
  refine MetFree.of_bodyS (code := cc) (maxLocals := maxL) (ret := ret) hy ?_ ?_
  · intro args s m h hn
    obtain ⟨m9, meth, c, hn9, h1, h2, h3, h4, -, h5, h6, -⟩ := Cond.codeWith_spec (atoms_spec (ws := ws) h _ (by rw [hw]; exact List.mem_cons_self))
    cases hn.symm.trans hn9
    exact ⟨meth, c, h1, h2, h3, h4, h5, h6⟩
  · intro p e s m args below meth c s₁ B hml hP _
    have hh0 : s₁.heap = s.heap := by rw [B.state]; rfl
    obtain ⟨t, a1, o, b1, b2, b3⟩ := body p e s m args below meth c s₁ B hml hP s₁ hh0 (Stand.of_body B)
    exact ⟨t, o, a1, b1, b2, b3⟩
/-! ===== END ===== -/
/-! ===== BEGIN what the machine throws by itself, no traces kept ===== -/
section VXM
set_option maxHeartbeats 1000000 in
/-- the machine throws cls with the message text, no traces kept: from its note over the frame g to 'throwing' over the same frame (follows the proofs of Stand.vmThrowsMessage, Shelf/KitTracedVmS.lean, and Stand.throwsMessageColdBareV, StandMessageColdV.lean, without the step out of the frame) -/
theorem vx_vmAt {p : Program} {l : Launch} {e : Env} {R : Room} {s : State} {m₀ : MethodId} {args : Array Value} {below : List Frame} {meth : Method} {c : Code} {W : State} {locs : List Loc} {cells slots : Nat}
    (X : Stand p l e R s m₀ args below meth c W locs cells slots) (hexec : p.tables.exec = Jvm.exec) (htr : e.platform.stackTraces = false) {cls : String} {names : List String} {text : String}
    (hcls : Bundle.fit cls = true) (hnames : ∀ n ∈ names, Bundle.fit n = true) (hsoe : (cls == "java/lang/StackOverflowError") = false) (hoom : (cls == "java/lang/OutOfMemoryError") = false)
    (h : ∀ a ∈ Bundle.messageArmAtoms cls names, a.before args s = true)
    (hlocs : ∀ x ∈ locs, ∀ cell, s.heap[x.base]? = some cell → cell.vm.isStatics = false)
    (htext : (text == notModelled) = false) (hlimit : ¬ (stringBytes (stringToUtf16 text)).size > e.platform.arrayLengthLimit) (hheap : ¬ (stringBytes (stringToUtf16 text)).size * componentBytes .byte > e.platform.maxHeapBytes)
    {g : JFrame} (hg : g.method = m₀) (hsize : g.locals.size = c.maxLocals)
    (hRframes : names.length + 4 < R.frames) (hRlocals : 2 * g.monitorRoom + (g.stack.map fun v => v.category).sum + 10240 ≤ R.locals) (hshort : 13 * names.length + 55 ≤ 10240)
    (hRcells : cells + 3 ≤ R.cells) (hRslots : slots + ((stringBytes (stringToUtf16 text)).size + 4 + 6) ≤ R.slots) (hlocks : meth.locks = false) :
    ∃ (S : State) (q : Addr) (ce : Cell), (∀ target, Steps p.tables e below ((S.setTop g).pushFrame (.throwing q)) target → Steps p.tables e below ((W.setTop g).pushFrame (.throwNew cls (some text) none)) target) ∧
      Stand p l e R s m₀ args below meth c S locs (cells + 3) (slots + ((stringBytes (stringToUtf16 text)).size + 4 + 6)) ∧ S.heap[q]? = some ce ∧ s.vm.findClass cls = some ce.cls ∧ ce.vm = .none := by
  have howns : e.platform.frameOwnsMonitors = true := by rw [X.admits.platform]
  have hfin : e.platform.finalization = false := by rw [X.admits.platform]
  have hpl : e.platform.magicAccessors = ({} : Platform).magicAccessors := by rw [X.admits.platform]
  have a : ∀ x, x ∈ Bundle.messageArmAtoms cls names → x.holds args s none s [] = true := fun x hx => h x hx
  obtain ⟨T, Z0, L, -, Y⟩ := ThrowableC.of_atoms (args := args) howns hfin hpl (fun x hx => h x (by simp [Bundle.messageArmAtoms, hx]))
  obtain ⟨Z, M, LZ, LM, hnZ⟩ := Init0T.ofS_atoms (args := args) hpl L Y (fun x hx => h x (by simp [Bundle.messageArmAtoms, hx]))
  obtain ⟨P1, Ps, hlen, L1, hL, hP1m, hlink1, hlink⟩ := Bundle.chainS (args := args) hpl hnZ names cls hcls hnames (fun x hx => h x (by simp [Bundle.messageArmAtoms, hx]))
  obtain ⟨Zs, LZs, hn4, hfitv, hfitc⟩ := StringT.of_atoms (args := args) (fun x hx => h x (by simp [Bundle.messageArmAtoms, hx]))
  have hfound : s.vm.findClass cls = some P1.m.cls := findClass_of_methodNamed hP1m
  obtain ⟨c1, kX, hc1, hk, hord, -, -, hn6⟩ := Cond.instantiable_spec (a (.instantiable cls 6) (by simp [Bundle.messageArmAtoms]))
  cases Option.some.inj (hc1.symm.trans hfound)
  have hinit := Cond.initialized_spec hfound hk (a (.initialized cls) (by simp [Bundle.messageArmAtoms]))
  have hctor : kX.findMethod "<init>" "(Ljava/lang/String;)V" = some P1.m.idx := findMethod_of_methodNamed hP1m hk
  have hsel0 : selectMethod e.platform s.vm P1.m.cls T.fill0 = .method T.fill0 := by
    obtain ⟨c2, r2, m2, q1, q2, q3, q4, -⟩ := Cond.selects_spec (a (.selects cls Bundle.tFill0 Bundle.tFill0) (by simp [Bundle.messageArmAtoms]))
    cases Option.some.inj (q1.symm.trans hfound)
    cases Option.some.inj (q2.symm.trans (State.methodFound?_of_named Y.fill0 (by decide)))
    cases Option.some.inj (q3.symm.trans Y.fill0)
    rw [Launch.admits_selectMethod X.admits]; exact q4
  have hselF : selectMethod e.platform s.vm P1.m.cls T.fill = .method T.fill := by
    obtain ⟨c2, r2, m2, q1, q2, q3, q4, -⟩ := Cond.selects_spec (a (.selects cls Bundle.tFill Bundle.tFill) (by simp [Bundle.messageArmAtoms]))
    cases Option.some.inj (q1.symm.trans hfound)
    cases Option.some.inj (q2.symm.trans (State.methodFound?_of_named Y.fill (by decide)))
    cases Option.some.inj (q3.symm.trans Y.fill)
    rw [Launch.admits_selectMethod X.admits]; exact q4
  obtain ⟨cellS0, hcS0, hiss⟩ := Y.statics
  obtain ⟨u0, hu0⟩ := Cond.staticRefV Y.unassigned L.unassignedStatic L.statics hcS0 hiss (a (.isRef (.static Bundle.tN "UNASSIGNED_STACK" Bundle.steD)) (by simp [Bundle.messageArmAtoms]))
  obtain ⟨sen, hsen⟩ := Cond.staticRefV Y.sentinel L.sentinelStatic L.statics hcS0 hiss (a (.isRef (.static Bundle.tN "SUPPRESSED_SENTINEL" Bundle.listD)) (by simp [Bundle.messageArmAtoms]))
  obtain ⟨ci198, i198, fB, hk198, hg198, ha198, hsB, -, hnB, htB, hffB⟩ := Cond.ownField (t := .object "java/lang/Object") Y.found L.cls (by decide +kernel) (a (.fieldLink Bundle.tN 198 Bundle.tN "backtrace" "Ljava/lang/Object;") (by simp [Bundle.messageArmAtoms])) (a (.lays Bundle.tN Bundle.tN "backtrace" "Ljava/lang/Object;") (by simp [Bundle.messageArmAtoms])) e.platform hpl
  obtain ⟨cellS, hcS', heS, -, hkeep⟩ := X.same.2.2.2.2.2 T.aS cellS0 hcS0
  have hcellS : W.heap[T.aS]? = some cellS := hcS'
  have hout' : ∀ i, (⟨T.aS, i⟩ : Loc) ∉ locs := fun i hmem => by
    have := hlocs _ hmem cellS0 hcS0
    rw [hiss] at this; cases this
  have hknownS : cellS.vm ≠ .unknown := by
    rw [heS]; intro hu
    rw [show cellS0.vm = .unknown from hu] at hiss
    cases hiss
  have hvU : cellS.slots[T.fUnassigned.slot]? = some u0.v := by rw [hkeep _ (hout' _)]; exact hu0
  have hvSen : cellS.slots[T.fSentinel.slot]? = some sen.v := by rw [hkeep _ (hout' _)]; exact hsen
  obtain ⟨iM, hffM⟩ := Y.msg
  obtain ⟨tyC, dC, hdC, hdnC⟩ := Cond.laysAt hfound hk Y.cause (a (.lays cls Bundle.tN "cause" "Ljava/lang/Throwable;") (by simp [Bundle.messageArmAtoms]))
  obtain ⟨tyS, dS, hdS, hdnS⟩ := Cond.laysAt hfound hk Y.stack (a (.lays cls Bundle.tN "stackTrace" Bundle.steD) (by simp [Bundle.messageArmAtoms]))
  obtain ⟨tyP, dP, hdP, hdnP⟩ := Cond.laysAt hfound hk Y.supp (a (.lays cls Bundle.tN "suppressedExceptions" Bundle.listD) (by simp [Bundle.messageArmAtoms]))
  obtain ⟨tyM, dM, hdM, hdnM⟩ := Cond.laysAt hfound hk hffM (a (.lays cls Bundle.tN "detailMessage" "Ljava/lang/String;") (by simp [Bundle.messageArmAtoms]))
  obtain ⟨tyB, dB, hdB, hdnB⟩ := Cond.laysAt hfound hk hffB (a (.lays cls Bundle.tN "backtrace" "Ljava/lang/Object;") (by simp [Bundle.messageArmAtoms]))
  have bC := Cond.laysApart hdB hdC hdnB hdnC (by rw [hnB, Y.causeName]; decide)
  have bS := Cond.laysApart hdB hdS hdnB hdnS (by rw [hnB, Y.stackName]; decide)
  have bP := Cond.laysApart hdB hdP hdnB hdnP (by rw [hnB, Y.suppName]; decide)
  have hbk : ((preparedCellV T.toThrowableT (freshCell P1.m.cls kX) (W.heap.size + 2) u0 sen).withEntry W.cur).slots[fB.slot]? = some .null := by
    have := fresh_default (c := P1.m.cls) tyB
    rw [htB] at this
    simpa [preparedCellV, Cell.setSlot, Cell.withEntry, Array.getElem?_setIfInBounds, bC, bS, bP, bC.symm, bS.symm, bP.symm, defaultValue] using this
  have tkC := Takes.of_laid (v := .ref (W.heap.size + 2)) hk hord tyC (by rw [Y.causeType]; rfl)
  have tkS := Takes.of_laid (v := u0.v) hk hord tyS (by rw [Y.stackType]; exact fits_refV_array _ u0)
  have tkP := Takes.of_laid (v := sen.v) hk hord tyP (by rw [Y.suppType]; exact fits_refV_object _ sen)
  have tkM := Takes.of_laid (v := .ref (W.heap.size + 1)) hk hord tyM (by rw [Y.msgType]; rfl)
  have hskip : SkipFacts T e.platform s (fun u => u) u0 ((preparedCellV T.toThrowableT (freshCell P1.m.cls kX) (W.heap.size + 2) u0 sen).withEntry W.cur) := ⟨{ ci198 := ci198, i198 := i198, fBack := fB }, ⟨hk198, hg198, ha198, hsB⟩, hbk, fun _ _ => rfl⟩
  have h0 : At W g.method c below := by rw [hg]; exact X.here
  obtain ⟨hbeyond, hfreeW⟩ := X.vmMayThrow hsize (.throwNew cls (some text) none) (fun f hf => by cases hf) rfl hRlocals
  have hfr' : W.frames.length + Ps.length + 4 < (e.platform.stackLimits W.me).1 := by have := X.framesAbove hRframes; omega
  have hwd' : (stackUse (.java g :: W.frames.tail)).2 + 13 * Ps.length + 55 ≤ (e.platform.stackLimits W.me).2 := by have := X.stackAbove hsize (K := 13 * Ps.length + 55) (by omega); omega
  have hslots : W.slotsUsed + (stringBytes (stringToUtf16 text)).size + Zs.kS.instanceTypes.size + kX.instanceTypes.size ≤ e.platform.maxSlots := by
    have := X.slotsAbove hRslots
    rw [hn4, hn6]
    omega
  obtain ⟨vm', hW', st⟩ := Steps.vmThrowsMessageColdByV p (s₀ := s) (S := W) (g := g) h0 hexec T L Z LZ M LM X.warmed (t := W.cur) rfl Zs LZs P1 L1 Ps hL hlink1 hlink hsoe hoom hfound hk hinit hord hctor
    (Launch.admits_hotImplicitExceptions X.admits) hbeyond hfreeW htext hlimit hheap (X.cellsAbove hRcells) hslots (hfitv _) (hfitc _)
    (Nn := fun u => u) heapOnly_id (fun _ _ => rfl) (fun _ => rfl) (fun u x y => setCell_twice _ _ _ _) (fun _ => Nat.le_refl _) (cN := ((preparedCellV T.toThrowableT (freshCell P1.m.cls kX) (W.heap.size + 2) u0 sen).withEntry W.cur))
    hsel0 hcellS hknownS hvU tkS (fun _ hu => hu) (fun _ hu => hu) rfl rfl rfl (by simp [preparedCellV, Cell.setSlot, Cell.withEntry]) hskip (fun _ _ hA hW _ hroom _ hrest => L.nativeOff p htr hA hW hroom hrest) hselF hvSen tkC tkP tkM Y.objLocals rfl hfr' hwd'
  rw [plainBareV_eq T.toThrowableT (W.heap.size + 2) u0 sen (.ref (W.heap.size + 1)) W.cur rfl rfl] at st
  obtain ⟨-, -, w3, w4, -, -, -⟩ := withThrown_facts e.platform W Zs text P1.m.cls kX
  have X3 := ((X.pushed (bytesOf Zs.cB (stringToUtf16 text))).pushed (stringAt Zs.cS Zs.kS Zs.fv Zs.fc (stringToUtf16 text) W.heap.size)).pushed (freshCell P1.m.cls kX)
  rw [← withString_eq] at X3
  have X4 := X3.noted hW'
  have ha : (W.heap.size + 2) < ((withThrown W Zs text P1.m.cls kX).setVm vm').heap.size := by show _ < (withThrown W Zs text P1.m.cls kX).heap.size; rw [w3]; omega
  have hcell : ((withThrown W Zs text P1.m.cls kX).setVm vm').heap[(W.heap.size + 2)]? = some (freshCell P1.m.cls kX) := w4
  have X5 := ((((X4.stored hcell T.fCause.slot (.ref (W.heap.size + 2))).storedAgain ha T.fStack.slot u0.v).storedAgain ha T.fSupp.slot sen.v).storedAgain ha T.fStack.slot u0.v).storedAgain ha T.fMsg.slot (.ref (W.heap.size + 1))
  obtain ⟨g₁, hfrM⟩ := X5.frames_eq
  have hU : ((((withThrown W Zs text P1.m.cls kX).setVm vm').setCell (W.heap.size + 2) (plainBareV T.toThrowableT (freshCell P1.m.cls kX) (W.heap.size + 2) u0 sen (.ref (W.heap.size + 1)))).setTop g).pushFrame (.throwing (W.heap.size + 2)) = (((withThrown W Zs text P1.m.cls kX).setVm vm').setCell (W.heap.size + 2) (plainBareV T.toThrowableT (freshCell P1.m.cls kX) (W.heap.size + 2) u0 sen (.ref (W.heap.size + 1)))).setFrames (.throwing (W.heap.size + 2) :: .java g :: below) := by
    rw [State.pushFrame, State.frames_setTop _ hfrM, State.setTop_of_frames _ hfrM, State.setFrames_setFrames]
  have b1 : (bytesOf Zs.cB (stringToUtf16 text)).slots.size = (stringBytes (stringToUtf16 text)).size := by
    rw [(Cell.writeAll_facts _ _).2.2]; simp [bytes0]
  have b2 : (stringAt Zs.cS Zs.kS Zs.fv Zs.fc (stringToUtf16 text) W.heap.size).slots.size = 4 := by simp [string0, Cell.setSlot, hn4]
  have b3 : (freshCell P1.m.cls kX).slots.size = 6 := by simp [hn6]
  rw [b1, b2, b3] at X5
  have e9 : slots + (stringBytes (stringToUtf16 text)).size + 4 + 6 = slots + ((stringBytes (stringToUtf16 text)).size + 4 + 6) := by omega
  rw [e9] at X5
  simp only [List.append_assoc, List.cons_append, List.nil_append] at X5
  refine ⟨((withThrown W Zs text P1.m.cls kX).setVm vm').setCell (W.heap.size + 2) (plainBareV T.toThrowableT (freshCell P1.m.cls kX) (W.heap.size + 2) u0 sen (.ref (W.heap.size + 1))), W.heap.size + 2, _, fun target ht => st _ (by rw [X.tail, ← hU]; exact ht),
    X5.forget (fun y hy => ?_), heapAt_setCell_self _ ha, hfound, rfl⟩
  simp only [List.mem_cons, List.not_mem_nil, or_false] at hy
  have hge : s.heap.size ≤ W.heap.size := X.same.2.1
  rcases hy with rfl | rfl | rfl | rfl | rfl <;> exact Nat.le_trans hge (Nat.le_add_right _ 2)
set_option maxHeartbeats 1000000 in
/-- the machine throws NullPointerException, no traces kept: from its note over the frame g to 'throwing' over the same frame (follows the proof of Stand.vmThrowsNpe, Shelf42/KT2.lean; throwsNpeColdBareVAt, Shelf42/NT91.lean, called) -/
theorem vx_npeAt {p : Program} {l : Launch} {e : Env} {R : Room} {s : State} {m₀ : MethodId} {args : Array Value} {below : List Frame} {meth : Method} {c : Code} {W : State} {locs : List Loc} {cells slots : Nat}
    (X : Stand p l e R s m₀ args below meth c W locs cells slots) (hexec : p.tables.exec = Jvm.exec) (htr : e.platform.stackTraces = false) {n : Nat}
    (h : ∀ a ∈ Bundle.npeArmAtoms n, a.before args s = true)
    (hlocs : ∀ x ∈ locs, ∀ cell, s.heap[x.base]? = some cell → cell.vm.isStatics = false)
    {g : JFrame} (hg : g.method = m₀) (hsize : g.locals.size = c.maxLocals)
    (hRframes : 7 < R.frames) (hRlocals : 2 * g.monitorRoom + (g.stack.map fun v => v.category).sum + 10240 ≤ R.locals)
    (hRcells : cells + 1 ≤ R.cells) (hRslots : slots + n ≤ R.slots) (hlocks : meth.locks = false) :
    ∃ (S : State) (q : Addr) (ce : Cell), (∀ target, Steps p.tables e below ((S.setTop g).pushFrame (.throwing q)) target → Steps p.tables e below ((W.setTop g).pushFrame (.throwNew "java/lang/NullPointerException" none none)) target) ∧
      Stand p l e R s m₀ args below meth c S locs (cells + 1) (slots + n) ∧ S.heap[q]? = some ce ∧ s.vm.findClass "java/lang/NullPointerException" = some ce.cls ∧ ce.vm = .none := by
  have howns : e.platform.frameOwnsMonitors = true := by rw [X.admits.platform]
  have hfin : e.platform.finalization = false := by rw [X.admits.platform]
  have hpl : e.platform.magicAccessors = ({} : Platform).magicAccessors := by rw [X.admits.platform]
  have hpl2 : e.platform.arrayCloneIsPublic = true := by rw [X.admits.platform]
  have a' : ∀ x, x ∈ Bundle.npeArmAtoms n → x.holds args s none s [] = true := fun x hx => h x hx
  obtain ⟨T, Z, L, LZ, Y⟩ := ThrowableC.of_atoms (args := args) howns hfin hpl (fun x hx => h x (by simp [Bundle.npeArmAtoms, hx]))
  obtain ⟨N, LN, hcN, hnNF, hordN, hffS⟩ := NpeC.of_atoms (args := args) hpl hpl2 L Y (fun x hx => h x (by simp [Bundle.npeArmAtoms, hx]))
  obtain ⟨P1, L1, hP1m, hP1s⟩ := PassC.of_atoms (args := args) (s := s) hpl (X := Bundle.nN) (Y := Bundle.rN) (by decide) (by decide) LibCode.NullPointerException.Init0.at_0 LibCode.NullPointerException.Init0.at_1 LibCode.NullPointerException.Init0.at_4 (fun x hx => h x (by simp [Bundle.npeArmAtoms, hx]))
  obtain ⟨PR, LR, hPRm, hPRs⟩ := PassC.of_atoms (args := args) (s := s) hpl (X := Bundle.rN) (Y := Bundle.eN) (by decide) (by decide) LibCode.RuntimeException.Init0.at_0 LibCode.RuntimeException.Init0.at_1 LibCode.RuntimeException.Init0.at_4 (fun x hx => h x (by simp [Bundle.npeArmAtoms, hx]))
  obtain ⟨PE, LEx, hPEm, hPEs⟩ := PassC.of_atoms (args := args) (s := s) hpl (X := Bundle.eN) (Y := Bundle.tN) (by decide) (by decide) LibCode.Exception.Init0.at_0 LibCode.Exception.Init0.at_1 LibCode.Exception.Init0.at_4 (fun x hx => h x (by simp [Bundle.npeArmAtoms, hx]))
  have hfound : s.vm.findClass Bundle.nN = some P1.m.cls := findClass_of_methodNamed hP1m
  have ecls : N.cN = P1.m.cls := Option.some.inj (hcN.symm.trans hfound)
  have hk : s.vm.classes[P1.m.cls]? = some N.kN := by rw [← ecls]; exact LN.cls
  have hinit := Cond.initialized_spec hfound hk (a' (.initialized Bundle.nN) (by simp [Bundle.npeArmAtoms]))
  have hctor : N.kN.findMethod "<init>" "()V" = some P1.m.idx := findMethod_of_methodNamed hP1m hk
  obtain ⟨c1, k1, hc1, hk1, -, -, -, hn⟩ := Cond.instantiable_spec (a' (.instantiable Bundle.nN n) (by simp [Bundle.npeArmAtoms]))
  cases Option.some.inj (hc1.symm.trans hfound)
  cases Option.some.inj (hk1.symm.trans hk)
  have hfsz : (freshCell P1.m.cls N.kN).slots.size = n := by simp [hn]
  have hlink1 : P1.sup = PR.m := Option.some.inj (hP1s.symm.trans hPRm)
  have hlinkR : PR.sup = PE.m := Option.some.inj (hPRs.symm.trans hPEm)
  have hlinkE : PE.sup = Z.m T.toThrowableT := Option.some.inj (hPEs.symm.trans Y.init0)
  have hLs : ∀ P, P ∈ [PR, PE] → P.Links0 e.platform s := fun P hP => by
    simp only [List.mem_cons, List.not_mem_nil, or_false] at hP
    rcases hP with rfl | rfl
    · exact LR
    · exact LEx
  have hsel0 : selectMethod e.platform s.vm P1.m.cls T.fill0 = .method T.fill0 := by
    obtain ⟨c2, r2, m2, q1, q2, q3, q4, -⟩ := Cond.selects_spec (a' (.selects Bundle.nN Bundle.tFill0 Bundle.tFill0) (by simp [Bundle.npeArmAtoms]))
    cases Option.some.inj (q1.symm.trans hfound)
    cases Option.some.inj (q2.symm.trans (State.methodFound?_of_named Y.fill0 (by decide)))
    cases Option.some.inj (q3.symm.trans Y.fill0)
    rw [Launch.admits_selectMethod X.admits]; exact q4
  have hselF : selectMethod e.platform s.vm P1.m.cls T.fill = .method N.fill := by
    obtain ⟨c2, r2, m2, q1, q2, q3, q4, -⟩ := Cond.selects_spec (a' (.selects Bundle.nN Bundle.tFill Bundle.nFill) (by simp [Bundle.npeArmAtoms]))
    cases Option.some.inj (q1.symm.trans hfound)
    cases Option.some.inj (q2.symm.trans (State.methodFound?_of_named Y.fill (by decide)))
    cases Option.some.inj (q3.symm.trans hnNF)
    rw [Launch.admits_selectMethod X.admits]; exact q4
  obtain ⟨cellS0, hcS0, hiss⟩ := Y.statics
  obtain ⟨u0, hu0⟩ := Cond.staticRefV Y.unassigned L.unassignedStatic L.statics hcS0 hiss (a' (.isRef (.static Bundle.tN "UNASSIGNED_STACK" Bundle.steD)) (by simp [Bundle.npeArmAtoms]))
  obtain ⟨sen, hsen⟩ := Cond.staticRefV Y.sentinel L.sentinelStatic L.statics hcS0 hiss (a' (.isRef (.static Bundle.tN "SUPPRESSED_SENTINEL" Bundle.listD)) (by simp [Bundle.npeArmAtoms]))
  obtain ⟨ci198, i198, fB, hk198, hg198, ha198, hsB, -, hnB, htB, hffB⟩ := Cond.ownField (t := .object "java/lang/Object") Y.found L.cls (by decide +kernel) (a' (.fieldLink Bundle.tN 198 Bundle.tN "backtrace" Bundle.objD) (by simp [Bundle.npeArmAtoms])) (a' (.lays Bundle.tN Bundle.tN "backtrace" Bundle.objD) (by simp [Bundle.npeArmAtoms])) e.platform hpl
  obtain ⟨cellS, hcS', heS, -, hkeep⟩ := X.same.2.2.2.2.2 T.aS cellS0 hcS0
  have hcellS : W.heap[T.aS]? = some cellS := hcS'
  have hout' : ∀ i, (⟨T.aS, i⟩ : Loc) ∉ locs := fun i hmem => by
    have := hlocs _ hmem cellS0 hcS0
    rw [hiss] at this; cases this
  have hknownS : cellS.vm ≠ .unknown := by
    rw [heS]; intro hu
    rw [show cellS0.vm = .unknown from hu] at hiss
    cases hiss
  have hvU : cellS.slots[T.fUnassigned.slot]? = some u0.v := by rw [hkeep _ (hout' _)]; exact hu0
  have hvSen : cellS.slots[T.fSentinel.slot]? = some sen.v := by rw [hkeep _ (hout' _)]; exact hsen
  obtain ⟨tyC, dC, hdC, hdnC⟩ := Cond.laysAt hfound hk Y.cause (a' (.lays Bundle.nN Bundle.tN "cause" "Ljava/lang/Throwable;") (by simp [Bundle.npeArmAtoms]))
  obtain ⟨tyS, dS, hdS, hdnS⟩ := Cond.laysAt hfound hk Y.stack (a' (.lays Bundle.nN Bundle.tN "stackTrace" Bundle.steD) (by simp [Bundle.npeArmAtoms]))
  obtain ⟨tyP, dP, hdP, hdnP⟩ := Cond.laysAt hfound hk Y.supp (a' (.lays Bundle.nN Bundle.tN "suppressedExceptions" Bundle.listD) (by simp [Bundle.npeArmAtoms]))
  obtain ⟨tyX, dX, hdX, hdnX⟩ := Cond.laysAt hfound hk hffS (a' (.lays Bundle.nN Bundle.nN "extendedMessageState" "I") (by simp [Bundle.npeArmAtoms, Bundle.npeAtoms]))
  obtain ⟨hnX, htX⟩ := State.fieldFound?_type hffS (t := .int) (by decide +kernel)
  have xC := Cond.laysApart hdC hdX hdnC hdnX (by rw [hnX, Y.causeName]; decide)
  have xS := Cond.laysApart hdS hdX hdnS hdnX (by rw [hnX, Y.stackName]; decide)
  have xP := Cond.laysApart hdP hdX hdnP hdnX (by rw [hnX, Y.suppName]; decide)
  have hv0 : (freshCell P1.m.cls N.kN).slots[N.fState.slot]? = some (.int 0) := by
    have := fresh_default (c := P1.m.cls) tyX
    rw [htX] at this; exact this
  obtain ⟨tyB, dB, hdB, hdnB⟩ := Cond.laysAt hfound hk hffB (a' (.lays Bundle.nN Bundle.tN "backtrace" Bundle.objD) (by simp [Bundle.npeArmAtoms]))
  have bC := Cond.laysApart hdB hdC hdnB hdnC (by rw [hnB, Y.causeName]; decide)
  have bS := Cond.laysApart hdB hdS hdnB hdnS (by rw [hnB, Y.stackName]; decide)
  have bP := Cond.laysApart hdB hdP hdnB hdnP (by rw [hnB, Y.suppName]; decide)
  have bX := Cond.laysApart hdB hdX hdnB hdnX (by rw [hnB, hnX]; decide)
  have hbk : ((npeCell N.toNpeT (preparedCellV T.toThrowableT (freshCell P1.m.cls N.kN) W.heap.size u0 sen) W.cur).withEntry W.cur).slots[fB.slot]? = some .null := by
    have := fresh_default (c := P1.m.cls) tyB
    rw [htB] at this
    simpa [npeCell, preparedCellV, Cell.setSlot, Cell.withEntry, Array.getElem?_setIfInBounds, bC, bS, bP, bX, bC.symm, bS.symm, bP.symm, bX.symm, defaultValue] using this
  have tkC := Takes.of_laid (v := .ref W.heap.size) hk hordN tyC (by rw [Y.causeType]; rfl)
  have tkS := Takes.of_laid (v := u0.v) hk hordN tyS (by rw [Y.stackType]; exact fits_refV_array _ u0)
  have tkP := Takes.of_laid (v := sen.v) hk hordN tyP (by rw [Y.suppType]; exact fits_refV_object _ sen)
  have tkX := Takes.of_laid (v := .int 1) hk hordN tyX (by rw [htX]; rfl)
  have hskip : SkipFacts T e.platform s (fun u => u) u0 ((npeCell N.toNpeT (preparedCellV T.toThrowableT (freshCell P1.m.cls N.kN) W.heap.size u0 sen) W.cur).withEntry W.cur) := ⟨{ ci198 := ci198, i198 := i198, fBack := fB }, ⟨hk198, hg198, ha198, hsB⟩, hbk, fun _ _ => rfl⟩
  obtain ⟨vm', X3, st, -⟩ := X.throwsNpeColdBareVAt hexec hg hsize T L Z LZ N LN P1 L1 [PR, PE] hLs hlink1 ⟨hlinkR, hlinkE, trivial⟩ hfound hk hinit hordN hctor hsel0 hselF hcellS hknownS hvU hvSen
    hv0 xC xS xP tkC tkS tkP tkX Y.objLocals hskip (fun _ _ hA hW _ hroom _ hrest => L.nativeOff p htr hA hW hroom hrest) (by simpa using hRframes) hRlocals (by simp) hRcells (by rw [hn]; exact hRslots)
  have hlt : W.heap.size < ((W.pushCell (freshCell P1.m.cls N.kN)).setVm vm').heap.size := by
    show W.heap.size < (W.pushCell (freshCell P1.m.cls N.kN)).heap.size
    rw [State.heap_size_pushCell]; omega
  rw [hfsz] at X3
  obtain ⟨g₁, hfrM⟩ := X3.frames_eq
  have hU : ((((W.pushCell (freshCell P1.m.cls N.kN)).setVm vm').setCell W.heap.size (npeBareV T.toThrowableT N.toNpeT (freshCell P1.m.cls N.kN) W.heap.size u0 sen)).setTop g).pushFrame (.throwing W.heap.size) = (((W.pushCell (freshCell P1.m.cls N.kN)).setVm vm').setCell W.heap.size (npeBareV T.toThrowableT N.toNpeT (freshCell P1.m.cls N.kN) W.heap.size u0 sen)).setFrames (.throwing W.heap.size :: .java g :: below) := by
    rw [State.pushFrame, State.frames_setTop _ hfrM, State.setTop_of_frames _ hfrM, State.setFrames_setFrames]
  refine ⟨_, W.heap.size, _, fun target ht => st.trans (by rw [← hU]; exact ht), X3.forget (fun y hy => ?_), heapAt_setCell_self _ hlt, hfound, rfl⟩
  simp only [List.mem_cons, List.not_mem_nil, or_false] at hy
  have hge : s.heap.size ≤ W.heap.size := X.same.2.1
  rcases hy with rfl | rfl | rfl | rfl | rfl <;> exact hge
/-- the words of a machine's NullPointerException, but the four that speak of the heap -/
def vx_atN (n : Nat) : List Cond := (Bundle.npeArmAtoms n).filter vx_no
/-- the words of a machine's throw with a message, but the four that speak of the heap -/
def vx_atM (X : String) (names : List String) : List Cond := (Bundle.messageArmAtoms X names).filter vx_no
section
variable {p : Program} {l : Launch} {e : Env} {R : Room} {s : State} {m : MethodId} {args : Array Value} {below : List Frame} {meth : Method} {c : Code} {H : Heap} {locs : List Loc} {cells slots : Nat}
/-- a frame seen from a rebased start, seen from the first start again -/
theorem vx_back9 {T S : State} {R' : Room} {k n : Nat} (X : Stand p l e R s m args below meth c T locs cells slots) (Y : Stand p l e R' ((T.setVm s.vm).setFrames (.invoking m args :: below)) m args below meth c T [] 0 0) (Z : Stand p l e R' ((T.setVm s.vm).setFrames (.invoking m args :: below)) m args below meth c S [] k n) :
    Stand p l e R s m args below meth c S locs (cells + k) (slots + n) := by
  have hW0 : s.WarmedH ((T.setVm s.vm).setFrames (.invoking m args :: below)).vm := State.WarmedH.refl s
  refine { admits := X.admits, cas := X.cas, clock := X.clock, frames := X.frames, room := X.room, hears := X.hears, method := X.method, code := X.code, here := Z.here, tail := Z.tail, warmed := State.WarmedH.trans hW0 Z.warmed, limits := Z.limits.trans (Y.limits.symm.trans X.limits), bytes := Z.bytes.trans (Y.bytes.symm.trans X.bytes), same := ?_ }
  obtain ⟨e1, e2⟩ := Z.same
  rw [State.setFrames_setFrames] at e1
  have h2 : (T.setVm s.vm).sameButNew (S.setVm s.vm) [] k n := ⟨e1, e2⟩
  have h3 := X.same.trans h2
  rw [List.append_nil] at h3
  exact h3
/-- from the machine's note that E is thrown here with this text -/
def vx_Note (p : Program) (l : Launch) (e : Env) (R : Room) (s : State) (m : MethodId) (args : Array Value) (below : List Frame) (meth : Method) (c : Code) (H : Heap) (locs : List Loc) (cells slots : Nat) (Q : State → Prop) (g : JFrame) (E text : String) : Prop :=
  ∀ T : State, T.heap = H → Stand p l e R s m args below meth c T locs cells slots → ∃ t, Steps p.tables e below ((T.setTop g).pushFrame (.throwNew E (some text) none)) t ∧ Q t
theorem vx_vm {pc : Nat} {ls : Array Slot} {rest : List Value} {Q : State → Prop} (hexec : p.tables.exec = Jvm.exec) (hl : l.stackTraces = false) {cls text : String} {names : List String} {nb : Nat} {A : Nat → Prop}
    (hcls : Bundle.fit cls = true) (hnames : ∀ n ∈ names, Bundle.fit n = true) (hsoe : (cls == "java/lang/StackOverflowError") = false) (hoom : (cls == "java/lang/OutOfMemoryError") = false)
    (hat : ∀ w ∈ vx_atM cls names, w.before args s = true) (hgood : ∀ w ∈ vx_atM cls names, vx_ot w = true)
    (hU : vx_Zq Bundle.tN "UNASSIGNED_STACK" Bundle.steD A s s.heap) (hN : vx_Zq Bundle.tN "SUPPRESSED_SENTINEL" Bundle.listD A s s.heap) (hS : va_S A s.heap H locs) (hsize : ls.size = c.maxLocals)
    (htext : (text == notModelled) = false) (hnb : (stringBytes (stringToUtf16 text)).size ≤ nb) (hnb1 : nb ≤ 1000)
    (hRframes : names.length + 4 < R.frames) (hRlocals : (rest.map fun v => v.category).sum + 10240 ≤ R.locals) (hshort : 13 * names.length + 55 ≤ 10240) (hRcells : cells + 3 ≤ R.cells) (hRslots : slots + (nb + 10) ≤ R.slots) (hlocks : meth.locks = false)
    (k : ∀ (H1 : Heap) (q9 : Addr) (ce : Cell), H.size ≤ H1.size → (∀ q : Nat, q < H.size → H1[q]? = H[q]?) → va_S A s.heap H1 locs → H1[q9]? = some ce → ce.vm = .none → s.vm.findClass cls = some ce.cls → vx_W p l e R s m args below meth c H1 locs (cells + 3) (slots + (nb + 10)) Q (F0 m pc ls rest) q9) :
    vx_Note p l e R s m args below meth c H locs cells slots Q (F0 m pc ls rest) cls text := by
  intro T hT X
  have htr : e.platform.stackTraces = false := (show e.platform.stackTraces = l.stackTraces by rw [X.admits.platform]).trans hl
  have Y := vx_rebase X (R' := { frames := R.frames, locals := R.locals, cells := 3, slots := nb + 10 }) (Nat.le_refl _) (Nat.le_refl _) hRcells hRslots
  have hhp : ((T.setVm s.vm).setFrames (.invoking m args :: below)).heap = H := hT
  have hW0 : s.WarmedH ((T.setVm s.vm).setFrames (.invoking m args :: below)).vm := State.WarmedH.refl s
  have hat' : ∀ w ∈ vx_atM cls names, w.before args ((T.setVm s.vm).setFrames (.invoking m args :: below)) = true := fun w hw => vx_ot_at hW0 rfl (hgood w hw) (hat w hw)
  have hU' : vx_Zq Bundle.tN "UNASSIGNED_STACK" Bundle.steD A ((T.setVm s.vm).setFrames (.invoking m args :: below)) ((T.setVm s.vm).setFrames (.invoking m args :: below)).heap := by rw [hhp]; exact vx_Zq.moved hW0.alike (hU.kept hS.2.1)
  have hN' : vx_Zq Bundle.tN "SUPPRESSED_SENTINEL" Bundle.listD A ((T.setVm s.vm).setFrames (.invoking m args :: below)) ((T.setVm s.vm).setFrames (.invoking m args :: below)).heap := by rw [hhp]; exact vx_Zq.moved hW0.alike (hN.kept hS.2.1)
  obtain ⟨S, q, ce, st, Z, hce, hcl', hv⟩ := vx_vmAt Y hexec htr (cls := cls) (names := names) (text := text) hcls hnames hsoe hoom (vx_own hat' (vx_isRefq hU'.1) (vx_isRefq hN'.1) hU'.2.word hN'.2.word) (fun x hx => nomatch hx) htext
    (by rw [Launch.admits_arrayLengthLimit X.admits]; omega) (by rw [Launch.admits_maxHeapBytes X.admits]; simp only [componentBytes]; omega)
    (g := F0 m pc ls rest) rfl hsize hRframes (by show 2 * 0 + (rest.map fun v => v.category).sum + 10240 ≤ R.locals; omega) hshort (by show 0 + 3 ≤ 3; omega) (by show 0 + (_ + 4 + 6) ≤ nb + 10; omega) hlocks
  obtain ⟨f1, f2⟩ := vx_frame Z.same
  have f1' : H.size ≤ S.heap.size := by rw [← hT]; exact f1
  have f2' : ∀ q : Nat, q < H.size → S.heap[q]? = H[q]? := fun q hq => by
    rw [← hT]
    exact f2 q (by rw [← hT] at hq; exact hq) (fun z hz => nomatch hz)
  have X5 := vx_back9 X Y Z
  have X6 : Stand p l e R s m args below meth c S locs (cells + 3) (slots + (nb + 10)) := { X5 with same := X5.same.mono (by omega) (by omega) }
  obtain ⟨t, a1, b1⟩ := k S.heap q ce f1' f2' ⟨Nat.le_trans hS.1 f1', fun q h1 h2 => (f2' q (Nat.lt_of_lt_of_le h1 hS.1)).trans (hS.2.1 q h1 h2), hS.2.2⟩ hce hv hcl' S rfl X6
  exact ⟨t, st t a1, b1⟩
/-- from the machine's note that NullPointerException is thrown here -/
def vx_NoteN (p : Program) (l : Launch) (e : Env) (R : Room) (s : State) (m : MethodId) (args : Array Value) (below : List Frame) (meth : Method) (c : Code) (H : Heap) (locs : List Loc) (cells slots : Nat) (Q : State → Prop) (g : JFrame) : Prop :=
  ∀ T : State, T.heap = H → Stand p l e R s m args below meth c T locs cells slots → ∃ t, Steps p.tables e below ((T.setTop g).pushFrame (.throwNew "java/lang/NullPointerException" none none)) t ∧ Q t
theorem vx_npe {pc : Nat} {ls : Array Slot} {rest : List Value} {Q : State → Prop} (hexec : p.tables.exec = Jvm.exec) (hl : l.stackTraces = false) {nb : Nat} {A : Nat → Prop}
    (hat : ∀ w ∈ vx_atN nb, w.before args s = true) (hgood : ∀ w ∈ vx_atN nb, vx_ot w = true)
    (hU : vx_Zq Bundle.tN "UNASSIGNED_STACK" Bundle.steD A s s.heap) (hN : vx_Zq Bundle.tN "SUPPRESSED_SENTINEL" Bundle.listD A s s.heap) (hS : va_S A s.heap H locs) (hsize : ls.size = c.maxLocals)
    (hRframes : 7 < R.frames) (hRlocals : (rest.map fun v => v.category).sum + 10240 ≤ R.locals) (hRcells : cells + 1 ≤ R.cells) (hRslots : slots + nb ≤ R.slots) (hlocks : meth.locks = false)
    (k : ∀ (H1 : Heap) (q9 : Addr) (ce : Cell), H.size ≤ H1.size → (∀ q : Nat, q < H.size → H1[q]? = H[q]?) → va_S A s.heap H1 locs → H1[q9]? = some ce → ce.vm = .none → s.vm.findClass "java/lang/NullPointerException" = some ce.cls → vx_W p l e R s m args below meth c H1 locs (cells + 1) (slots + nb) Q (F0 m pc ls rest) q9) :
    vx_NoteN p l e R s m args below meth c H locs cells slots Q (F0 m pc ls rest) := by
  intro T hT X
  have htr : e.platform.stackTraces = false := (show e.platform.stackTraces = l.stackTraces by rw [X.admits.platform]).trans hl
  have Y := vx_rebase X (R' := { frames := R.frames, locals := R.locals, cells := 1, slots := nb }) (Nat.le_refl _) (Nat.le_refl _) hRcells hRslots
  have hhp : ((T.setVm s.vm).setFrames (.invoking m args :: below)).heap = H := hT
  have hW0 : s.WarmedH ((T.setVm s.vm).setFrames (.invoking m args :: below)).vm := State.WarmedH.refl s
  have hat' : ∀ w ∈ vx_atN nb, w.before args ((T.setVm s.vm).setFrames (.invoking m args :: below)) = true := fun w hw => vx_ot_at hW0 rfl (hgood w hw) (hat w hw)
  have hU' : vx_Zq Bundle.tN "UNASSIGNED_STACK" Bundle.steD A ((T.setVm s.vm).setFrames (.invoking m args :: below)) ((T.setVm s.vm).setFrames (.invoking m args :: below)).heap := by rw [hhp]; exact vx_Zq.moved hW0.alike (hU.kept hS.2.1)
  have hN' : vx_Zq Bundle.tN "SUPPRESSED_SENTINEL" Bundle.listD A ((T.setVm s.vm).setFrames (.invoking m args :: below)) ((T.setVm s.vm).setFrames (.invoking m args :: below)).heap := by rw [hhp]; exact vx_Zq.moved hW0.alike (hN.kept hS.2.1)
  obtain ⟨S, q, ce, st, Z, hce, hcl', hv⟩ := vx_npeAt Y hexec htr (n := nb) (vx_own hat' (vx_isRefq hU'.1) (vx_isRefq hN'.1) hU'.2.word hN'.2.word) (fun x hx => nomatch hx)
    (g := F0 m pc ls rest) rfl hsize hRframes (by show 2 * 0 + (rest.map fun v => v.category).sum + 10240 ≤ R.locals; omega) (by show 0 + 1 ≤ 1; omega) (by show 0 + nb ≤ nb; omega) hlocks
  obtain ⟨f1, f2⟩ := vx_frame Z.same
  have f1' : H.size ≤ S.heap.size := by rw [← hT]; exact f1
  have f2' : ∀ q : Nat, q < H.size → S.heap[q]? = H[q]? := fun q hq => by
    rw [← hT]
    exact f2 q (by rw [← hT] at hq; exact hq) (fun z hz => nomatch hz)
  have X5 := vx_back9 X Y Z
  have X6 : Stand p l e R s m args below meth c S locs (cells + 1) (slots + nb) := { X5 with same := X5.same.mono (by omega) (by omega) }
  obtain ⟨t, a1, b1⟩ := k S.heap q ce f1' f2' ⟨Nat.le_trans hS.1 f1', fun q h1 h2 => (f2' q (Nat.lt_of_lt_of_le h1 hS.1)).trans (hS.2.1 q h1 h2), hS.2.2⟩ hce hv hcl' S rfl X6
  exact ⟨t, st t a1, b1⟩
variable {Q : State → Prop} {cc : ByteArray} {pc : Nat} {ls : Array Slot} {rest : List Value}
theorem vx_idivZ (hexec : p.tables.exec = Jvm.exec) (hb : c.code = cc) {a b : Int32} (h0 : b = 0) (d : decode cc pc = .ok (.idiv, 1)) (k : vx_Note p l e R s m args below meth c H locs cells slots Q (F0 m pc ls rest) "java/lang/ArithmeticException" "/ by zero") :
    W p l e R s m args below meth c H locs cells slots Q (F0 m pc ls (.int b :: .int a :: rest)) := by
  intro T hT X
  obtain ⟨t, st, q⟩ := k T hT X
  exact ⟨t, X.idivZero hexec (g := F0 m pc ls (.int b :: .int a :: rest)) rfl (a := a) (rest := rest) (by rw [h0]) (by rw [hb]; exact d) t st, q⟩
theorem vx_iremZ (hexec : p.tables.exec = Jvm.exec) (hb : c.code = cc) {a b : Int32} (h0 : b = 0) (d : decode cc pc = .ok (.irem, 1)) (k : vx_Note p l e R s m args below meth c H locs cells slots Q (F0 m pc ls rest) "java/lang/ArithmeticException" "/ by zero") :
    W p l e R s m args below meth c H locs cells slots Q (F0 m pc ls (.int b :: .int a :: rest)) := by
  intro T hT X
  obtain ⟨t, st, q⟩ := k T hT X
  exact ⟨t, X.iremZero hexec (g := F0 m pc ls (.int b :: .int a :: rest)) rfl (a := a) (rest := rest) (by rw [h0]) (by rw [hb]; exact d) t st, q⟩
theorem vx_ldivZ (hexec : p.tables.exec = Jvm.exec) (hb : c.code = cc) {a b : Int64} (h0 : b = 0) (d : decode cc pc = .ok (.ldiv, 1)) (k : vx_Note p l e R s m args below meth c H locs cells slots Q (F0 m pc ls rest) "java/lang/ArithmeticException" "/ by zero") :
    W p l e R s m args below meth c H locs cells slots Q (F0 m pc ls (.long b :: .long a :: rest)) := by
  intro T hT X
  obtain ⟨t, st, q⟩ := k T hT X
  exact ⟨t, X.ldivZero hexec (g := F0 m pc ls (.long b :: .long a :: rest)) rfl (a := a) (rest := rest) (by rw [h0]) (by rw [hb]; exact d) t st, q⟩
theorem vx_lremZ (hexec : p.tables.exec = Jvm.exec) (hb : c.code = cc) {a b : Int64} (h0 : b = 0) (d : decode cc pc = .ok (.lrem, 1)) (k : vx_Note p l e R s m args below meth c H locs cells slots Q (F0 m pc ls rest) "java/lang/ArithmeticException" "/ by zero") :
    W p l e R s m args below meth c H locs cells slots Q (F0 m pc ls (.long b :: .long a :: rest)) := by
  intro T hT X
  obtain ⟨t, st, q⟩ := k T hT X
  exact ⟨t, X.lremZero hexec (g := F0 m pc ls (.long b :: .long a :: rest)) rfl (a := a) (rest := rest) (by rw [h0]) (by rw [hb]; exact d) t st, q⟩
theorem vx_ialdZ {D : va_G} {cl : List vw_C} {ws : va_W} {tys : List (ClassId × FieldType)} {a : Nat} (hexec : p.tables.exec = Jvm.exec) (hb : c.code = cc) (hK : va_K D cl tys s) (hP : va_P D cl ws H) (q0 t0 : Nat) {cA : ClassId} {n : Nat} {f : Nat → Int32} (ha : ws[q0]? = some (a, .inl (cA, n, .inl f))) (ht : tys[t0]? = some (cA, .int)) {i : Int32} (hout : ¬ vp_in i n) (hdg : decode cc pc = .ok (.iaload, 1))
    (k : ∀ tx : String, tx = (toString "Index " ++ toString i ++ toString " out of bounds for length " ++ toString n : String) → vx_Note p l e R s m args below meth c H locs cells slots Q (F0 m pc ls rest) "java/lang/ArrayIndexOutOfBoundsException" tx) : W p l e R s m args below meth c H locs cells slots Q (F0 m pc ls (.int i :: .ref a :: rest)) := by
  intro T hT X
  obtain ⟨t, st, q⟩ := k _ rfl T hT X
  refine ⟨t, ?_, q⟩
  have h1 := X.ialoadOut hexec (by rw [hT]; exact hP q0 _ ha) ((hK.2 t0 _ ht).1 n (fun j => .int (f j))) (j := i) (by show (i < 0 ∨ (arrV _ _ _).slots.size ≤ _); rw [arrV_size]; exact Classical.byContradiction hout) (g := F0 m pc ls (.int i :: .ref a :: rest)) rfl (rest := rest) rfl (by rw [hb]; exact hdg) t
  simp only [arrV_size] at h1
  exact h1 st
theorem vx_iastZ {D : va_G} {cl : List vw_C} {ws : va_W} {tys : List (ClassId × FieldType)} {a : Nat} (hexec : p.tables.exec = Jvm.exec) (hb : c.code = cc) (hK : va_K D cl tys s) (hP : va_P D cl ws H) (q0 t0 : Nat) {cA : ClassId} {n : Nat} {f : Nat → Int32} (ha : ws[q0]? = some (a, .inl (cA, n, .inl f))) (ht : tys[t0]? = some (cA, .int)) {i : Int32} {x : Int32} (hout : ¬ vp_in i n) (hdg : decode cc pc = .ok (.iastore, 1))
    (k : ∀ tx : String, tx = (toString "Index " ++ toString i ++ toString " out of bounds for length " ++ toString n : String) → vx_Note p l e R s m args below meth c H locs cells slots Q (F0 m pc ls rest) "java/lang/ArrayIndexOutOfBoundsException" tx) : W p l e R s m args below meth c H locs cells slots Q (F0 m pc ls (.int x :: .int i :: .ref a :: rest)) := by
  intro T hT X
  obtain ⟨t, st, q⟩ := k _ rfl T hT X
  refine ⟨t, ?_, q⟩
  have h1 := X.iastoreOut hexec (by rw [hT]; exact hP q0 _ ha) ((hK.2 t0 _ ht).1 n (fun j => .int (f j))) (j := i) (by show (i < 0 ∨ (arrV _ _ _).slots.size ≤ _); rw [arrV_size]; exact Classical.byContradiction hout) (g := F0 m pc ls (.int x :: .int i :: .ref a :: rest)) rfl (rest := rest) rfl (by rw [hb]; exact hdg) t
  simp only [arrV_size] at h1
  exact h1 st
theorem vx_baldZ {D : va_G} {cl : List vw_C} {ws : va_W} {tys : List (ClassId × FieldType)} {a : Nat} (hexec : p.tables.exec = Jvm.exec) (hb : c.code = cc) (hK : va_K D cl tys s) (hP : va_P D cl ws H) (q0 t0 : Nat) {cA : ClassId} {n : Nat} {f : Nat → Int32} (ha : ws[q0]? = some (a, .inl (cA, n, .inl f))) (ht : tys[t0]? = some (cA, .byte)) {i : Int32} (hout : ¬ vp_in i n) (hdg : decode cc pc = .ok (.baload, 1))
    (k : ∀ tx : String, tx = (toString "Index " ++ toString i ++ toString " out of bounds for length " ++ toString n : String) → vx_Note p l e R s m args below meth c H locs cells slots Q (F0 m pc ls rest) "java/lang/ArrayIndexOutOfBoundsException" tx) : W p l e R s m args below meth c H locs cells slots Q (F0 m pc ls (.int i :: .ref a :: rest)) := by
  intro T hT X
  obtain ⟨t, st, q⟩ := k _ rfl T hT X
  refine ⟨t, ?_, q⟩
  have h1 := X.baloadOut hexec (by rw [hT]; exact hP q0 _ ha) ((hK.2 t0 _ ht).1 n (fun j => .int (f j))) (j := i) (by show (i < 0 ∨ (arrV _ _ _).slots.size ≤ _); rw [arrV_size]; exact Classical.byContradiction hout) (g := F0 m pc ls (.int i :: .ref a :: rest)) rfl (rest := rest) rfl (by rw [hb]; exact hdg) t
  simp only [arrV_size] at h1
  exact h1 st
theorem vx_bastZ {D : va_G} {cl : List vw_C} {ws : va_W} {tys : List (ClassId × FieldType)} {a : Nat} (hexec : p.tables.exec = Jvm.exec) (hb : c.code = cc) (hK : va_K D cl tys s) (hP : va_P D cl ws H) (q0 t0 : Nat) {cA : ClassId} {n : Nat} {f : Nat → Int32} (ha : ws[q0]? = some (a, .inl (cA, n, .inl f))) (ht : tys[t0]? = some (cA, .byte)) {i : Int32} {x : Int32} (hout : ¬ vp_in i n) (hdg : decode cc pc = .ok (.bastore, 1))
    (k : ∀ tx : String, tx = (toString "Index " ++ toString i ++ toString " out of bounds for length " ++ toString n : String) → vx_Note p l e R s m args below meth c H locs cells slots Q (F0 m pc ls rest) "java/lang/ArrayIndexOutOfBoundsException" tx) : W p l e R s m args below meth c H locs cells slots Q (F0 m pc ls (.int x :: .int i :: .ref a :: rest)) := by
  intro T hT X
  obtain ⟨t, st, q⟩ := k _ rfl T hT X
  refine ⟨t, ?_, q⟩
  have h1 := X.bastoreOut hexec (by rw [hT]; exact hP q0 _ ha) ((hK.2 t0 _ ht).1 n (fun j => .int (f j))) (j := i) (by show (i < 0 ∨ (arrV _ _ _).slots.size ≤ _); rw [arrV_size]; exact Classical.byContradiction hout) (g := F0 m pc ls (.int x :: .int i :: .ref a :: rest)) rfl (rest := rest) rfl (by rw [hb]; exact hdg) t
  simp only [arrV_size] at h1
  exact h1 st
theorem vx_zaldZ {D : va_G} {cl : List vw_C} {ws : va_W} {tys : List (ClassId × FieldType)} {a : Nat} (hexec : p.tables.exec = Jvm.exec) (hb : c.code = cc) (hK : va_K D cl tys s) (hP : va_P D cl ws H) (q0 t0 : Nat) {cA : ClassId} {n : Nat} {f : Nat → Int32} (ha : ws[q0]? = some (a, .inl (cA, n, .inl f))) (ht : tys[t0]? = some (cA, .boolean)) {i : Int32} (hout : ¬ vp_in i n) (hdg : decode cc pc = .ok (.baload, 1))
    (k : ∀ tx : String, tx = (toString "Index " ++ toString i ++ toString " out of bounds for length " ++ toString n : String) → vx_Note p l e R s m args below meth c H locs cells slots Q (F0 m pc ls rest) "java/lang/ArrayIndexOutOfBoundsException" tx) : W p l e R s m args below meth c H locs cells slots Q (F0 m pc ls (.int i :: .ref a :: rest)) := by
  intro T hT X
  obtain ⟨t, st, q⟩ := k _ rfl T hT X
  refine ⟨t, ?_, q⟩
  have h1 := X.baloadOut hexec (by rw [hT]; exact hP q0 _ ha) ((hK.2 t0 _ ht).1 n (fun j => .int (f j))) (j := i) (by show (i < 0 ∨ (arrV _ _ _).slots.size ≤ _); rw [arrV_size]; exact Classical.byContradiction hout) (g := F0 m pc ls (.int i :: .ref a :: rest)) rfl (rest := rest) rfl (by rw [hb]; exact hdg) t
  simp only [arrV_size] at h1
  exact h1 st
theorem vx_zastZ {D : va_G} {cl : List vw_C} {ws : va_W} {tys : List (ClassId × FieldType)} {a : Nat} (hexec : p.tables.exec = Jvm.exec) (hb : c.code = cc) (hK : va_K D cl tys s) (hP : va_P D cl ws H) (q0 t0 : Nat) {cA : ClassId} {n : Nat} {f : Nat → Int32} (ha : ws[q0]? = some (a, .inl (cA, n, .inl f))) (ht : tys[t0]? = some (cA, .boolean)) {i : Int32} {x : Int32} (hout : ¬ vp_in i n) (hdg : decode cc pc = .ok (.bastore, 1))
    (k : ∀ tx : String, tx = (toString "Index " ++ toString i ++ toString " out of bounds for length " ++ toString n : String) → vx_Note p l e R s m args below meth c H locs cells slots Q (F0 m pc ls rest) "java/lang/ArrayIndexOutOfBoundsException" tx) : W p l e R s m args below meth c H locs cells slots Q (F0 m pc ls (.int x :: .int i :: .ref a :: rest)) := by
  intro T hT X
  obtain ⟨t, st, q⟩ := k _ rfl T hT X
  refine ⟨t, ?_, q⟩
  have h1 := X.bastoreOut hexec (by rw [hT]; exact hP q0 _ ha) ((hK.2 t0 _ ht).1 n (fun j => .int (f j))) (j := i) (by show (i < 0 ∨ (arrV _ _ _).slots.size ≤ _); rw [arrV_size]; exact Classical.byContradiction hout) (g := F0 m pc ls (.int x :: .int i :: .ref a :: rest)) rfl (rest := rest) rfl (by rw [hb]; exact hdg) t
  simp only [arrV_size] at h1
  exact h1 st
theorem vx_caldZ {D : va_G} {cl : List vw_C} {ws : va_W} {tys : List (ClassId × FieldType)} {a : Nat} (hexec : p.tables.exec = Jvm.exec) (hb : c.code = cc) (hK : va_K D cl tys s) (hP : va_P D cl ws H) (q0 t0 : Nat) {cA : ClassId} {n : Nat} {f : Nat → Int32} (ha : ws[q0]? = some (a, .inl (cA, n, .inl f))) (ht : tys[t0]? = some (cA, .char)) {i : Int32} (hout : ¬ vp_in i n) (hdg : decode cc pc = .ok (.caload, 1))
    (k : ∀ tx : String, tx = (toString "Index " ++ toString i ++ toString " out of bounds for length " ++ toString n : String) → vx_Note p l e R s m args below meth c H locs cells slots Q (F0 m pc ls rest) "java/lang/ArrayIndexOutOfBoundsException" tx) : W p l e R s m args below meth c H locs cells slots Q (F0 m pc ls (.int i :: .ref a :: rest)) := by
  intro T hT X
  obtain ⟨t, st, q⟩ := k _ rfl T hT X
  refine ⟨t, ?_, q⟩
  have h1 := X.caloadOut hexec (by rw [hT]; exact hP q0 _ ha) ((hK.2 t0 _ ht).1 n (fun j => .int (f j))) (j := i) (by show (i < 0 ∨ (arrV _ _ _).slots.size ≤ _); rw [arrV_size]; exact Classical.byContradiction hout) (g := F0 m pc ls (.int i :: .ref a :: rest)) rfl (rest := rest) rfl (by rw [hb]; exact hdg) t
  simp only [arrV_size] at h1
  exact h1 st
theorem vx_castZ {D : va_G} {cl : List vw_C} {ws : va_W} {tys : List (ClassId × FieldType)} {a : Nat} (hexec : p.tables.exec = Jvm.exec) (hb : c.code = cc) (hK : va_K D cl tys s) (hP : va_P D cl ws H) (q0 t0 : Nat) {cA : ClassId} {n : Nat} {f : Nat → Int32} (ha : ws[q0]? = some (a, .inl (cA, n, .inl f))) (ht : tys[t0]? = some (cA, .char)) {i : Int32} {x : Int32} (hout : ¬ vp_in i n) (hdg : decode cc pc = .ok (.castore, 1))
    (k : ∀ tx : String, tx = (toString "Index " ++ toString i ++ toString " out of bounds for length " ++ toString n : String) → vx_Note p l e R s m args below meth c H locs cells slots Q (F0 m pc ls rest) "java/lang/ArrayIndexOutOfBoundsException" tx) : W p l e R s m args below meth c H locs cells slots Q (F0 m pc ls (.int x :: .int i :: .ref a :: rest)) := by
  intro T hT X
  obtain ⟨t, st, q⟩ := k _ rfl T hT X
  refine ⟨t, ?_, q⟩
  have h1 := X.castoreOut hexec (by rw [hT]; exact hP q0 _ ha) ((hK.2 t0 _ ht).1 n (fun j => .int (f j))) (j := i) (by show (i < 0 ∨ (arrV _ _ _).slots.size ≤ _); rw [arrV_size]; exact Classical.byContradiction hout) (g := F0 m pc ls (.int x :: .int i :: .ref a :: rest)) rfl (rest := rest) rfl (by rw [hb]; exact hdg) t
  simp only [arrV_size] at h1
  exact h1 st
theorem vx_saldZ {D : va_G} {cl : List vw_C} {ws : va_W} {tys : List (ClassId × FieldType)} {a : Nat} (hexec : p.tables.exec = Jvm.exec) (hb : c.code = cc) (hK : va_K D cl tys s) (hP : va_P D cl ws H) (q0 t0 : Nat) {cA : ClassId} {n : Nat} {f : Nat → Int32} (ha : ws[q0]? = some (a, .inl (cA, n, .inl f))) (ht : tys[t0]? = some (cA, .short)) {i : Int32} (hout : ¬ vp_in i n) (hdg : decode cc pc = .ok (.saload, 1))
    (k : ∀ tx : String, tx = (toString "Index " ++ toString i ++ toString " out of bounds for length " ++ toString n : String) → vx_Note p l e R s m args below meth c H locs cells slots Q (F0 m pc ls rest) "java/lang/ArrayIndexOutOfBoundsException" tx) : W p l e R s m args below meth c H locs cells slots Q (F0 m pc ls (.int i :: .ref a :: rest)) := by
  intro T hT X
  obtain ⟨t, st, q⟩ := k _ rfl T hT X
  refine ⟨t, ?_, q⟩
  have h1 := X.saloadOut hexec (by rw [hT]; exact hP q0 _ ha) ((hK.2 t0 _ ht).1 n (fun j => .int (f j))) (j := i) (by show (i < 0 ∨ (arrV _ _ _).slots.size ≤ _); rw [arrV_size]; exact Classical.byContradiction hout) (g := F0 m pc ls (.int i :: .ref a :: rest)) rfl (rest := rest) rfl (by rw [hb]; exact hdg) t
  simp only [arrV_size] at h1
  exact h1 st
theorem vx_sastZ {D : va_G} {cl : List vw_C} {ws : va_W} {tys : List (ClassId × FieldType)} {a : Nat} (hexec : p.tables.exec = Jvm.exec) (hb : c.code = cc) (hK : va_K D cl tys s) (hP : va_P D cl ws H) (q0 t0 : Nat) {cA : ClassId} {n : Nat} {f : Nat → Int32} (ha : ws[q0]? = some (a, .inl (cA, n, .inl f))) (ht : tys[t0]? = some (cA, .short)) {i : Int32} {x : Int32} (hout : ¬ vp_in i n) (hdg : decode cc pc = .ok (.sastore, 1))
    (k : ∀ tx : String, tx = (toString "Index " ++ toString i ++ toString " out of bounds for length " ++ toString n : String) → vx_Note p l e R s m args below meth c H locs cells slots Q (F0 m pc ls rest) "java/lang/ArrayIndexOutOfBoundsException" tx) : W p l e R s m args below meth c H locs cells slots Q (F0 m pc ls (.int x :: .int i :: .ref a :: rest)) := by
  intro T hT X
  obtain ⟨t, st, q⟩ := k _ rfl T hT X
  refine ⟨t, ?_, q⟩
  have h1 := X.sastoreOut hexec (by rw [hT]; exact hP q0 _ ha) ((hK.2 t0 _ ht).1 n (fun j => .int (f j))) (j := i) (by show (i < 0 ∨ (arrV _ _ _).slots.size ≤ _); rw [arrV_size]; exact Classical.byContradiction hout) (g := F0 m pc ls (.int x :: .int i :: .ref a :: rest)) rfl (rest := rest) rfl (by rw [hb]; exact hdg) t
  simp only [arrV_size] at h1
  exact h1 st
theorem vx_laldZ {D : va_G} {cl : List vw_C} {ws : va_W} {tys : List (ClassId × FieldType)} {a : Nat} (hexec : p.tables.exec = Jvm.exec) (hb : c.code = cc) (hK : va_K D cl tys s) (hP : va_P D cl ws H) (q0 t0 : Nat) {cA : ClassId} {n : Nat} {f : Nat → Int64} (ha : ws[q0]? = some (a, .inl (cA, n, .inr (.inl f)))) (ht : tys[t0]? = some (cA, .long)) {i : Int32} (hout : ¬ vp_in i n) (hdg : decode cc pc = .ok (.laload, 1))
    (k : ∀ tx : String, tx = (toString "Index " ++ toString i ++ toString " out of bounds for length " ++ toString n : String) → vx_Note p l e R s m args below meth c H locs cells slots Q (F0 m pc ls rest) "java/lang/ArrayIndexOutOfBoundsException" tx) : W p l e R s m args below meth c H locs cells slots Q (F0 m pc ls (.int i :: .ref a :: rest)) := by
  intro T hT X
  obtain ⟨t, st, q⟩ := k _ rfl T hT X
  refine ⟨t, ?_, q⟩
  have h1 := X.laloadOut hexec (by rw [hT]; exact hP q0 _ ha) ((hK.2 t0 _ ht).1 n (fun j => .long (f j))) (j := i) (by show (i < 0 ∨ (arrV _ _ _).slots.size ≤ _); rw [arrV_size]; exact Classical.byContradiction hout) (g := F0 m pc ls (.int i :: .ref a :: rest)) rfl (rest := rest) rfl (by rw [hb]; exact hdg) t
  simp only [arrV_size] at h1
  exact h1 st
theorem vx_lastZ {D : va_G} {cl : List vw_C} {ws : va_W} {tys : List (ClassId × FieldType)} {a : Nat} (hexec : p.tables.exec = Jvm.exec) (hb : c.code = cc) (hK : va_K D cl tys s) (hP : va_P D cl ws H) (q0 t0 : Nat) {cA : ClassId} {n : Nat} {f : Nat → Int64} (ha : ws[q0]? = some (a, .inl (cA, n, .inr (.inl f)))) (ht : tys[t0]? = some (cA, .long)) {i : Int32} {x : Int64} (hout : ¬ vp_in i n) (hdg : decode cc pc = .ok (.lastore, 1))
    (k : ∀ tx : String, tx = (toString "Index " ++ toString i ++ toString " out of bounds for length " ++ toString n : String) → vx_Note p l e R s m args below meth c H locs cells slots Q (F0 m pc ls rest) "java/lang/ArrayIndexOutOfBoundsException" tx) : W p l e R s m args below meth c H locs cells slots Q (F0 m pc ls (.long x :: .int i :: .ref a :: rest)) := by
  intro T hT X
  obtain ⟨t, st, q⟩ := k _ rfl T hT X
  refine ⟨t, ?_, q⟩
  have h1 := X.lastoreOut hexec (by rw [hT]; exact hP q0 _ ha) ((hK.2 t0 _ ht).1 n (fun j => .long (f j))) (j := i) (by show (i < 0 ∨ (arrV _ _ _).slots.size ≤ _); rw [arrV_size]; exact Classical.byContradiction hout) (g := F0 m pc ls (.long x :: .int i :: .ref a :: rest)) rfl (rest := rest) rfl (by rw [hb]; exact hdg) t
  simp only [arrV_size] at h1
  exact h1 st
theorem vx_faldZ {D : va_G} {cl : List vw_C} {ws : va_W} {tys : List (ClassId × FieldType)} {a : Nat} (hexec : p.tables.exec = Jvm.exec) (hb : c.code = cc) (hK : va_K D cl tys s) (hP : va_P D cl ws H) (q0 t0 : Nat) {cA : ClassId} {n : Nat} {f : Nat → UInt32} (ha : ws[q0]? = some (a, .inl (cA, n, .inr (.inr (.inl f))))) (ht : tys[t0]? = some (cA, .float)) {i : Int32} (hout : ¬ vp_in i n) (hdg : decode cc pc = .ok (.faload, 1))
    (k : ∀ tx : String, tx = (toString "Index " ++ toString i ++ toString " out of bounds for length " ++ toString n : String) → vx_Note p l e R s m args below meth c H locs cells slots Q (F0 m pc ls rest) "java/lang/ArrayIndexOutOfBoundsException" tx) : W p l e R s m args below meth c H locs cells slots Q (F0 m pc ls (.int i :: .ref a :: rest)) := by
  intro T hT X
  obtain ⟨t, st, q⟩ := k _ rfl T hT X
  refine ⟨t, ?_, q⟩
  have h1 := X.faloadOut hexec (by rw [hT]; exact hP q0 _ ha) ((hK.2 t0 _ ht).1 n (fun j => .float (f j))) (j := i) (by show (i < 0 ∨ (arrV _ _ _).slots.size ≤ _); rw [arrV_size]; exact Classical.byContradiction hout) (g := F0 m pc ls (.int i :: .ref a :: rest)) rfl (rest := rest) rfl (by rw [hb]; exact hdg) t
  simp only [arrV_size] at h1
  exact h1 st
theorem vx_fastZ {D : va_G} {cl : List vw_C} {ws : va_W} {tys : List (ClassId × FieldType)} {a : Nat} (hexec : p.tables.exec = Jvm.exec) (hb : c.code = cc) (hK : va_K D cl tys s) (hP : va_P D cl ws H) (q0 t0 : Nat) {cA : ClassId} {n : Nat} {f : Nat → UInt32} (ha : ws[q0]? = some (a, .inl (cA, n, .inr (.inr (.inl f))))) (ht : tys[t0]? = some (cA, .float)) {i : Int32} {x : UInt32} (hout : ¬ vp_in i n) (hdg : decode cc pc = .ok (.fastore, 1))
    (k : ∀ tx : String, tx = (toString "Index " ++ toString i ++ toString " out of bounds for length " ++ toString n : String) → vx_Note p l e R s m args below meth c H locs cells slots Q (F0 m pc ls rest) "java/lang/ArrayIndexOutOfBoundsException" tx) : W p l e R s m args below meth c H locs cells slots Q (F0 m pc ls (.float x :: .int i :: .ref a :: rest)) := by
  intro T hT X
  obtain ⟨t, st, q⟩ := k _ rfl T hT X
  refine ⟨t, ?_, q⟩
  have h1 := X.fastoreOut hexec (by rw [hT]; exact hP q0 _ ha) ((hK.2 t0 _ ht).1 n (fun j => .float (f j))) (j := i) (by show (i < 0 ∨ (arrV _ _ _).slots.size ≤ _); rw [arrV_size]; exact Classical.byContradiction hout) (g := F0 m pc ls (.float x :: .int i :: .ref a :: rest)) rfl (rest := rest) rfl (by rw [hb]; exact hdg) t
  simp only [arrV_size] at h1
  exact h1 st
theorem vx_daldZ {D : va_G} {cl : List vw_C} {ws : va_W} {tys : List (ClassId × FieldType)} {a : Nat} (hexec : p.tables.exec = Jvm.exec) (hb : c.code = cc) (hK : va_K D cl tys s) (hP : va_P D cl ws H) (q0 t0 : Nat) {cA : ClassId} {n : Nat} {f : Nat → UInt64} (ha : ws[q0]? = some (a, .inl (cA, n, .inr (.inr (.inr (.inl f)))))) (ht : tys[t0]? = some (cA, .double)) {i : Int32} (hout : ¬ vp_in i n) (hdg : decode cc pc = .ok (.daload, 1))
    (k : ∀ tx : String, tx = (toString "Index " ++ toString i ++ toString " out of bounds for length " ++ toString n : String) → vx_Note p l e R s m args below meth c H locs cells slots Q (F0 m pc ls rest) "java/lang/ArrayIndexOutOfBoundsException" tx) : W p l e R s m args below meth c H locs cells slots Q (F0 m pc ls (.int i :: .ref a :: rest)) := by
  intro T hT X
  obtain ⟨t, st, q⟩ := k _ rfl T hT X
  refine ⟨t, ?_, q⟩
  have h1 := X.daloadOut hexec (by rw [hT]; exact hP q0 _ ha) ((hK.2 t0 _ ht).1 n (fun j => .double (f j))) (j := i) (by show (i < 0 ∨ (arrV _ _ _).slots.size ≤ _); rw [arrV_size]; exact Classical.byContradiction hout) (g := F0 m pc ls (.int i :: .ref a :: rest)) rfl (rest := rest) rfl (by rw [hb]; exact hdg) t
  simp only [arrV_size] at h1
  exact h1 st
theorem vx_dastZ {D : va_G} {cl : List vw_C} {ws : va_W} {tys : List (ClassId × FieldType)} {a : Nat} (hexec : p.tables.exec = Jvm.exec) (hb : c.code = cc) (hK : va_K D cl tys s) (hP : va_P D cl ws H) (q0 t0 : Nat) {cA : ClassId} {n : Nat} {f : Nat → UInt64} (ha : ws[q0]? = some (a, .inl (cA, n, .inr (.inr (.inr (.inl f)))))) (ht : tys[t0]? = some (cA, .double)) {i : Int32} {x : UInt64} (hout : ¬ vp_in i n) (hdg : decode cc pc = .ok (.dastore, 1))
    (k : ∀ tx : String, tx = (toString "Index " ++ toString i ++ toString " out of bounds for length " ++ toString n : String) → vx_Note p l e R s m args below meth c H locs cells slots Q (F0 m pc ls rest) "java/lang/ArrayIndexOutOfBoundsException" tx) : W p l e R s m args below meth c H locs cells slots Q (F0 m pc ls (.double x :: .int i :: .ref a :: rest)) := by
  intro T hT X
  obtain ⟨t, st, q⟩ := k _ rfl T hT X
  refine ⟨t, ?_, q⟩
  have h1 := X.dastoreOut hexec (by rw [hT]; exact hP q0 _ ha) ((hK.2 t0 _ ht).1 n (fun j => .double (f j))) (j := i) (by show (i < 0 ∨ (arrV _ _ _).slots.size ≤ _); rw [arrV_size]; exact Classical.byContradiction hout) (g := F0 m pc ls (.double x :: .int i :: .ref a :: rest)) rfl (rest := rest) rfl (by rw [hb]; exact hdg) t
  simp only [arrV_size] at h1
  exact h1 st
theorem vx_arraylengthN (hexec : p.tables.exec = Jvm.exec) (hb : c.code = cc) (hdg : decode cc pc = .ok (.arraylength, 1)) (k : vx_NoteN p l e R s m args below meth c H locs cells slots Q (F0 m pc ls rest)) : W p l e R s m args below meth c H locs cells slots Q (F0 m pc ls (.null :: rest)) := by
  intro T hT X
  obtain ⟨t, st, q⟩ := k T hT X
  exact ⟨t, X.arraylengthNull hexec (g := F0 m pc ls (.null :: rest)) rfl (rest := rest) rfl (by rw [hb]; exact hdg) t st, q⟩
theorem vx_ialoadN (hexec : p.tables.exec = Jvm.exec) (hb : c.code = cc) {i : Int32} (hdg : decode cc pc = .ok (.iaload, 1)) (k : vx_NoteN p l e R s m args below meth c H locs cells slots Q (F0 m pc ls rest)) : W p l e R s m args below meth c H locs cells slots Q (F0 m pc ls (.int i :: .null :: rest)) := by
  intro T hT X
  obtain ⟨t, st, q⟩ := k T hT X
  exact ⟨t, X.ialoadNull hexec (g := F0 m pc ls (.int i :: .null :: rest)) rfl (rest := rest) rfl (by rw [hb]; exact hdg) t st, q⟩
theorem vx_laloadN (hexec : p.tables.exec = Jvm.exec) (hb : c.code = cc) {i : Int32} (hdg : decode cc pc = .ok (.laload, 1)) (k : vx_NoteN p l e R s m args below meth c H locs cells slots Q (F0 m pc ls rest)) : W p l e R s m args below meth c H locs cells slots Q (F0 m pc ls (.int i :: .null :: rest)) := by
  intro T hT X
  obtain ⟨t, st, q⟩ := k T hT X
  exact ⟨t, X.laloadNull hexec (g := F0 m pc ls (.int i :: .null :: rest)) rfl (rest := rest) rfl (by rw [hb]; exact hdg) t st, q⟩
theorem vx_faloadN (hexec : p.tables.exec = Jvm.exec) (hb : c.code = cc) {i : Int32} (hdg : decode cc pc = .ok (.faload, 1)) (k : vx_NoteN p l e R s m args below meth c H locs cells slots Q (F0 m pc ls rest)) : W p l e R s m args below meth c H locs cells slots Q (F0 m pc ls (.int i :: .null :: rest)) := by
  intro T hT X
  obtain ⟨t, st, q⟩ := k T hT X
  exact ⟨t, X.faloadNull hexec (g := F0 m pc ls (.int i :: .null :: rest)) rfl (rest := rest) rfl (by rw [hb]; exact hdg) t st, q⟩
theorem vx_daloadN (hexec : p.tables.exec = Jvm.exec) (hb : c.code = cc) {i : Int32} (hdg : decode cc pc = .ok (.daload, 1)) (k : vx_NoteN p l e R s m args below meth c H locs cells slots Q (F0 m pc ls rest)) : W p l e R s m args below meth c H locs cells slots Q (F0 m pc ls (.int i :: .null :: rest)) := by
  intro T hT X
  obtain ⟨t, st, q⟩ := k T hT X
  exact ⟨t, X.daloadNull hexec (g := F0 m pc ls (.int i :: .null :: rest)) rfl (rest := rest) rfl (by rw [hb]; exact hdg) t st, q⟩
theorem vx_aaloadN (hexec : p.tables.exec = Jvm.exec) (hb : c.code = cc) {i : Int32} (hdg : decode cc pc = .ok (.aaload, 1)) (k : vx_NoteN p l e R s m args below meth c H locs cells slots Q (F0 m pc ls rest)) : W p l e R s m args below meth c H locs cells slots Q (F0 m pc ls (.int i :: .null :: rest)) := by
  intro T hT X
  obtain ⟨t, st, q⟩ := k T hT X
  exact ⟨t, X.aaloadNull hexec (g := F0 m pc ls (.int i :: .null :: rest)) rfl (rest := rest) rfl (by rw [hb]; exact hdg) t st, q⟩
theorem vx_baloadN (hexec : p.tables.exec = Jvm.exec) (hb : c.code = cc) {i : Int32} (hdg : decode cc pc = .ok (.baload, 1)) (k : vx_NoteN p l e R s m args below meth c H locs cells slots Q (F0 m pc ls rest)) : W p l e R s m args below meth c H locs cells slots Q (F0 m pc ls (.int i :: .null :: rest)) := by
  intro T hT X
  obtain ⟨t, st, q⟩ := k T hT X
  exact ⟨t, X.baloadNull hexec (g := F0 m pc ls (.int i :: .null :: rest)) rfl (rest := rest) rfl (by rw [hb]; exact hdg) t st, q⟩
theorem vx_caloadN (hexec : p.tables.exec = Jvm.exec) (hb : c.code = cc) {i : Int32} (hdg : decode cc pc = .ok (.caload, 1)) (k : vx_NoteN p l e R s m args below meth c H locs cells slots Q (F0 m pc ls rest)) : W p l e R s m args below meth c H locs cells slots Q (F0 m pc ls (.int i :: .null :: rest)) := by
  intro T hT X
  obtain ⟨t, st, q⟩ := k T hT X
  exact ⟨t, X.caloadNull hexec (g := F0 m pc ls (.int i :: .null :: rest)) rfl (rest := rest) rfl (by rw [hb]; exact hdg) t st, q⟩
theorem vx_saloadN (hexec : p.tables.exec = Jvm.exec) (hb : c.code = cc) {i : Int32} (hdg : decode cc pc = .ok (.saload, 1)) (k : vx_NoteN p l e R s m args below meth c H locs cells slots Q (F0 m pc ls rest)) : W p l e R s m args below meth c H locs cells slots Q (F0 m pc ls (.int i :: .null :: rest)) := by
  intro T hT X
  obtain ⟨t, st, q⟩ := k T hT X
  exact ⟨t, X.saloadNull hexec (g := F0 m pc ls (.int i :: .null :: rest)) rfl (rest := rest) rfl (by rw [hb]; exact hdg) t st, q⟩
theorem vx_iastoreN (hexec : p.tables.exec = Jvm.exec) (hb : c.code = cc) {x : Int32} {i : Int32} (hdg : decode cc pc = .ok (.iastore, 1)) (k : vx_NoteN p l e R s m args below meth c H locs cells slots Q (F0 m pc ls rest)) : W p l e R s m args below meth c H locs cells slots Q (F0 m pc ls (.int x :: .int i :: .null :: rest)) := by
  intro T hT X
  obtain ⟨t, st, q⟩ := k T hT X
  exact ⟨t, X.iastoreNull hexec (g := F0 m pc ls (.int x :: .int i :: .null :: rest)) rfl (rest := rest) rfl (by rw [hb]; exact hdg) t st, q⟩
theorem vx_lastoreN (hexec : p.tables.exec = Jvm.exec) (hb : c.code = cc) {x : Int64} {i : Int32} (hdg : decode cc pc = .ok (.lastore, 1)) (k : vx_NoteN p l e R s m args below meth c H locs cells slots Q (F0 m pc ls rest)) : W p l e R s m args below meth c H locs cells slots Q (F0 m pc ls (.long x :: .int i :: .null :: rest)) := by
  intro T hT X
  obtain ⟨t, st, q⟩ := k T hT X
  exact ⟨t, X.lastoreNull hexec (g := F0 m pc ls (.long x :: .int i :: .null :: rest)) rfl (rest := rest) rfl (by rw [hb]; exact hdg) t st, q⟩
theorem vx_fastoreN (hexec : p.tables.exec = Jvm.exec) (hb : c.code = cc) {x : UInt32} {i : Int32} (hdg : decode cc pc = .ok (.fastore, 1)) (k : vx_NoteN p l e R s m args below meth c H locs cells slots Q (F0 m pc ls rest)) : W p l e R s m args below meth c H locs cells slots Q (F0 m pc ls (.float x :: .int i :: .null :: rest)) := by
  intro T hT X
  obtain ⟨t, st, q⟩ := k T hT X
  exact ⟨t, X.fastoreNull hexec (g := F0 m pc ls (.float x :: .int i :: .null :: rest)) rfl (rest := rest) rfl (by rw [hb]; exact hdg) t st, q⟩
theorem vx_dastoreN (hexec : p.tables.exec = Jvm.exec) (hb : c.code = cc) {x : UInt64} {i : Int32} (hdg : decode cc pc = .ok (.dastore, 1)) (k : vx_NoteN p l e R s m args below meth c H locs cells slots Q (F0 m pc ls rest)) : W p l e R s m args below meth c H locs cells slots Q (F0 m pc ls (.double x :: .int i :: .null :: rest)) := by
  intro T hT X
  obtain ⟨t, st, q⟩ := k T hT X
  exact ⟨t, X.dastoreNull hexec (g := F0 m pc ls (.double x :: .int i :: .null :: rest)) rfl (rest := rest) rfl (by rw [hb]; exact hdg) t st, q⟩
theorem vx_bastoreN (hexec : p.tables.exec = Jvm.exec) (hb : c.code = cc) {x : Int32} {i : Int32} (hdg : decode cc pc = .ok (.bastore, 1)) (k : vx_NoteN p l e R s m args below meth c H locs cells slots Q (F0 m pc ls rest)) : W p l e R s m args below meth c H locs cells slots Q (F0 m pc ls (.int x :: .int i :: .null :: rest)) := by
  intro T hT X
  obtain ⟨t, st, q⟩ := k T hT X
  exact ⟨t, X.bastoreNull hexec (g := F0 m pc ls (.int x :: .int i :: .null :: rest)) rfl (rest := rest) rfl (by rw [hb]; exact hdg) t st, q⟩
theorem vx_castoreN (hexec : p.tables.exec = Jvm.exec) (hb : c.code = cc) {x : Int32} {i : Int32} (hdg : decode cc pc = .ok (.castore, 1)) (k : vx_NoteN p l e R s m args below meth c H locs cells slots Q (F0 m pc ls rest)) : W p l e R s m args below meth c H locs cells slots Q (F0 m pc ls (.int x :: .int i :: .null :: rest)) := by
  intro T hT X
  obtain ⟨t, st, q⟩ := k T hT X
  exact ⟨t, X.castoreNull hexec (g := F0 m pc ls (.int x :: .int i :: .null :: rest)) rfl (rest := rest) rfl (by rw [hb]; exact hdg) t st, q⟩
theorem vx_sastoreN (hexec : p.tables.exec = Jvm.exec) (hb : c.code = cc) {x : Int32} {i : Int32} (hdg : decode cc pc = .ok (.sastore, 1)) (k : vx_NoteN p l e R s m args below meth c H locs cells slots Q (F0 m pc ls rest)) : W p l e R s m args below meth c H locs cells slots Q (F0 m pc ls (.int x :: .int i :: .null :: rest)) := by
  intro T hT X
  obtain ⟨t, st, q⟩ := k T hT X
  exact ⟨t, X.sastoreNull hexec (g := F0 m pc ls (.int x :: .int i :: .null :: rest)) rfl (rest := rest) rfl (by rw [hb]; exact hdg) t st, q⟩
theorem vx_invokeN {own C : String} {index maxL : Nat} {y : MethodName} {bytes : ByteArray} {ret : Option FieldType} (hexec : p.tables.exec = Jvm.exec) (hb : c.code = cc) (hown : s.vm.findClass own = some m.cls) (hlink : (Cond.methodLink own index y).before args s = true) (hinst : (Cond.instanceMethod y).before args s = true) (hcode : (Cond.code y bytes maxL ret).before args s = true) (hsel : (Cond.selects C y y).before args s = true)
    (hx : y.cls ≠ "java/lang/invoke/MethodHandle" ∧ y.cls ≠ "java/lang/invoke/VarHandle") {As : List Value} (hlen : (parseMethodDescriptor y.desc).map (fun d => d.parameters.length) = some As.length) (hdg : decode cc pc = .ok (.invokevirtual index, 3))
    (k : vx_NoteN p l e R s m args below meth c H locs cells slots Q (F0 m pc ls rest)) {st0 : List Value} (hst : st0 = As.reverse ++ .null :: rest) : W p l e R s m args below meth c H locs cells slots Q (F0 m pc ls st0) := by
  intro T hT X
  obtain ⟨r0, r, hn, hrm, hstR, hsigR⟩ := va_Decl.of hinst hcode
  obtain ⟨c2, r2, m2, q1, q2, q3, q4, kP, hkP, hkPi⟩ := Cond.selects_spec hsel
  cases hn.symm.trans q3
  have hl9 : As.length = r.sig.parameters.length := by
    rw [hsigR] at hlen
    exact (Option.some.inj hlen).symm
  obtain ⟨vm', X1, st1⟩ := X.invokevirtualNull hexec hown hlink hn hrm hstR hkP hkPi hx (g := F0 m pc ls st0) rfl (argsL := As) (rest := rest) hl9 hst (by rw [hb]; exact hdg)
  obtain ⟨t, st, q⟩ := k (T.setVm vm') hT X1
  exact ⟨t, st1 t st, q⟩
theorem vx_newarrayZ {atype : ArrayType} (hexec : p.tables.exec = Jvm.exec) (hb : c.code = cc) {n : Int32} (h0 : n < 0) (hdg : decode cc pc = .ok (.newarray atype, 2)) (k : ∀ tx : String, tx = toString n → vx_Note p l e R s m args below meth c H locs cells slots Q (F0 m pc ls rest) "java/lang/NegativeArraySizeException" tx) : W p l e R s m args below meth c H locs cells slots Q (F0 m pc ls (.int n :: rest)) := by
  intro T hT X
  obtain ⟨t, st, q⟩ := k _ rfl T hT X
  exact ⟨t, X.newarrayNegative hexec (g := F0 m pc ls (.int n :: rest)) rfl h0 (rest := rest) rfl (by rw [hb]; exact hdg) t st, q⟩
end
end VXM
/-! ===== END ===== -/
/-! ===== BEGIN an exception as an object: made, kept, thrown later (no traces kept) ===== -/
section VXK
variable {p : Program} {l : Launch} {e : Env} {R : Room} {s : State} {m₀ : MethodId} {args : Array Value} {below : List Frame} {meth : Method} {c : Code} {W : State} {locs : List Loc} {cells slots : Nat}
set_option maxHeartbeats 1000000 in
theorem vx_ctorMadeS (X : Stand p l e R s m₀ args below meth c W locs cells slots) (hexec : p.tables.exec = Jvm.exec) (htr : e.platform.stackTraces = false) {own cls : String} {names : List String} {ic : Nat}
    (hown : s.vm.findClass own = some m₀.cls) (hcls : Bundle.fit cls = true) (hnames : ∀ n ∈ names, Bundle.fit n = true)
    (h : ∀ a ∈ Bundle.ownAtoms own ic cls names, a.before args s = true)
    (hlocs : ∀ x ∈ locs, ∀ cell, s.heap[x.base]? = some cell → cell.vm.isStatics = false)
    {a : Addr} {cX : ClassId} {kX : Class} (hfoundX : s.vm.findClass cls = some cX) (hkX : s.vm.classes[cX]? = some kX) (hcell : W.heap[a]? = some (freshCell cX kX)) (hnew : s.heap.size ≤ a)
    {msg : Value} (hmsg : msg.isRef = true)
    {g : JFrame} (hg : g.method = m₀) (hsize : g.locals.size = c.maxLocals) {rest : List Value} (hstack : g.stack = msg :: .ref a :: .ref a :: rest)
    (hd6 : decode c.code g.pc = .ok (.invokespecial ic, 3))
    (hRframes : names.length + 3 < R.frames) (hRlocals : 2 * g.monitorRoom + ((Value.ref a :: rest).map fun v => v.category).sum + (13 * (names.length + 1) + 42) ≤ R.locals) :
    ∃ (V : State) (ce : Cell) (L : List Loc), Stand p l e R s m₀ args below meth c (V.setCell a ce) (locs ++ L) cells slots ∧ (∀ y ∈ L, y.base = a) ∧ a < V.heap.size ∧ ce.cls = cX ∧ ce.vm = .none ∧
      ∀ target, Steps p.tables e below ((V.setCell a ce).setTop { g with stack := .ref a :: rest, pc := g.pc + 3 }) target → Steps p.tables e below (W.setTop g) target := by
  have howns : e.platform.frameOwnsMonitors = true := by rw [X.admits.platform]
  have hfin : e.platform.finalization = false := by rw [X.admits.platform]
  have hpl : e.platform.magicAccessors = ({} : Platform).magicAccessors := by rw [X.admits.platform]
  have a' : ∀ x, x ∈ Bundle.ownAtoms own ic cls names → x.holds args s none s [] = true := fun x hx => h x hx
  obtain ⟨T, Z0, L, -, Y⟩ := ThrowableC.of_atoms (args := args) howns hfin hpl (fun x hx => h x (by simp [Bundle.ownAtoms, hx]))
  obtain ⟨Z, M, LZ, LM, hnZ⟩ := Init0T.ofS_atoms (args := args) hpl L Y (fun x hx => h x (by simp [Bundle.ownAtoms, hx]))
  obtain ⟨P1, Ps, hlen, L1, hL, hP1m, hlink1, hlink⟩ := Bundle.chainS (args := args) hpl hnZ names cls hcls hnames (fun x hx => h x (by simp [Bundle.ownAtoms, hx]))
  have hfound : s.vm.findClass cls = some P1.m.cls := findClass_of_methodNamed hP1m
  cases Option.some.inj (hfoundX.symm.trans hfound)
  obtain ⟨c1, kX', hc1, hk, hord, -, -, hn6⟩ := Cond.instantiable_spec (a' (.instantiable cls 6) (by simp [Bundle.ownAtoms]))
  cases Option.some.inj (hc1.symm.trans hfound)
  cases Option.some.inj (hkX.symm.trans hk)
  have hsel0 : selectMethod e.platform s.vm P1.m.cls T.fill0 = .method T.fill0 := by
    obtain ⟨c2, r2, m2, q1, q2, q3, q4, -⟩ := Cond.selects_spec (a' (.selects cls Bundle.tFill0 Bundle.tFill0) (by simp [Bundle.ownAtoms]))
    cases Option.some.inj (q1.symm.trans hfound)
    cases Option.some.inj (q2.symm.trans (State.methodFound?_of_named Y.fill0 (by decide)))
    cases Option.some.inj (q3.symm.trans Y.fill0)
    rw [Launch.admits_selectMethod X.admits]; exact q4
  have hselF : selectMethod e.platform s.vm P1.m.cls T.fill = .method T.fill := by
    obtain ⟨c2, r2, m2, q1, q2, q3, q4, -⟩ := Cond.selects_spec (a' (.selects cls Bundle.tFill Bundle.tFill) (by simp [Bundle.ownAtoms]))
    cases Option.some.inj (q1.symm.trans hfound)
    cases Option.some.inj (q2.symm.trans (State.methodFound?_of_named Y.fill (by decide)))
    cases Option.some.inj (q3.symm.trans Y.fill)
    rw [Launch.admits_selectMethod X.admits]; exact q4
  obtain ⟨cellS0, hcS0, hiss⟩ := Y.statics
  obtain ⟨u0, hu0⟩ := Cond.staticRefV Y.unassigned L.unassignedStatic L.statics hcS0 hiss (a' (.isRef (.static Bundle.tN "UNASSIGNED_STACK" Bundle.steD)) (by simp [Bundle.ownAtoms]))
  obtain ⟨sen, hsen⟩ := Cond.staticRefV Y.sentinel L.sentinelStatic L.statics hcS0 hiss (a' (.isRef (.static Bundle.tN "SUPPRESSED_SENTINEL" Bundle.listD)) (by simp [Bundle.ownAtoms]))
  obtain ⟨ci198, i198, fB, hk198, hg198, ha198, hsB, -, hnB, htB, hffB⟩ := Cond.ownField (t := .object "java/lang/Object") Y.found L.cls (by decide +kernel) (a' (.fieldLink Bundle.tN 198 Bundle.tN "backtrace" "Ljava/lang/Object;") (by simp [Bundle.ownAtoms])) (a' (.lays Bundle.tN Bundle.tN "backtrace" "Ljava/lang/Object;") (by simp [Bundle.ownAtoms])) e.platform hpl
  obtain ⟨cellS, hcS', heS, -, hkeep⟩ := X.same.2.2.2.2.2 T.aS cellS0 hcS0
  have hcellS : W.heap[T.aS]? = some cellS := hcS'
  have hout' : ∀ i, (⟨T.aS, i⟩ : Loc) ∉ locs := fun i hmem => by
    have := hlocs _ hmem cellS0 hcS0
    rw [hiss] at this; cases this
  have hknownS : cellS.vm ≠ .unknown := by
    rw [heS]; intro hu
    rw [show cellS0.vm = .unknown from hu] at hiss
    cases hiss
  have hneS : T.aS ≠ a := Nat.ne_of_lt (Nat.lt_of_lt_of_le (Array.getElem?_eq_some_iff.mp hcS0).1 hnew)
  obtain ⟨iM, hffM⟩ := Y.msg
  obtain ⟨tyC, dC, hdC, hdnC⟩ := Cond.laysAt hfound hk Y.cause (a' (.lays cls Bundle.tN "cause" "Ljava/lang/Throwable;") (by simp [Bundle.ownAtoms]))
  obtain ⟨tyS, dS, hdS, hdnS⟩ := Cond.laysAt hfound hk Y.stack (a' (.lays cls Bundle.tN "stackTrace" Bundle.steD) (by simp [Bundle.ownAtoms]))
  obtain ⟨tyP, dP, hdP, hdnP⟩ := Cond.laysAt hfound hk Y.supp (a' (.lays cls Bundle.tN "suppressedExceptions" Bundle.listD) (by simp [Bundle.ownAtoms]))
  obtain ⟨tyM, dM, hdM, hdnM⟩ := Cond.laysAt hfound hk hffM (a' (.lays cls Bundle.tN "detailMessage" "Ljava/lang/String;") (by simp [Bundle.ownAtoms]))
  obtain ⟨tyB, dB, hdB, hdnB⟩ := Cond.laysAt hfound hk hffB (a' (.lays cls Bundle.tN "backtrace" "Ljava/lang/Object;") (by simp [Bundle.ownAtoms]))
  have bC := Cond.laysApart hdB hdC hdnB hdnC (by rw [hnB, Y.causeName]; decide)
  have bS := Cond.laysApart hdB hdS hdnB hdnS (by rw [hnB, Y.stackName]; decide)
  have bP := Cond.laysApart hdB hdP hdnB hdnP (by rw [hnB, Y.suppName]; decide)
  have hskip : SkipFacts T e.platform s (fun u => u) u0 ((preparedCellV T.toThrowableT (freshCell P1.m.cls kX) a u0 sen).withEntry W.cur) :=
    ⟨{ ci198 := ci198, i198 := i198, fBack := fB }, ⟨hk198, hg198, ha198, hsB⟩, by
      have := fresh_default (c := P1.m.cls) tyB
      rw [htB] at this
      simpa [preparedCellV, Cell.setSlot, Cell.withEntry, Array.getElem?_setIfInBounds, bC, bS, bP, bC.symm, bS.symm, bP.symm, defaultValue] using this, fun _ _ => rfl⟩
  obtain ⟨tm, methC, cdC, kC, vm₁, hnC, -, -, -, -, -, -, -, hW₁, st1⟩ := Steps.initColdS (tb := p.tables) (e := e) (below := below) (s := s) (U := W) X.here hexec X.warmed hpl hown (t := Bundle.initS cls) rfl rfl (Bundle.fit_spec hcls).2
    (a' (.methodLink own ic (Bundle.initS cls)) (by simp [Bundle.ownAtoms])) (h (.instanceMethod (Bundle.initS cls)) (by cases names <;> simp [Bundle.ownAtoms, Bundle.chainSAtoms, Bundle.passSAtoms])) (bytes := Bundle.six) (maxL := 2) (h (.code (Bundle.initS cls) Bundle.six 2 none) (by cases names <;> simp [Bundle.ownAtoms, Bundle.chainSAtoms, Bundle.passSAtoms]))
    (f := g) hg (a := a) (msg := msg) (rest := .ref a :: rest) hstack hd6
  cases Option.some.inj (hnC.symm.trans hP1m)
  have X₁ := X.noted hW₁
  obtain ⟨vm₂, X₂, st2⟩ := X₁.ctorMessageOffV hexec (g := { g with stack := .ref a :: rest }) hg hsize T L Z LZ M LM (P1 :: Ps)
    (fun P hP => by rcases List.mem_cons.mp hP with rfl | hP; exact L1; exact hL P hP) ⟨hlink1, hlink⟩ (u0 := u0) (sen := sen) (self := a) hmsg (cell := freshCell P1.m.cls kX) (cellS := cellS)
    hcell (fun _ => by simp) (by simp) rfl rfl hsel0 hselF hcellS hneS hknownS (by rw [hkeep _ (hout' _)]; exact hu0) (by rw [hkeep _ (hout' _)]; exact hsen)
    (Takes.of_laid hk hord tyC (by rw [Y.causeType]; rfl)) (Takes.of_laid hk hord tyS (by rw [Y.stackType]; exact fits_refV_array _ u0)) (Takes.of_laid hk hord tyP (by rw [Y.suppType]; exact fits_refV_object _ sen))
    (Takes.of_laid hk hord tyM (by rw [Y.msgType]; exact fits_refV_object _ ⟨msg, hmsg⟩)) Y.objLocals hskip htr [] hd6
    (by simp only [List.length_cons, hlen]; omega) (by simp only [List.length_cons, hlen]; exact hRlocals)
  have hlt : a < ((W.setVm vm₁).setVm vm₂).heap.size := (Array.getElem?_eq_some_iff.mp hcell).1
  refine ⟨(W.setVm vm₁).setVm vm₂, _, _, X₂, fun y hy => ?_, hlt, rfl, rfl, fun target hwalk => st1 _ (fun acts => ?_)⟩
  · simp only [List.mem_cons, List.not_mem_nil, or_false] at hy
    rcases hy with rfl | rfl | rfl | rfl | rfl <;> rfl
  · rw [doInvoke_state]
    exact st2 _ hwalk
set_option maxHeartbeats 1000000 in
theorem vx_ctorMade0 (X : Stand p l e R s m₀ args below meth c W locs cells slots) (hexec : p.tables.exec = Jvm.exec) (htr : e.platform.stackTraces = false) {own cls : String} {names : List String} {ic : Nat}
    (hown : s.vm.findClass own = some m₀.cls) (hcls : Bundle.fit cls = true) (hnames : ∀ n ∈ names, Bundle.fit n = true)
    (h : ∀ a ∈ Bundle.ownAtoms0 own ic cls names, a.before args s = true)
    (hlocs : ∀ x ∈ locs, ∀ cell, s.heap[x.base]? = some cell → cell.vm.isStatics = false)
    {a : Addr} {cX : ClassId} {kX : Class} (hfoundX : s.vm.findClass cls = some cX) (hkX : s.vm.classes[cX]? = some kX) (hcell : W.heap[a]? = some (freshCell cX kX)) (hnew : s.heap.size ≤ a)
    {g : JFrame} (hg : g.method = m₀) (hsize : g.locals.size = c.maxLocals) {rest : List Value} (hstack : g.stack = .ref a :: .ref a :: rest)
    (hd6 : decode c.code g.pc = .ok (.invokespecial ic, 3))
    (hRframes : names.length + 3 < R.frames) (hRlocals : 2 * g.monitorRoom + ((Value.ref a :: rest).map fun v => v.category).sum + (13 * (names.length + 1) + 41) ≤ R.locals) :
    ∃ (V : State) (ce : Cell) (L : List Loc), Stand p l e R s m₀ args below meth c (V.setCell a ce) (locs ++ L) cells slots ∧ (∀ y ∈ L, y.base = a) ∧ a < V.heap.size ∧ ce.cls = cX ∧ ce.vm = .none ∧
      ∀ target, Steps p.tables e below ((V.setCell a ce).setTop { g with stack := .ref a :: rest, pc := g.pc + 3 }) target → Steps p.tables e below (W.setTop g) target := by
  have howns : e.platform.frameOwnsMonitors = true := by rw [X.admits.platform]
  have hfin : e.platform.finalization = false := by rw [X.admits.platform]
  have hpl : e.platform.magicAccessors = ({} : Platform).magicAccessors := by rw [X.admits.platform]
  have a' : ∀ x, x ∈ Bundle.ownAtoms0 own ic cls names → x.holds args s none s [] = true := fun x hx => h x hx
  obtain ⟨T, Z, L, LZ, Y⟩ := ThrowableC.of_atoms (args := args) howns hfin hpl (fun x hx => h x (by simp [Bundle.ownAtoms0, hx]))
  obtain ⟨P1, Ps, hlen, L1, hL, hP1m, hlink1, hlink⟩ := Bundle.chain0 (args := args) hpl Y.init0 names cls hcls hnames (fun x hx => h x (by simp [Bundle.ownAtoms0, hx]))
  have hfound : s.vm.findClass cls = some P1.m.cls := findClass_of_methodNamed hP1m
  cases Option.some.inj (hfoundX.symm.trans hfound)
  obtain ⟨c1, kX', hc1, hk, hord, -, -, hn6⟩ := Cond.instantiable_spec (a' (.instantiable cls 6) (by simp [Bundle.ownAtoms0]))
  cases Option.some.inj (hc1.symm.trans hfound)
  cases Option.some.inj (hkX.symm.trans hk)
  have hsel0 : selectMethod e.platform s.vm P1.m.cls T.fill0 = .method T.fill0 := by
    obtain ⟨c2, r2, m2, q1, q2, q3, q4, -⟩ := Cond.selects_spec (a' (.selects cls Bundle.tFill0 Bundle.tFill0) (by simp [Bundle.ownAtoms0]))
    cases Option.some.inj (q1.symm.trans hfound)
    cases Option.some.inj (q2.symm.trans (State.methodFound?_of_named Y.fill0 (by decide)))
    cases Option.some.inj (q3.symm.trans Y.fill0)
    rw [Launch.admits_selectMethod X.admits]; exact q4
  have hselF : selectMethod e.platform s.vm P1.m.cls T.fill = .method T.fill := by
    obtain ⟨c2, r2, m2, q1, q2, q3, q4, -⟩ := Cond.selects_spec (a' (.selects cls Bundle.tFill Bundle.tFill) (by simp [Bundle.ownAtoms0]))
    cases Option.some.inj (q1.symm.trans hfound)
    cases Option.some.inj (q2.symm.trans (State.methodFound?_of_named Y.fill (by decide)))
    cases Option.some.inj (q3.symm.trans Y.fill)
    rw [Launch.admits_selectMethod X.admits]; exact q4
  obtain ⟨cellS0, hcS0, hiss⟩ := Y.statics
  obtain ⟨u0, hu0⟩ := Cond.staticRefV Y.unassigned L.unassignedStatic L.statics hcS0 hiss (a' (.isRef (.static Bundle.tN "UNASSIGNED_STACK" Bundle.steD)) (by simp [Bundle.ownAtoms0]))
  obtain ⟨sen, hsen⟩ := Cond.staticRefV Y.sentinel L.sentinelStatic L.statics hcS0 hiss (a' (.isRef (.static Bundle.tN "SUPPRESSED_SENTINEL" Bundle.listD)) (by simp [Bundle.ownAtoms0]))
  obtain ⟨ci198, i198, fB, hk198, hg198, ha198, hsB, -, hnB, htB, hffB⟩ := Cond.ownField (t := .object "java/lang/Object") Y.found L.cls (by decide +kernel) (a' (.fieldLink Bundle.tN 198 Bundle.tN "backtrace" "Ljava/lang/Object;") (by simp [Bundle.ownAtoms0])) (a' (.lays Bundle.tN Bundle.tN "backtrace" "Ljava/lang/Object;") (by simp [Bundle.ownAtoms0])) e.platform hpl
  obtain ⟨cellS, hcS', heS, -, hkeep⟩ := X.same.2.2.2.2.2 T.aS cellS0 hcS0
  have hcellS : W.heap[T.aS]? = some cellS := hcS'
  have hout' : ∀ i, (⟨T.aS, i⟩ : Loc) ∉ locs := fun i hmem => by
    have := hlocs _ hmem cellS0 hcS0
    rw [hiss] at this; cases this
  have hknownS : cellS.vm ≠ .unknown := by
    rw [heS]; intro hu
    rw [show cellS0.vm = .unknown from hu] at hiss
    cases hiss
  have hneS : T.aS ≠ a := Nat.ne_of_lt (Nat.lt_of_lt_of_le (Array.getElem?_eq_some_iff.mp hcS0).1 hnew)
  obtain ⟨iM, hffM⟩ := Y.msg
  obtain ⟨tyC, dC, hdC, hdnC⟩ := Cond.laysAt hfound hk Y.cause (a' (.lays cls Bundle.tN "cause" "Ljava/lang/Throwable;") (by simp [Bundle.ownAtoms0]))
  obtain ⟨tyS, dS, hdS, hdnS⟩ := Cond.laysAt hfound hk Y.stack (a' (.lays cls Bundle.tN "stackTrace" Bundle.steD) (by simp [Bundle.ownAtoms0]))
  obtain ⟨tyP, dP, hdP, hdnP⟩ := Cond.laysAt hfound hk Y.supp (a' (.lays cls Bundle.tN "suppressedExceptions" Bundle.listD) (by simp [Bundle.ownAtoms0]))
  obtain ⟨tyM, dM, hdM, hdnM⟩ := Cond.laysAt hfound hk hffM (a' (.lays cls Bundle.tN "detailMessage" "Ljava/lang/String;") (by simp [Bundle.ownAtoms0]))
  obtain ⟨tyB, dB, hdB, hdnB⟩ := Cond.laysAt hfound hk hffB (a' (.lays cls Bundle.tN "backtrace" "Ljava/lang/Object;") (by simp [Bundle.ownAtoms0]))
  have bC := Cond.laysApart hdB hdC hdnB hdnC (by rw [hnB, Y.causeName]; decide)
  have bS := Cond.laysApart hdB hdS hdnB hdnS (by rw [hnB, Y.stackName]; decide)
  have bP := Cond.laysApart hdB hdP hdnB hdnP (by rw [hnB, Y.suppName]; decide)
  have hskip : SkipFacts T e.platform s (fun u => u) u0 ((preparedCellV T.toThrowableT (freshCell P1.m.cls kX) a u0 sen).withEntry W.cur) :=
    ⟨{ ci198 := ci198, i198 := i198, fBack := fB }, ⟨hk198, hg198, ha198, hsB⟩, by
      have := fresh_default (c := P1.m.cls) tyB
      rw [htB] at this
      simpa [preparedCellV, Cell.setSlot, Cell.withEntry, Array.getElem?_setIfInBounds, bC, bS, bP, bC.symm, bS.symm, bP.symm, defaultValue] using this, fun _ _ => rfl⟩
  obtain ⟨tm, methC, cdC, kC, vm₁, hnC, -, -, -, -, -, -, -, hW₁, st1⟩ := Steps.initCold (tb := p.tables) (e := e) (below := below) (s := s) (U := W) X.here hexec X.warmed hpl hown (t := Bundle.init0 cls) rfl rfl (Bundle.fit_spec hcls).2
    (a' (.methodLink own ic (Bundle.init0 cls)) (by simp [Bundle.ownAtoms0])) (h (.instanceMethod (Bundle.init0 cls)) (by cases names <;> simp [Bundle.ownAtoms0, Bundle.chain0Atoms, Bundle.passAtoms])) (bytes := Bundle.five) (maxL := 1) (h (.code (Bundle.init0 cls) Bundle.five 1 none) (by cases names <;> simp [Bundle.ownAtoms0, Bundle.chain0Atoms, Bundle.passAtoms]))
    (f := g) hg (a := a) (rest := .ref a :: rest) hstack hd6
  cases Option.some.inj (hnC.symm.trans hP1m)
  have X₁ := X.noted hW₁
  obtain ⟨vm₂, X₂, st2⟩ := X₁.ctorPlainOffV hexec (g := { g with stack := .ref a :: rest }) hg hsize T L Z LZ (P1 :: Ps)
    (fun P hP => by rcases List.mem_cons.mp hP with rfl | hP; exact L1; exact hL P hP) ⟨hlink1, hlink⟩ (u0 := u0) (sen := sen) (self := a) (cell := freshCell P1.m.cls kX) (cellS := cellS)
    hcell (fun _ => by simp) (by simp) rfl rfl hsel0 hselF hcellS hneS hknownS (by rw [hkeep _ (hout' _)]; exact hu0) (by rw [hkeep _ (hout' _)]; exact hsen)
    (Takes.of_laid hk hord tyC (by rw [Y.causeType]; rfl)) (Takes.of_laid hk hord tyS (by rw [Y.stackType]; exact fits_refV_array _ u0)) (Takes.of_laid hk hord tyP (by rw [Y.suppType]; exact fits_refV_object _ sen)) Y.objLocals hskip htr [] hd6
    (by simp only [List.length_cons, hlen]; omega) (by simp only [List.length_cons, hlen]; exact hRlocals)
  have hlt : a < ((W.setVm vm₁).setVm vm₂).heap.size := (Array.getElem?_eq_some_iff.mp hcell).1
  refine ⟨(W.setVm vm₁).setVm vm₂, _, _, X₂, fun y hy => ?_, hlt, rfl, rfl, fun target hwalk => st1 _ (fun acts => ?_)⟩
  · simp only [List.mem_cons, List.not_mem_nil, or_false] at hy
    rcases hy with rfl | rfl | rfl | rfl <;> rfl
  · rw [doInvoke_state]
    exact st2 _ hwalk
end VXK
section VXK2
variable {p : Program} {l : Launch} {e : Env} {R : Room} {s : State} {m : MethodId} {args : Array Value} {below : List Frame} {meth : Method} {c : Code} {H : Heap} {locs : List Loc} {cells slots : Nat} {Q : State → Prop}
variable {ls : Array Slot} {rest : List Value} {D : va_G} {cl : List vw_C} {tys : List (ClassId × FieldType)} {ws : va_W}
/-- 'new E("text")' that isn't thrown at once: the object goes on the stack -/
theorem vx_makeS {cc : ByteArray} {pc : Nat} (hexec : p.tables.exec = Jvm.exec) (hb : c.code = cc) (hl : l.stackTraces = false) {own cls text : String} {names : List String} {ik is ic sa ci : Nat} {A : Nat → Prop} {T0 : u_T}
    (hown : s.vm.findClass own = some m.cls) (hcls : Bundle.fit cls = true) (hnames : ∀ n ∈ names, Bundle.fit n = true)
    (hk : (Cond.classLink own ik cls).before args s = true) (hini : (Cond.initialized cls).before args s = true) (hstr : vk_R own is text sa s) (hat : ∀ w ∈ vx_atS own ic cls names, w.before args s = true)
    (hgood : ∀ w ∈ Cond.classLink own ik cls :: Cond.initialized cls :: vx_atS own ic cls names, vx_ot w = true)
    (hU : vx_Zq Bundle.tN "UNASSIGNED_STACK" Bundle.steD A s s.heap) (hN : vx_Zq Bundle.tN "SUPPRESSED_SENTINEL" Bundle.listD A s s.heap) (hS : va_S A s.heap H locs) (hsize : ls.size = c.maxLocals)
    (d0 : decode cc pc = .ok (.new ik, 3)) (d3 : decode cc (pc + 3) = .ok (.dup, 1)) (d4 : decode cc (pc + 4) = .ok (.ldc is, 2)) (d6 : decode cc (pc + 6) = .ok (.invokespecial ic, 3))
    (hK : va_K D cl tys s) (hP : va_P D cl ws H) (hD : va_D A ws) (hA : ∀ q, s.heap.size ≤ q → A q) (hc : cl[ci]? = some (cls, T0, 0))
    (hRframes : names.length + 3 < R.frames) (hRlocals : (rest.map fun v => v.category).sum + (13 * (names.length + 1) + 43) ≤ R.locals) (hRcells : cells + 1 ≤ R.cells) (hRslots : slots + 6 ≤ R.slots)
    (kk : ∀ (q : Nat) (H1 : Heap), va_P D cl (ws ++ [(q, .inr (ci, []))]) H1 → va_D A (ws ++ [(q, .inr (ci, []))]) → va_S A s.heap H1 locs → W p l e R s m args below meth c H1 locs (cells + 1) (slots + 6) Q (F0 m (pc + 9) ls (.ref q :: rest))) :
    W p l e R s m args below meth c H locs cells slots Q (F0 m pc ls rest) := by
  intro T hT X
  subst hT
  have htr : e.platform.stackTraces = false := (show e.platform.stackTraces = l.stackTraces by rw [X.admits.platform]).trans hl
  have Y := vx_rebase X (R' := { frames := R.frames, locals := R.locals, cells := 1, slots := 6 }) (Nat.le_refl _) (Nat.le_refl _) hRcells hRslots
  obtain ⟨s', hA'⟩ : ∃ z, z = (T.setVm s.vm).setFrames (.invoking m args :: below) := ⟨_, rfl⟩
  rw [← hA'] at Y
  have hvm : s'.vm = s.vm := by rw [hA']; rfl
  have hhp : s'.heap = T.heap := by rw [hA']; rfl
  have hW0 : s.WarmedH s'.vm := by rw [hvm]; exact State.WarmedH.refl s
  have hat' : ∀ w ∈ vx_atS own ic cls names, w.before args s' = true := fun w hw => vx_ot_at hW0 hvm.symm (hgood w (List.mem_cons_of_mem _ (List.mem_cons_of_mem _ hw))) (hat w hw)
  have hk' : (Cond.classLink own ik cls).before args s' = true := vx_ot_at hW0 hvm.symm (hgood _ List.mem_cons_self) hk
  have hini' : (Cond.initialized cls).before args s' = true := vx_ot_at hW0 hvm.symm (hgood _ (List.mem_cons_of_mem _ List.mem_cons_self)) hini
  have hU' : vx_Zq Bundle.tN "UNASSIGNED_STACK" Bundle.steD A s' s'.heap := by rw [hhp]; exact vx_Zq.moved hW0.alike (hU.kept hS.2.1)
  have hN' : vx_Zq Bundle.tN "SUPPRESSED_SENTINEL" Bundle.listD A s' s'.heap := by rw [hhp]; exact vx_Zq.moved hW0.alike (hN.kept hS.2.1)
  have h : ∀ w ∈ Bundle.ownAtoms own ic cls names, w.before args s' = true := vx_own hat' (vx_isRefq hU'.1) (vx_isRefq hN'.1) hU'.2.word hN'.2.word
  have hown' : s'.vm.findClass own = some m.cls := by rw [hvm]; exact hown
  have hins : (Cond.instantiable cls 6).before args s' = true := h _ (by simp [Bundle.ownAtoms])
  obtain ⟨vm₁, cX, kX, hfX, hkX, -, -, X₁, st1⟩ := Y.newCold hexec (own := own) (C := cls) (index := ik) (n := 6) hown' hk' hins hini'
    (g := F0 m pc ls rest) rfl (by rw [hb]; exact d0) (Nat.le_refl _) (Nat.le_refl _)
  generalize hT1 : (T.setVm vm₁).pushCell { cls := cX, slots := kX.instanceTypes.map defaultValue, vm := .none } = T1 at X₁ st1
  have hcat : (Value.ref T.heap.size).category = 1 := rfl
  have hcellA : T1.heap[T.heap.size]? = some (freshCell cX kX) := by rw [← hT1]; exact State.heap_pushCell_size _ _
  have d3' : decode c.code (pc + 3) = .ok (.dup, 1) := by rw [hb]; exact d3
  have d4' : decode c.code (pc + 4) = .ok (.ldc is, 2) := by rw [hb]; exact d4
  have hstr' : vk_R own is text sa s' := vk_R.warm hW0 hstr
  obtain ⟨V, ce, L, Z, hL, hlt, hcl9, hvm9, st⟩ := vx_ctorMadeS X₁ hexec htr (own := own) (cls := cls) (names := names) (ic := ic) hown' hcls hnames h (fun x hx => nomatch hx) hfX hkX hcellA (by rw [hhp]; exact Nat.le_refl _) (msg := .ref sa) rfl
    (g := { method := m, pc := pc + 6, locals := ls, stack := .ref sa :: .ref T.heap.size :: .ref T.heap.size :: rest, locked := none }) rfl hsize (rest := rest) rfl
    (by rw [hb]; exact d6) hRframes (by simp only [List.map_cons, List.sum_cons, hcat]; omega)
  have Z0 := Stand.forget (locs := []) Z (fun y hy => by rw [hL y hy, hhp]; exact Nat.le_refl _)
  obtain ⟨f1, f2⟩ := vx_frame Z0.same
  rw [hhp] at f1 f2
  have hcid : ce.cls = D.1 ci := by
    rw [hcl9]
    have h1 := (hK.1 ci _ hc).2.1
    rw [hvm] at hfX
    exact Option.some.inj (hfX.symm.trans h1)
  have hh : (V.setCell T.heap.size ce).heap[T.heap.size]? = some ce := heapAt_setCell_self (s := V) ce hlt
  subst hA'
  have X5 := vx_back9 X Y Z0
  have X6 : Stand p l e R s m args below meth c (V.setCell T.heap.size ce) locs (cells + 1) (slots + 6) := { X5 with same := X5.same.mono (by omega) (by omega) }
  have hk9 : ∀ (k : Nat) (x : Nat × va_E), ws[k]? = some x → (V.setCell T.heap.size ce).heap[x.1]? = T.heap[x.1]? := fun k x hx => f2 x.1 ((hP k x hx).lt) (fun z hz => nomatch hz)
  obtain ⟨t, a1, b1⟩ := kk T.heap.size (V.setCell T.heap.size ce).heap ((hP.kept hk9).app (fun k x hx => by
      have hz : k < 1 := (List.getElem?_eq_some_iff.mp hx).1
      rw [show k = 0 by omega] at hx
      cases hx
      exact ⟨_, hc, ce, hh, hcid, hvm9, fun k hk => absurd hk (Nat.not_lt_zero k)⟩)) (hD.push hP rfl (hA _ hS.1)) ⟨Nat.le_trans hS.1 f1, fun q h1 h2 => (f2 q (Nat.lt_of_lt_of_le h1 hS.1) (fun z hz => nomatch hz)).trans (hS.2.1 q h1 h2), hS.2.2⟩ _ rfl X6
  refine ⟨t, st1 _ ?_, b1⟩
  show Steps p.tables e below (T1.setTop { method := m, pc := pc + 3, locals := ls, stack := .ref T.heap.size :: rest, locked := none }) _
  jvm_step X₁.here [X₁.here.top, hexec, d3', Value.category]
  exact X₁.ldcString hexec (own := own) (text := text) (index := is) (a := sa) hown' hstr'.1 hstr'.2
    (g := { method := m, pc := pc + 4, locals := ls, stack := .ref T.heap.size :: .ref T.heap.size :: rest, locked := none }) rfl d4' _ (st _ a1)
/-- 'new E()' that isn't thrown at once: the object goes on the stack -/
theorem vx_make0 {cc : ByteArray} {pc : Nat} (hexec : p.tables.exec = Jvm.exec) (hb : c.code = cc) (hl : l.stackTraces = false) {own cls : String} {names : List String} {ik ic ci : Nat} {A : Nat → Prop} {T0 : u_T}
    (hown : s.vm.findClass own = some m.cls) (hcls : Bundle.fit cls = true) (hnames : ∀ n ∈ names, Bundle.fit n = true)
    (hk : (Cond.classLink own ik cls).before args s = true) (hini : (Cond.initialized cls).before args s = true) (hat : ∀ w ∈ vx_at0 own ic cls names, w.before args s = true)
    (hgood : ∀ w ∈ Cond.classLink own ik cls :: Cond.initialized cls :: vx_at0 own ic cls names, vx_ot w = true)
    (hU : vx_Zq Bundle.tN "UNASSIGNED_STACK" Bundle.steD A s s.heap) (hN : vx_Zq Bundle.tN "SUPPRESSED_SENTINEL" Bundle.listD A s s.heap) (hS : va_S A s.heap H locs) (hsize : ls.size = c.maxLocals)
    (d0 : decode cc pc = .ok (.new ik, 3)) (d3 : decode cc (pc + 3) = .ok (.dup, 1)) (d4 : decode cc (pc + 4) = .ok (.invokespecial ic, 3))
    (hK : va_K D cl tys s) (hP : va_P D cl ws H) (hD : va_D A ws) (hA : ∀ q, s.heap.size ≤ q → A q) (hc : cl[ci]? = some (cls, T0, 0))
    (hRframes : names.length + 3 < R.frames) (hRlocals : (rest.map fun v => v.category).sum + (13 * (names.length + 1) + 42) ≤ R.locals) (hRcells : cells + 1 ≤ R.cells) (hRslots : slots + 6 ≤ R.slots)
    (kk : ∀ (q : Nat) (H1 : Heap), va_P D cl (ws ++ [(q, .inr (ci, []))]) H1 → va_D A (ws ++ [(q, .inr (ci, []))]) → va_S A s.heap H1 locs → W p l e R s m args below meth c H1 locs (cells + 1) (slots + 6) Q (F0 m (pc + 7) ls (.ref q :: rest))) :
    W p l e R s m args below meth c H locs cells slots Q (F0 m pc ls rest) := by
  intro T hT X
  subst hT
  have htr : e.platform.stackTraces = false := (show e.platform.stackTraces = l.stackTraces by rw [X.admits.platform]).trans hl
  have Y := vx_rebase X (R' := { frames := R.frames, locals := R.locals, cells := 1, slots := 6 }) (Nat.le_refl _) (Nat.le_refl _) hRcells hRslots
  obtain ⟨s', hA'⟩ : ∃ z, z = (T.setVm s.vm).setFrames (.invoking m args :: below) := ⟨_, rfl⟩
  rw [← hA'] at Y
  have hvm : s'.vm = s.vm := by rw [hA']; rfl
  have hhp : s'.heap = T.heap := by rw [hA']; rfl
  have hW0 : s.WarmedH s'.vm := by rw [hvm]; exact State.WarmedH.refl s
  have hat' : ∀ w ∈ vx_at0 own ic cls names, w.before args s' = true := fun w hw => vx_ot_at hW0 hvm.symm (hgood w (List.mem_cons_of_mem _ (List.mem_cons_of_mem _ hw))) (hat w hw)
  have hk' : (Cond.classLink own ik cls).before args s' = true := vx_ot_at hW0 hvm.symm (hgood _ List.mem_cons_self) hk
  have hini' : (Cond.initialized cls).before args s' = true := vx_ot_at hW0 hvm.symm (hgood _ (List.mem_cons_of_mem _ List.mem_cons_self)) hini
  have hU' : vx_Zq Bundle.tN "UNASSIGNED_STACK" Bundle.steD A s' s'.heap := by rw [hhp]; exact vx_Zq.moved hW0.alike (hU.kept hS.2.1)
  have hN' : vx_Zq Bundle.tN "SUPPRESSED_SENTINEL" Bundle.listD A s' s'.heap := by rw [hhp]; exact vx_Zq.moved hW0.alike (hN.kept hS.2.1)
  have h : ∀ w ∈ Bundle.ownAtoms0 own ic cls names, w.before args s' = true := vx_own hat' (vx_isRefq hU'.1) (vx_isRefq hN'.1) hU'.2.word hN'.2.word
  have hown' : s'.vm.findClass own = some m.cls := by rw [hvm]; exact hown
  have hins : (Cond.instantiable cls 6).before args s' = true := h _ (by simp [Bundle.ownAtoms0])
  obtain ⟨vm₁, cX, kX, hfX, hkX, -, -, X₁, st1⟩ := Y.newCold hexec (own := own) (C := cls) (index := ik) (n := 6) hown' hk' hins hini'
    (g := F0 m pc ls rest) rfl (by rw [hb]; exact d0) (Nat.le_refl _) (Nat.le_refl _)
  generalize hT1 : (T.setVm vm₁).pushCell { cls := cX, slots := kX.instanceTypes.map defaultValue, vm := .none } = T1 at X₁ st1
  have hcat : (Value.ref T.heap.size).category = 1 := rfl
  have hcellA : T1.heap[T.heap.size]? = some (freshCell cX kX) := by rw [← hT1]; exact State.heap_pushCell_size _ _
  have d3' : decode c.code (pc + 3) = .ok (.dup, 1) := by rw [hb]; exact d3
  obtain ⟨V, ce, L, Z, hL, hlt, hcl9, hvm9, st⟩ := vx_ctorMade0 X₁ hexec htr (own := own) (cls := cls) (names := names) (ic := ic) hown' hcls hnames h (fun x hx => nomatch hx) hfX hkX hcellA (by rw [hhp]; exact Nat.le_refl _)
    (g := { method := m, pc := pc + 4, locals := ls, stack := .ref T.heap.size :: .ref T.heap.size :: rest, locked := none }) rfl hsize (rest := rest) rfl
    (by rw [hb]; exact d4) hRframes (by simp only [List.map_cons, List.sum_cons, hcat]; omega)
  have Z0 := Stand.forget (locs := []) Z (fun y hy => by rw [hL y hy, hhp]; exact Nat.le_refl _)
  obtain ⟨f1, f2⟩ := vx_frame Z0.same
  rw [hhp] at f1 f2
  have hcid : ce.cls = D.1 ci := by
    rw [hcl9]
    have h1 := (hK.1 ci _ hc).2.1
    rw [hvm] at hfX
    exact Option.some.inj (hfX.symm.trans h1)
  have hh : (V.setCell T.heap.size ce).heap[T.heap.size]? = some ce := heapAt_setCell_self (s := V) ce hlt
  subst hA'
  have X5 := vx_back9 X Y Z0
  have X6 : Stand p l e R s m args below meth c (V.setCell T.heap.size ce) locs (cells + 1) (slots + 6) := { X5 with same := X5.same.mono (by omega) (by omega) }
  have hk9 : ∀ (k : Nat) (x : Nat × va_E), ws[k]? = some x → (V.setCell T.heap.size ce).heap[x.1]? = T.heap[x.1]? := fun k x hx => f2 x.1 ((hP k x hx).lt) (fun z hz => nomatch hz)
  obtain ⟨t, a1, b1⟩ := kk T.heap.size (V.setCell T.heap.size ce).heap ((hP.kept hk9).app (fun k x hx => by
      have hz : k < 1 := (List.getElem?_eq_some_iff.mp hx).1
      rw [show k = 0 by omega] at hx
      cases hx
      exact ⟨_, hc, ce, hh, hcid, hvm9, fun k hk => absurd hk (Nat.not_lt_zero k)⟩)) (hD.push hP rfl (hA _ hS.1)) ⟨Nat.le_trans hS.1 f1, fun q h1 h2 => (f2 q (Nat.lt_of_lt_of_le h1 hS.1) (fun z hz => nomatch hz)).trans (hS.2.1 q h1 h2), hS.2.2⟩ _ rfl X6
  refine ⟨t, st1 _ ?_, b1⟩
  show Steps p.tables e below (T1.setTop { method := m, pc := pc + 3, locals := ls, stack := .ref T.heap.size :: rest, locked := none }) _
  jvm_step X₁.here [X₁.here.top, hexec, d3', Value.category]
  exact st _ a1
/-- 'throw x' of an object that was made before -/
theorem vx_athrow {cc : ByteArray} {pc : Nat} (hexec : p.tables.exec = Jvm.exec) (hb : c.code = cc) {q : Addr} (hdg : decode cc pc = .ok (.athrow, 1)) (k : vx_W p l e R s m args below meth c H locs cells slots Q (F0 m pc ls rest) q) : W p l e R s m args below meth c H locs cells slots Q (F0 m pc ls (.ref q :: rest)) := by
  intro T hT X
  obtain ⟨t, st, hq⟩ := k T hT X
  refine ⟨t, ?_, hq⟩
  have hdg' : decode c.code pc = .ok (.athrow, 1) := by rw [hb]; exact hdg
  jvm_step X.here [X.here.top, hexec, hdg', athrow.wp_sem]
  exact st
end VXK2
/-! ===== END ===== -/
/-! ===== BEGIN a constructor that throws (launches without stack traces) ===== -/
section VXIA
variable {p : Program} {l : Launch} {e : Env} {R : Room} {s : State} {m : MethodId} {args : Array Value} {below : List Frame} {meth : Method} {c : Code} {T : State} {locs : List Loc} {cells slots : Nat}
theorem vx_callI (X : Stand p l e R s m args below meth c T locs cells slots) (hexec : p.tables.exec = Jvm.exec) {own : String} {index : Nat} {y : MethodName} {bytes : ByteArray} {maxL : Nat}
    (hown : s.vm.findClass own = some m.cls) (hy1 : y.name = "<init>") (hlink : (Cond.methodLink own index y).before args s = true) (hinst : (Cond.instanceMethod y).before args s = true)
    (hcode : (Cond.code y bytes maxL none).before args s = true) (hy : y.cls ≠ "java/lang/invoke/MethodHandle" ∧ y.cls ≠ "java/lang/invoke/VarHandle")
    {W9 : Nat} {Pre : Pt → Array Value → Prop} {Post : Pt → Array Value → Option Value → Pt → Prop} {PostX : Pt → Array Value → Addr → Pt → Prop} (hK : vx_Back l R p e below s args y 3 W9 Pre Post PostX)
    {g : JFrame} (hg : g.method = m) (hsize : g.locals.size = c.maxLocals) {a : Addr} {argsL rest : List Value} (hlen : ∀ sig, parseMethodDescriptor y.desc = some sig → argsL.length = sig.parameters.length)
    (hstack : g.stack = argsL.reverse ++ .ref a :: rest) (hW : 2 * g.monitorRoom + (rest.map fun v => v.category).sum ≤ W9) (hdg : decode c.code g.pc = .ok (.invokespecial index, 3))
    (hpre : ∀ vm₁, s.WarmedH vm₁ → Pre ⟨T.setVm vm₁, locs, cells, slots⟩ (Value.ref a :: argsL).toArray) :
    (∃ (v : Option Value) (vm₁ : Vm) (B : Pt), s.WarmedH vm₁ ∧ Stand p l e R s m args below meth c B.U B.locs B.cells B.slots ∧ Post ⟨T.setVm vm₁, locs, cells, slots⟩ (Value.ref a :: argsL).toArray v B ∧
      ∀ target, Steps p.tables e below (B.U.setTop { g with pc := g.pc + 3, stack := v.toList ++ rest }) target → Steps p.tables e below (T.setTop g) target) ∨
    (∃ (q : Addr) (vm₁ : Vm) (B : Pt), s.WarmedH vm₁ ∧ Stand p l e R s m args below meth c B.U B.locs B.cells B.slots ∧ PostX ⟨T.setVm vm₁, locs, cells, slots⟩ (Value.ref a :: argsL).toArray q B ∧
      Steps p.tables e below (T.setTop g) ((B.U.setTop { g with stack := rest }).pushFrame (.throwing q))) := by
  subst hg
  have hpl : e.platform.magicAccessors = ({} : Platform).magicAccessors := by rw [X.admits.platform]
  obtain ⟨mk, methM, cM, kP, vm₁, hnamed, hmethM, hcodeM, -, hlocalsM, -, hkP, -, hW₁, hstep₁⟩ := Steps.initColdArgs (e := e) X.here hexec X.warmed hpl hown hy1 hy hlink hinst hcode (f := g) rfl hlen hstack hdg
  have X₁ := X.noted hW₁
  rcases hK g.method meth c ⟨T.setVm vm₁, locs, cells, slots⟩ { g with stack := rest } (.invokespecial index) mk (Value.ref a :: argsL).toArray X₁ rfl hsize hdg hW (X₁.named hnamed) (hpre vm₁ X₁.warmed) with ⟨v, B, X', hpost, hsteps⟩ | ⟨q, B, X', hpost, hsteps⟩
  · exact Or.inl ⟨v, vm₁, B, X₁.warmed, X', hpost, fun target h => hstep₁ _ fun acts => by rw [doInvoke_state]; exact hsteps.trans h⟩
  · exact Or.inr ⟨q, vm₁, B, X₁.warmed, X', hpost, hstep₁ _ fun acts => by rw [doInvoke_state]; exact hsteps⟩
end VXIA
section VXIB
variable {p : Program} {l : Launch} {e : Env} {R : Room} {s : State} {m : MethodId} {args : Array Value} {below : List Frame} {meth : Method} {c : Code} {H : Heap} {locs : List Loc} {cells slots : Nat}
variable {y : MethodName} {bytes cc : ByteArray} {maxL nL mc ms n index : Nat} {ret : Option FieldType} {ws : List Cond} {rm : Room} {Pc : Array Value → State → Prop} {Qc : Array Value → State → Outcome → State → Prop} {XC : String → State → State → Prop} {free : Addr → Prop} {Ts : List Cond} {own C : String} {b : Addr} {As rest : List Value} {g : JFrame}
theorem vx_runI (S : CallFix p m c cc nL s args Ts own) (hM : vx_Met l y ws rm Pc Qc XC mc ms free) (cw : CallB R s args own index y bytes maxL none ws rm mc ms n ∧ y.name = "<init>" ∧ (Cond.instanceMethod y).before args s = true) (hp : PreS s H Pc (.ref b :: As))
    (hg : g.method = m) (hn : As.length = n) (hsize : g.locals.size = nL) (hstack : g.stack = As.reverse ++ .ref b :: rest) (hW : 2 * g.monitorRoom + (rest.map fun v => v.category).sum ≤ 8) (hdg : decode cc g.pc = .ok (.invokespecial index, 3)) (hf : cells + mc ≤ R.cells ∧ slots + ms ≤ R.slots) :
    vx_Run p l e R s m args below meth c H locs cells slots mc ms g rest (Qc (Value.ref b :: As).toArray) XC free := by
  have hK : vx_Back l R p e below s args y 3 8 (PreOf R mc ms Pc) (PostOf Qc mc ms free) (vx_Post XC mc ms free) := vx_callBack cw.1 hM hp.1
  obtain ⟨⟨-, -, -, -, -, -, hcode, -, hy, hlen, hl⟩, hy1, hin⟩ := cw
  obtain ⟨hx, hb, hml, ho, -⟩ := S
  have hPc := hp.2
  intro T hT X
  rcases vx_callI X hx (bytes := bytes) (maxL := maxL) ho hy1 hl hin hcode hy hK hg (hsize.trans hml.symm) (a := b) (argsL := As) (rest := rest) (fun sig h => hn.trans (hlen sig h)) hstack hW (by rw [hb]; exact hdg)
    (fun vm₁ hW₁ => ⟨hf.1, hf.2, hPc (T.setVm vm₁) hT hW₁⟩) with ⟨v, vm₁, ⟨U', l2, c2, s2⟩, hW₁, X', ⟨g', mk, t, L, e1, e2, hq, h1, hL, h2, h3⟩, st⟩ | ⟨q, vm₁, ⟨U', l2, c2, s2⟩, hW₁, X', ⟨g', mk, t, L, E, ce, e1, e2, hq, hce, hcv, hcl, h1, hL, h2, h3⟩, st⟩
  · dsimp only [Pt.U, Pt.locs, Pt.cells, Pt.slots] at X' e1 e2 h1 h2 h3 st
    subst h1; subst h2; subst h3
    exact Or.inl ⟨v, (T.setVm vm₁).calling g' mk (Value.ref b :: As).toArray, t, U', L, hT, X', hL, e1, e2, hq, st⟩
  · dsimp only [Pt.U, Pt.locs, Pt.cells, Pt.slots] at X' e1 e2 h1 h2 h3 st hcl
    subst h1; subst h2; subst h3
    exact Or.inr ⟨q, (T.setVm vm₁).calling g' mk (Value.ref b :: As).toArray, t, U', L, E, ce, hT, X', hL, e1, e2, hq, hce, hcv, vx_cls hW₁ hcl, st⟩
end VXIB
/-! ===== END ===== -/
/-! ===== BEGIN a private constructor of a nest mate that throws ===== -/
section VXIC
variable {p : Program} {l : Launch} {e : Env} {R : Room} {s : State} {m : MethodId} {args : Array Value} {below : List Frame} {meth : Method} {c : Code} {T : State} {locs : List Loc} {cells slots : Nat}
theorem vx_callIN (X : Stand p l e R s m args below meth c T locs cells slots) (hexec : p.tables.exec = Jvm.exec) {own : String} {index : Nat} {host : String} {y : MethodName} {bytes : ByteArray} {maxL : Nat}
    (hown : s.vm.findClass own = some m.cls) (hy1 : y.name = "<init>") (hlink : (Cond.methodLinkNest own index y host).before args s = true) (hinst : (Cond.instanceMethod y).before args s = true)
    (hcode : (Cond.code y bytes maxL none).before args s = true) (hy : y.cls ≠ "java/lang/invoke/MethodHandle" ∧ y.cls ≠ "java/lang/invoke/VarHandle")
    {W9 : Nat} {Pre : Pt → Array Value → Prop} {Post : Pt → Array Value → Option Value → Pt → Prop} {PostX : Pt → Array Value → Addr → Pt → Prop} (hK : vx_Back l R p e below s args y 3 W9 Pre Post PostX)
    {g : JFrame} (hg : g.method = m) (hsize : g.locals.size = c.maxLocals) {a : Addr} {argsL rest : List Value} (hlen : ∀ sig, parseMethodDescriptor y.desc = some sig → argsL.length = sig.parameters.length)
    (hstack : g.stack = argsL.reverse ++ .ref a :: rest) (hW : 2 * g.monitorRoom + (rest.map fun v => v.category).sum ≤ W9) (hdg : decode c.code g.pc = .ok (.invokespecial index, 3))
    (hpre : ∀ vm₁, s.WarmedH vm₁ → Pre ⟨T.setVm vm₁, locs, cells, slots⟩ (Value.ref a :: argsL).toArray) :
    (∃ (v : Option Value) (vm₁ : Vm) (B : Pt), s.WarmedH vm₁ ∧ Stand p l e R s m args below meth c B.U B.locs B.cells B.slots ∧ Post ⟨T.setVm vm₁, locs, cells, slots⟩ (Value.ref a :: argsL).toArray v B ∧
      ∀ target, Steps p.tables e below (B.U.setTop { g with pc := g.pc + 3, stack := v.toList ++ rest }) target → Steps p.tables e below (T.setTop g) target) ∨
    (∃ (q : Addr) (vm₁ : Vm) (B : Pt), s.WarmedH vm₁ ∧ Stand p l e R s m args below meth c B.U B.locs B.cells B.slots ∧ PostX ⟨T.setVm vm₁, locs, cells, slots⟩ (Value.ref a :: argsL).toArray q B ∧
      Steps p.tables e below (T.setTop g) ((B.U.setTop { g with stack := rest }).pushFrame (.throwing q))) := by
  subst hg
  have hpl : e.platform.magicAccessors = ({} : Platform).magicAccessors := by rw [X.admits.platform]
  obtain ⟨mk, methM, cM, kP, vm₁, hnamed, hmethM, hcodeM, -, hlocalsM, -, hkP, -, hW₁, hstep₁⟩ := Steps.initColdArgsNest (e := e) X.here hexec X.warmed hpl hown hy1 hy hlink hinst hcode (f := g) rfl hlen hstack hdg
  have X₁ := X.noted hW₁
  rcases hK g.method meth c ⟨T.setVm vm₁, locs, cells, slots⟩ { g with stack := rest } (.invokespecial index) mk (Value.ref a :: argsL).toArray X₁ rfl hsize hdg hW (X₁.named hnamed) (hpre vm₁ X₁.warmed) with ⟨v, B, X', hpost, hsteps⟩ | ⟨q, B, X', hpost, hsteps⟩
  · exact Or.inl ⟨v, vm₁, B, X₁.warmed, X', hpost, fun target h => hstep₁ _ fun acts => by rw [doInvoke_state]; exact hsteps.trans h⟩
  · exact Or.inr ⟨q, vm₁, B, X₁.warmed, X', hpost, hstep₁ _ fun acts => by rw [doInvoke_state]; exact hsteps⟩
end VXIC
section VXID
variable {p : Program} {l : Launch} {e : Env} {R : Room} {s : State} {m : MethodId} {args : Array Value} {below : List Frame} {meth : Method} {c : Code} {H : Heap} {locs : List Loc} {cells slots : Nat}
theorem vx_runIN {y : MethodName} {bytes cc : ByteArray} {maxL nL mc ms n index : Nat} {ws : List Cond} {rm : Room} {Pc : Array Value → State → Prop} {Qc : Array Value → State → Outcome → State → Prop} {XC : String → State → State → Prop} {free : Addr → Prop} {Ts : List Cond} {own host : String} {b : Addr} {As rest : List Value} {g : JFrame}
    (S : CallFix p m c cc nL s args Ts own) (hM : vx_Met l y ws rm Pc Qc XC mc ms free) (cw : va_CN R s args own index y host bytes maxL none ws rm mc ms n ∧ y.name = "<init>" ∧ (Cond.instanceMethod y).before args s = true) (hp : PreS s H Pc (.ref b :: As))
    (hg : g.method = m) (hn : As.length = n) (hsize : g.locals.size = nL) (hstack : g.stack = As.reverse ++ .ref b :: rest) (hW : 2 * g.monitorRoom + (rest.map fun v => v.category).sum ≤ 8) (hdg : decode cc g.pc = .ok (.invokespecial index, 3)) (hf : cells + mc ≤ R.cells ∧ slots + ms ≤ R.slots) :
    vx_Run p l e R s m args below meth c H locs cells slots mc ms g rest (Qc (Value.ref b :: As).toArray) XC free := by
  obtain ⟨⟨⟨hrc, hrs, hfr, hlo, hws, hcw⟩, hcode, hini, hy, hlen, hl⟩, hx1, hx2⟩ := cw
  have hK : vx_Back l R p e below s args y 3 8 (PreOf R mc ms Pc) (PostOf Qc mc ms free) (vx_Post XC mc ms free) := vx_back (bytes := bytes) (maxL := maxL) (ret := none) hM hp.1 hrc hrs hfr hlo hws hcw (fun a' U hW => word_at hW (Or.inl (by first | rfl | simp [Cond.onTables, Cond.keeps, Cond.steady])) hini)
  obtain ⟨hx, hb, hml, ho, -⟩ := S
  have hPc := hp.2
  intro T hT X
  rcases vx_callIN X hx (bytes := bytes) (maxL := maxL) ho hx1 hl hx2 hcode hy hK hg (hsize.trans hml.symm) (a := b) (argsL := As) (rest := rest) (fun sig h => hn.trans (hlen sig h)) hstack hW (by rw [hb]; exact hdg)
    (fun vm₁ hW₁ => ⟨hf.1, hf.2, hPc (T.setVm vm₁) hT hW₁⟩) with ⟨v, vm₁, ⟨U', l2, c2, s2⟩, hW₁, X', ⟨g', mk, t, L, e1, e2, hq, h1, hL, h2, h3⟩, st⟩ | ⟨q, vm₁, ⟨U', l2, c2, s2⟩, hW₁, X', ⟨g', mk, t, L, E, ce, e1, e2, hq, hce, hcv, hcl, h1, hL, h2, h3⟩, st⟩
  · dsimp only [Pt.U, Pt.locs, Pt.cells, Pt.slots] at X' e1 e2 h1 h2 h3 st
    subst h1; subst h2; subst h3
    exact Or.inl ⟨v, (T.setVm vm₁).calling g' mk (Value.ref b :: As).toArray, t, U', L, hT, X', hL, e1, e2, hq, st⟩
  · dsimp only [Pt.U, Pt.locs, Pt.cells, Pt.slots] at X' e1 e2 h1 h2 h3 st hcl
    subst h1; subst h2; subst h3
    exact Or.inr ⟨q, (T.setVm vm₁).calling g' mk (Value.ref b :: As).toArray, t, U', L, E, ce, hT, X', hL, e1, e2, hq, hce, hcv, vx_cls hW₁ hcl, st⟩
end VXID
/-! ===== END ===== -/
/-! ===== BEGIN a method of a class above, found by the receiver, that may throw (follows va_callVU, va_runU of this kit) ===== -/
section
variable {p : Program} {l : Launch} {e : Env} {R : Room} {s : State} {m : MethodId} {args : Array Value} {below : List Frame} {meth : Method} {c : Code} {H : Heap} {locs : List Loc} {cells slots : Nat}
theorem vx_callVU {T : State} {locs : List Loc} {cells slots : Nat} (X : Stand p l e R s m args below meth c T locs cells slots) (hexec : p.tables.exec = Jvm.exec) {own C owner : String} {index : Nat} {x y : MethodName} {bytes : ByteArray} {maxL : Nat} {ret : Option FieldType}
    (hown : s.vm.findClass own = some m.cls) (hlink : (Cond.methodLink own index x).before args s = true) (hsame : (Cond.sameMethod x.cls owner x.name x.desc).before args s = true)
    (hd0 : va_Decl s ⟨owner, x.name, x.desc⟩) (howner : owner ≠ "java/lang/invoke/MethodHandle" ∧ owner ≠ "java/lang/invoke/VarHandle")
    (hsel : (Cond.selects C x y).before args s = true) (hinst : (Cond.instanceMethod y).before args s = true) (hcode : (Cond.code y bytes maxL ret).before args s = true)
    {W : Nat} {Pre : Pt → Array Value → Prop} {Post : Pt → Array Value → Option Value → Pt → Prop} {PostX : Pt → Array Value → Addr → Pt → Prop} (hK : vx_Back l R p e below s args y 3 W Pre Post PostX)
    {b : Addr} {cellB : Cell} (hcell : T.heap[b]? = some cellB) (hobj : cellB.vm.isStatics = false) (hcls : s.vm.findClass C = some cellB.cls)
    {g : JFrame} (hg : g.method = m) (hsize : g.locals.size = c.maxLocals) {argsL rest : List Value} (hlen : ∀ sig, parseMethodDescriptor x.desc = some sig → argsL.length = sig.parameters.length)
    (hstack : g.stack = argsL.reverse ++ .ref b :: rest) (hW : 2 * g.monitorRoom + (rest.map fun v => v.category).sum ≤ W) (hdg : decode c.code g.pc = .ok (.invokevirtual index, 3))
    (hpre : ∀ vm₁, s.WarmedH vm₁ → Pre ⟨T.setVm vm₁, locs, cells, slots⟩ (Value.ref b :: argsL).toArray) :
    (∃ (v : Option Value) (vm₁ : Vm) (B : Pt), s.WarmedH vm₁ ∧ Stand p l e R s m args below meth c B.U B.locs B.cells B.slots ∧ Post ⟨T.setVm vm₁, locs, cells, slots⟩ (Value.ref b :: argsL).toArray v B ∧
      ∀ target, Steps p.tables e below (B.U.setTop { g with pc := g.pc + 3, stack := v.toList ++ rest }) target → Steps p.tables e below (T.setTop g) target) ∨
    (∃ (q : Addr) (vm₁ : Vm) (B : Pt), s.WarmedH vm₁ ∧ Stand p l e R s m args below meth c B.U B.locs B.cells B.slots ∧ PostX ⟨T.setVm vm₁, locs, cells, slots⟩ (Value.ref b :: argsL).toArray q B ∧
      Steps p.tables e below (T.setTop g) ((B.U.setTop { g with stack := rest }).pushFrame (.throwing q))) := by
  obtain ⟨r0, r, hn, hrm, hstR, hsigR⟩ := hd0
  obtain ⟨cn, ck, r1, hcn, hck, hni, hf, hn1⟩ := Cond.sameMethod_found hsame
  cases hn.symm.trans hn1
  obtain ⟨mk, methM, hnamed, hmethM, -, habM⟩ := Cond.instanceMethod_spec hinst
  obtain ⟨c2, r2, m2, q1, q2, q3, q4, kP, hkP, hkPi⟩ := Cond.selects_spec hsel
  cases hcls.symm.trans q1
  cases hf.symm.trans q2
  cases hnamed.symm.trans q3
  have hselP : selectMethod e.platform s.vm cellB.cls r0 = .method mk := by rw [Launch.admits_selectMethod X.admits]; exact q4
  obtain ⟨vm₁, X₁, hstep₁⟩ := X.invokevirtualUp hexec hown hlink hsame howner hn hrm hstR (a := b) (cell := cellB) hcell
    (fun z h => by rw [h] at hobj; cases hobj) hselP hmethM habM hkP hkPi (g := g) hg (argsL := argsL) (rest := rest) (hlen _ hsigR) hstack hdg
  rcases hK m meth c ⟨T.setVm vm₁, locs, cells, slots⟩ { g with stack := rest } (.invokevirtual index) mk (Value.ref b :: argsL).toArray X₁ hg hsize hdg hW (X₁.named hnamed) (hpre vm₁ X₁.warmed) with ⟨v, B, X', hpost, hsteps⟩ | ⟨q, B, X', hpost, hsteps⟩
  · exact Or.inl ⟨v, vm₁, B, X₁.warmed, X', hpost, fun target h => hstep₁ _ fun acts => by rw [doInvoke_state]; exact hsteps.trans h⟩
  · exact Or.inr ⟨q, vm₁, B, X₁.warmed, X', hpost, hstep₁ _ fun acts => by rw [doInvoke_state]; exact hsteps⟩
theorem vx_runU {x y : MethodName} {bytes cc : ByteArray} {maxL nL mc ms n index : Nat} {ret : Option FieldType} {ws : List Cond} {rm : Room} {Pc : Array Value → State → Prop} {Qc : Array Value → State → Outcome → State → Prop} {XC : String → State → State → Prop} {free : Addr → Prop} {Ts : List Cond} {own C owner : String} {b : Addr} {As rest : List Value} {g : JFrame}
    (S : CallFix p m c cc nL s args Ts own) (hM : vx_Met l y ws rm Pc Qc XC mc ms free) (cw : va_CU R s args own C owner index x y bytes maxL ret ws rm mc ms n) (hp : PreV s H C b Pc As)
    (hg : g.method = m) (hn : As.length = n) (hsize : g.locals.size = nL) (hstack : g.stack = As.reverse ++ .ref b :: rest) (hW : 2 * g.monitorRoom + (rest.map fun v => v.category).sum ≤ 8) (hdg : decode cc g.pc = .ok (.invokevirtual index, 3)) (hf : cells + mc ≤ R.cells ∧ slots + ms ≤ R.slots) :
    vx_Run p l e R s m args below meth c H locs cells slots mc ms g rest (Qc (Value.ref b :: As).toArray) XC free := by
  obtain ⟨hrc, hrs, hfr, hlo, hws, hcw⟩ := cw.back
  have hini := cw.init
  have hK : vx_Back l R p e below s args y 3 8 (PreOf R mc ms Pc) (PostOf Qc mc ms free) (vx_Post XC mc ms free) := vx_back (bytes := bytes) (maxL := maxL) (ret := ret) hM hp.1 hrc hrs hfr hlo hws hcw (fun a' U hW => word_at hW (Or.inl (by first | rfl | simp [Cond.onTables, Cond.keeps, Cond.steady])) hini)
  obtain ⟨hx, hb, hml, ho, -⟩ := S
  obtain ⟨-, ⟨cellB, hcB, hoB, hclB⟩, hPc⟩ := hp
  intro T hT X
  rcases vx_callVU X hx (C := C) (owner := owner) (bytes := bytes) (maxL := maxL) (ret := ret) ho cw.link cw.same cw.decl cw.notMH cw.sel cw.inst cw.code hK (by rw [hT]; exact hcB) hoB hclB hg (hsize.trans hml.symm) (argsL := As) (rest := rest) (fun sig h => hn.trans (cw.len sig h)) hstack hW (by rw [hb]; exact hdg)
    (fun vm₁ hW₁ => ⟨hf.1, hf.2, hPc (T.setVm vm₁) hT hW₁⟩) with ⟨v, vm₁, ⟨U', l2, c2, s2⟩, hW₁, X', ⟨g', mk, t, L, e1, e2, hq, h1, hL, h2, h3⟩, st⟩ | ⟨q, vm₁, ⟨U', l2, c2, s2⟩, hW₁, X', ⟨g', mk, t, L, E, ce, e1, e2, hq, hce, hcv, hcl, h1, hL, h2, h3⟩, st⟩
  · dsimp only [Pt.U, Pt.locs, Pt.cells, Pt.slots] at X' e1 e2 h1 h2 h3 st
    subst h1; subst h2; subst h3
    exact Or.inl ⟨v, (T.setVm vm₁).calling g' mk (Value.ref b :: As).toArray, t, U', L, hT, X', hL, e1, e2, hq, st⟩
  · dsimp only [Pt.U, Pt.locs, Pt.cells, Pt.slots] at X' e1 e2 h1 h2 h3 st hcl
    subst h1; subst h2; subst h3
    exact Or.inr ⟨q, (T.setVm vm₁).calling g' mk (Value.ref b :: As).toArray, t, U', L, E, ce, hT, X', hL, e1, e2, hq, hce, hcv, vx_cls hW₁ hcl, st⟩
end
/-! ===== END ===== -/
/-! ===== BEGIN super.m(..) that may throw (follows va_callSU, va_runSU) ===== -/
section
variable {p : Program} {l : Launch} {e : Env} {R : Room} {s : State} {m : MethodId} {args : Array Value} {below : List Frame} {meth : Method} {c : Code} {H : Heap} {locs : List Loc} {cells slots : Nat}
theorem vx_callSU {T : State} {locs : List Loc} {cells slots : Nat} (X : Stand p l e R s m args below meth c T locs cells slots) (hexec : p.tables.exec = Jvm.exec) {own : String} {index : Nat} {y : MethodName} {bytes : ByteArray} {maxL : Nat} {ret : Option FieldType}
    (hown : s.vm.findClass own = some m.cls) (hlink : (Cond.methodLink own index y).before args s = true) (hsame : (Cond.sameMethod y.cls y.cls y.name y.desc).before args s = true) (hsup : (Cond.superclass own y.cls).before args s = true)
    (hinst : (Cond.instanceMethod y).before args s = true) (hcode : (Cond.code y bytes maxL ret).before args s = true) (hno : y.name ≠ "<init>")
    {W : Nat} {Pre : Pt → Array Value → Prop} {Post : Pt → Array Value → Option Value → Pt → Prop} {PostX : Pt → Array Value → Addr → Pt → Prop} (hK : vx_Back l R p e below s args y 3 W Pre Post PostX)
    {b : Addr} {cellB : Cell} {kB : Class} (hcell : T.heap[b]? = some cellB) (hobj : cellB.vm.isStatics = false) (hkB : s.vm.classes[cellB.cls]? = some kB)
    {g : JFrame} (hg : g.method = m) (hsize : g.locals.size = c.maxLocals) {argsL rest : List Value} (hlen : ∀ sig, parseMethodDescriptor y.desc = some sig → argsL.length = sig.parameters.length)
    (hstack : g.stack = argsL.reverse ++ .ref b :: rest) (hW : 2 * g.monitorRoom + (rest.map fun v => v.category).sum ≤ W) (hdg : decode c.code g.pc = .ok (.invokespecial index, 3))
    (hpre : ∀ vm₁, s.WarmedH vm₁ → Pre ⟨T.setVm vm₁, locs, cells, slots⟩ (Value.ref b :: argsL).toArray) :
    (∃ (v : Option Value) (vm₁ : Vm) (B : Pt), s.WarmedH vm₁ ∧ Stand p l e R s m args below meth c B.U B.locs B.cells B.slots ∧ Post ⟨T.setVm vm₁, locs, cells, slots⟩ (Value.ref b :: argsL).toArray v B ∧
      ∀ target, Steps p.tables e below (B.U.setTop { g with pc := g.pc + 3, stack := v.toList ++ rest }) target → Steps p.tables e below (T.setTop g) target) ∨
    (∃ (q : Addr) (vm₁ : Vm) (B : Pt), s.WarmedH vm₁ ∧ Stand p l e R s m args below meth c B.U B.locs B.cells B.slots ∧ PostX ⟨T.setVm vm₁, locs, cells, slots⟩ (Value.ref b :: argsL).toArray q B ∧
      Steps p.tables e below (T.setTop g) ((B.U.setTop { g with stack := rest }).pushFrame (.throwing q))) := by
  obtain ⟨mk, methM, hnamed, hmethM, hstM, habM⟩ := Cond.instanceMethod_spec hinst
  obtain ⟨methM', cM, hmethM', -, -, -, -, -, -, hsigM⟩ := Cond.code_spec hnamed hcode
  cases hmethM.symm.trans hmethM'
  obtain ⟨ps, dk, kp, hps, hdk, hkp, hsuper, -, -, hnid⟩ := Cond.superclass_spec hown hsup
  have hn : s.methodNamed? ⟨y.cls, y.name, y.desc⟩ = some mk := hnamed
  have hpm : ps = mk.cls := Option.some.inj (hps.symm.trans (findClass_of_methodNamed hnamed))
  have hsub : s.vm.isSubclass ps mk.cls = true := by rw [hpm]; simp [Vm.isSubclass, Vm.isSubclassAux]
  obtain ⟨vm₁, X₁, hstep₁⟩ := X.invokespecialUp hexec hown hlink hsame hn hmethM hstM habM hno hdk hnid hps hsuper hsub (a := b) (cell := cellB) hcell
    (fun z h => by rw [h] at hobj; cases hobj) hkB (g := g) hg (argsL := argsL) (rest := rest) (hlen _ hsigM) hstack hdg
  rcases hK m meth c ⟨T.setVm vm₁, locs, cells, slots⟩ { g with stack := rest } (.invokespecial index) mk (Value.ref b :: argsL).toArray X₁ hg hsize hdg hW (X₁.named hnamed) (hpre vm₁ X₁.warmed) with ⟨v, B, X', hpost, hsteps⟩ | ⟨q, B, X', hpost, hsteps⟩
  · exact Or.inl ⟨v, vm₁, B, X₁.warmed, X', hpost, fun target h => hstep₁ _ (by rw [doInvoke_state]; exact hsteps.trans h)⟩
  · exact Or.inr ⟨q, vm₁, B, X₁.warmed, X', hpost, hstep₁ _ (by rw [doInvoke_state]; exact hsteps)⟩
theorem vx_runSU {y : MethodName} {bytes cc : ByteArray} {maxL nL mc ms n index : Nat} {ret : Option FieldType} {ws : List Cond} {rm : Room} {Pc : Array Value → State → Prop} {Qc : Array Value → State → Outcome → State → Prop} {XC : String → State → State → Prop} {free : Addr → Prop} {Ts : List Cond} {own C : String} {cC : ClassId} {b : Addr} {As rest : List Value} {g : JFrame}
    (hat : ClassAt s C cC) (S : CallFix p m c cc nL s args Ts own) (hM : vx_Met l y ws rm Pc Qc XC mc ms free) (cw : va_CS R s args own index y bytes maxL ret ws rm mc ms n) (hp : PreV s H C b Pc As)
    (hg : g.method = m) (hn : As.length = n) (hsize : g.locals.size = nL) (hstack : g.stack = As.reverse ++ .ref b :: rest) (hW : 2 * g.monitorRoom + (rest.map fun v => v.category).sum ≤ 8) (hdg : decode cc g.pc = .ok (.invokespecial index, 3)) (hf : cells + mc ≤ R.cells ∧ slots + ms ≤ R.slots) :
    vx_Run p l e R s m args below meth c H locs cells slots mc ms g rest (Qc (Value.ref b :: As).toArray) XC free := by
  obtain ⟨⟨hrc, hrs, hfr, hlo, hws, hcw⟩, hl1, hl2, hl3, hl4, hini, hcode, hno, hlen⟩ := cw
  have hK : vx_Back l R p e below s args y 3 8 (PreOf R mc ms Pc) (PostOf Qc mc ms free) (vx_Post XC mc ms free) := vx_back (bytes := bytes) (maxL := maxL) (ret := ret) hM hp.1 hrc hrs hfr hlo hws hcw (fun a' U hW => word_at hW (Or.inl (by first | rfl | simp [Cond.onTables, Cond.keeps, Cond.steady])) hini)
  obtain ⟨hx, hb, hml, ho, -⟩ := S
  obtain ⟨-, ⟨cellB, hcB, hoB, hclB⟩, hPc⟩ := hp
  obtain ⟨hfc, kB, hkB, -⟩ := hat
  cases hfc.symm.trans hclB
  intro T hT X
  rcases vx_callSU X hx (bytes := bytes) (maxL := maxL) (ret := ret) ho hl1 hl2 hl3 hl4 hcode hno hK (by rw [hT]; exact hcB) hoB hkB hg (hsize.trans hml.symm) (argsL := As) (rest := rest) (fun sig h => hn.trans (hlen sig h)) hstack hW (by rw [hb]; exact hdg)
    (fun vm₁ hW₁ => ⟨hf.1, hf.2, hPc (T.setVm vm₁) hT hW₁⟩) with ⟨v, vm₁, ⟨U', l2, c2, s2⟩, hW₁, X', ⟨g', mk, t, L, e1, e2, hq, h1, hL, h2, h3⟩, st⟩ | ⟨q, vm₁, ⟨U', l2, c2, s2⟩, hW₁, X', ⟨g', mk, t, L, E, ce, e1, e2, hq, hce, hcv, hcl, h1, hL, h2, h3⟩, st⟩
  · dsimp only [Pt.U, Pt.locs, Pt.cells, Pt.slots] at X' e1 e2 h1 h2 h3 st
    subst h1; subst h2; subst h3
    exact Or.inl ⟨v, (T.setVm vm₁).calling g' mk (Value.ref b :: As).toArray, t, U', L, hT, X', hL, e1, e2, hq, st⟩
  · dsimp only [Pt.U, Pt.locs, Pt.cells, Pt.slots] at X' e1 e2 h1 h2 h3 st hcl
    subst h1; subst h2; subst h3
    exact Or.inr ⟨q, (T.setVm vm₁).calling g' mk (Value.ref b :: As).toArray, t, U', L, E, ce, hT, X', hL, e1, e2, hq, hce, hcv, vx_cls hW₁ hcl, st⟩
end
/-! ===== END ===== -/
/-! ===== BEGIN a private method of a nest mate that may throw (follows va_callVN, va_callSN, va_runVN, va_runSN) ===== -/
section
variable {p : Program} {l : Launch} {e : Env} {R : Room} {s : State} {m : MethodId} {args : Array Value} {below : List Frame} {meth : Method} {c : Code} {H : Heap} {locs : List Loc} {cells slots : Nat}
variable {T : State}
theorem vx_callVN (X : Stand p l e R s m args below meth c T locs cells slots) (hexec : p.tables.exec = Jvm.exec) {own C : String} {index : Nat} {host : String} {y : MethodName} {bytes : ByteArray} {maxL : Nat} {ret : Option FieldType}
    (hown : s.vm.findClass own = some m.cls) (hlink : (Cond.methodLinkNest own index y host).before args s = true) (hinst : (Cond.instanceMethod y).before args s = true) (hsel : (Cond.selects C y y).before args s = true)
    (hcode : (Cond.code y bytes maxL ret).before args s = true) (hy : y.cls ≠ "java/lang/invoke/MethodHandle" ∧ y.cls ≠ "java/lang/invoke/VarHandle")
    {W : Nat} {Pre : Pt → Array Value → Prop} {Post : Pt → Array Value → Option Value → Pt → Prop} {PostX : Pt → Array Value → Addr → Pt → Prop} (hK : vx_Back l R p e below s args y 3 W Pre Post PostX)
    {b : Addr} {cellB : Cell} (hcell : T.heap[b]? = some cellB) (hobj : cellB.vm.isStatics = false) (hcls : s.vm.findClass C = some cellB.cls)
    {g : JFrame} (hg : g.method = m) (hsize : g.locals.size = c.maxLocals) {argsL rest : List Value} (hlen : ∀ sig, parseMethodDescriptor y.desc = some sig → argsL.length = sig.parameters.length)
    (hstack : g.stack = argsL.reverse ++ .ref b :: rest) (hW : 2 * g.monitorRoom + (rest.map fun v => v.category).sum ≤ W) (hdg : decode c.code g.pc = .ok (.invokevirtual index, 3))
    (hpre : ∀ vm₁, s.WarmedH vm₁ → Pre ⟨T.setVm vm₁, locs, cells, slots⟩ (Value.ref b :: argsL).toArray) :
    (∃ (v : Option Value) (vm₁ : Vm) (B : Pt), s.WarmedH vm₁ ∧ Stand p l e R s m args below meth c B.U B.locs B.cells B.slots ∧ Post ⟨T.setVm vm₁, locs, cells, slots⟩ (Value.ref b :: argsL).toArray v B ∧
      ∀ target, Steps p.tables e below (B.U.setTop { g with pc := g.pc + 3, stack := v.toList ++ rest }) target → Steps p.tables e below (T.setTop g) target) ∨
    (∃ (q : Addr) (vm₁ : Vm) (B : Pt), s.WarmedH vm₁ ∧ Stand p l e R s m args below meth c B.U B.locs B.cells B.slots ∧ PostX ⟨T.setVm vm₁, locs, cells, slots⟩ (Value.ref b :: argsL).toArray q B ∧
      Steps p.tables e below (T.setTop g) ((B.U.setTop { g with stack := rest }).pushFrame (.throwing q))) := by
  obtain ⟨mk, methM, hnamed, hmethM, hstM, habM⟩ := Cond.instanceMethod_spec hinst
  obtain ⟨methM', cM, hmethM', -, -, -, -, -, -, hsigM⟩ := Cond.code_spec hnamed hcode
  cases hmethM.symm.trans hmethM'
  obtain ⟨c2, r2, m2, q1, q2, q3, q4, kP, hkP, hkPi⟩ := Cond.selects_spec hsel
  cases hcls.symm.trans q1
  cases (State.methodFound?_of_named hnamed hy).symm.trans q2
  cases hnamed.symm.trans q3
  have hselP : selectMethod e.platform s.vm cellB.cls mk = .method mk := by rw [Launch.admits_selectMethod X.admits]; exact q4
  obtain ⟨vm₁, X₁, hstep₁⟩ := X.invokevirtualNest hexec hown hlink hnamed hmethM hstM hkP hkPi hy (a := b) (cell := cellB) hcell
    (fun z h => by rw [h] at hobj; cases hobj) hselP hmethM habM hkP hkPi (g := g) hg (argsL := argsL) (rest := rest) (hlen _ hsigM) hstack hdg
  rcases hK m meth c ⟨T.setVm vm₁, locs, cells, slots⟩ { g with stack := rest } (.invokevirtual index) mk (Value.ref b :: argsL).toArray X₁ hg hsize hdg hW (X₁.named hnamed) (hpre vm₁ X₁.warmed) with ⟨v, B, X', hpost, hsteps⟩ | ⟨q, B, X', hpost, hsteps⟩
  · exact Or.inl ⟨v, vm₁, B, X₁.warmed, X', hpost, fun target h => hstep₁ _ fun acts => by rw [doInvoke_state]; exact hsteps.trans h⟩
  · exact Or.inr ⟨q, vm₁, B, X₁.warmed, X', hpost, hstep₁ _ fun acts => by rw [doInvoke_state]; exact hsteps⟩
theorem vx_callSN (X : Stand p l e R s m args below meth c T locs cells slots) (hexec : p.tables.exec = Jvm.exec) {own : String} {index : Nat} {host : String} {y : MethodName} {bytes : ByteArray} {maxL : Nat} {ret : Option FieldType}
    (hown : s.vm.findClass own = some m.cls) (hlink : (Cond.methodLinkNest own index y host).before args s = true) (hstat : (Cond.static y).before args s = true) (hinit : (Cond.initialized y.cls).before args s = true)
    (hcode : (Cond.code y bytes maxL ret).before args s = true) (hy : y.cls ≠ "java/lang/invoke/MethodHandle" ∧ y.cls ≠ "java/lang/invoke/VarHandle")
    {W : Nat} {Pre : Pt → Array Value → Prop} {Post : Pt → Array Value → Option Value → Pt → Prop} {PostX : Pt → Array Value → Addr → Pt → Prop} (hK : vx_Back l R p e below s args y 3 W Pre Post PostX)
    {g : JFrame} (hg : g.method = m) (hsize : g.locals.size = c.maxLocals) {argsL rest : List Value} (hlen : ∀ sig, parseMethodDescriptor y.desc = some sig → argsL.length = sig.parameters.length)
    (hstack : g.stack = argsL.reverse ++ rest) (hW : 2 * g.monitorRoom + (rest.map fun v => v.category).sum ≤ W) (hdg : decode c.code g.pc = .ok (.invokestatic index, 3))
    (hpre : ∀ vm₁, s.WarmedH vm₁ → Pre ⟨T.setVm vm₁, locs, cells, slots⟩ argsL.toArray) :
    (∃ (v : Option Value) (vm₁ : Vm) (B : Pt), s.WarmedH vm₁ ∧ Stand p l e R s m args below meth c B.U B.locs B.cells B.slots ∧ Post ⟨T.setVm vm₁, locs, cells, slots⟩ argsL.toArray v B ∧
      ∀ target, Steps p.tables e below (B.U.setTop { g with pc := g.pc + 3, stack := v.toList ++ rest }) target → Steps p.tables e below (T.setTop g) target) ∨
    (∃ (q : Addr) (vm₁ : Vm) (B : Pt), s.WarmedH vm₁ ∧ Stand p l e R s m args below meth c B.U B.locs B.cells B.slots ∧ PostX ⟨T.setVm vm₁, locs, cells, slots⟩ argsL.toArray q B ∧
      Steps p.tables e below (T.setTop g) ((B.U.setTop { g with stack := rest }).pushFrame (.throwing q))) := by
  obtain ⟨mk, hnamed⟩ := Cond.code_named hcode
  obtain ⟨methM, cM, hmethM, -, -, -, -, -, -, hsigM⟩ := Cond.code_spec hnamed hcode
  have hstatic : methM.isStatic = true := Cond.static_spec hnamed hmethM hstat
  obtain ⟨kP, hkP, -⟩ := className_of_methodNamed hnamed
  have hinitP : kP.init = .initialized := Cond.initialized_spec (findClass_of_methodNamed hnamed) hkP hinit
  obtain ⟨vm₁, X₁, hstep₁⟩ := X.invokestaticNest hexec hown hlink hnamed hmethM hstatic hkP hinitP hy (g := g) hg (argsL := argsL) (rest := rest) (hlen _ hsigM) hstack hdg
  rcases hK m meth c ⟨T.setVm vm₁, locs, cells, slots⟩ { g with stack := rest } (.invokestatic index) mk argsL.toArray X₁ hg hsize hdg hW (X₁.named hnamed) (hpre vm₁ X₁.warmed) with ⟨v, B, X', hpost, hsteps⟩ | ⟨q, B, X', hpost, hsteps⟩
  · exact Or.inl ⟨v, vm₁, B, X₁.warmed, X', hpost, fun target h => hstep₁ _ fun acts => by rw [doInvoke_state]; exact hsteps.trans h⟩
  · exact Or.inr ⟨q, vm₁, B, X₁.warmed, X', hpost, hstep₁ _ fun acts => by rw [doInvoke_state]; exact hsteps⟩
theorem vx_runVN {y : MethodName} {bytes cc : ByteArray} {maxL nL mc ms n index : Nat} {ret : Option FieldType} {ws : List Cond} {rm : Room} {Pc : Array Value → State → Prop} {Qc : Array Value → State → Outcome → State → Prop} {XC : String → State → State → Prop} {free : Addr → Prop} {Ts : List Cond} {own C host : String} {b : Addr} {As rest : List Value} {g : JFrame}
    (S : CallFix p m c cc nL s args Ts own) (hM : vx_Met l y ws rm Pc Qc XC mc ms free) (cw : va_CN R s args own index y host bytes maxL ret ws rm mc ms n ∧ (Cond.instanceMethod y).before args s = true ∧ (Cond.selects C y y).before args s = true) (hp : PreV s H C b Pc As)
    (hg : g.method = m) (hn : As.length = n) (hsize : g.locals.size = nL) (hstack : g.stack = As.reverse ++ .ref b :: rest) (hW : 2 * g.monitorRoom + (rest.map fun v => v.category).sum ≤ 8) (hdg : decode cc g.pc = .ok (.invokevirtual index, 3)) (hf : cells + mc ≤ R.cells ∧ slots + ms ≤ R.slots) :
    vx_Run p l e R s m args below meth c H locs cells slots mc ms g rest (Qc (Value.ref b :: As).toArray) XC free := by
  obtain ⟨⟨⟨hrc, hrs, hfr, hlo, hws, hcw⟩, hcode, hini, hy, hlen, hl⟩, hx1, hx2⟩ := cw
  have hK : vx_Back l R p e below s args y 3 8 (PreOf R mc ms Pc) (PostOf Qc mc ms free) (vx_Post XC mc ms free) := vx_back (bytes := bytes) (maxL := maxL) (ret := ret) hM hp.1 hrc hrs hfr hlo hws hcw (fun a' U hW => word_at hW (Or.inl (by first | rfl | simp [Cond.onTables, Cond.keeps, Cond.steady])) hini)
  obtain ⟨hx, hb, hml, ho, -⟩ := S
  obtain ⟨-, ⟨cellB, hcB, hoB, hclB⟩, hPc⟩ := hp
  intro T hT X
  rcases vx_callVN X hx (C := C) (bytes := bytes) (maxL := maxL) (ret := ret) ho hl hx1 hx2 hcode hy hK (by rw [hT]; exact hcB) hoB hclB hg (hsize.trans hml.symm) (argsL := As) (rest := rest) (fun sig h => hn.trans (hlen sig h)) hstack hW (by rw [hb]; exact hdg)
    (fun vm₁ hW₁ => ⟨hf.1, hf.2, hPc (T.setVm vm₁) hT hW₁⟩) with ⟨v, vm₁, ⟨U', l2, c2, s2⟩, hW₁, X', ⟨g', mk, t, L, e1, e2, hq, h1, hL, h2, h3⟩, st⟩ | ⟨q, vm₁, ⟨U', l2, c2, s2⟩, hW₁, X', ⟨g', mk, t, L, E, ce, e1, e2, hq, hce, hcv, hcl, h1, hL, h2, h3⟩, st⟩
  · dsimp only [Pt.U, Pt.locs, Pt.cells, Pt.slots] at X' e1 e2 h1 h2 h3 st
    subst h1; subst h2; subst h3
    exact Or.inl ⟨v, (T.setVm vm₁).calling g' mk (Value.ref b :: As).toArray, t, U', L, hT, X', hL, e1, e2, hq, st⟩
  · dsimp only [Pt.U, Pt.locs, Pt.cells, Pt.slots] at X' e1 e2 h1 h2 h3 st hcl
    subst h1; subst h2; subst h3
    exact Or.inr ⟨q, (T.setVm vm₁).calling g' mk (Value.ref b :: As).toArray, t, U', L, E, ce, hT, X', hL, e1, e2, hq, hce, hcv, vx_cls hW₁ hcl, st⟩
theorem vx_runSN {y : MethodName} {bytes cc : ByteArray} {maxL nL mc ms n index : Nat} {ret : Option FieldType} {ws : List Cond} {rm : Room} {Pc : Array Value → State → Prop} {Qc : Array Value → State → Outcome → State → Prop} {XC : String → State → State → Prop} {free : Addr → Prop} {Ts : List Cond} {own host : String} {As rest : List Value} {g : JFrame}
    (S : CallFix p m c cc nL s args Ts own) (hM : vx_Met l y ws rm Pc Qc XC mc ms free) (cw : va_CN R s args own index y host bytes maxL ret ws rm mc ms n ∧ (Cond.static y).before args s = true ∧ True) (hp : PreS s H Pc As)
    (hg : g.method = m) (hn : As.length = n) (hsize : g.locals.size = nL) (hstack : g.stack = As.reverse ++ rest) (hW : 2 * g.monitorRoom + (rest.map fun v => v.category).sum ≤ 8) (hdg : decode cc g.pc = .ok (.invokestatic index, 3)) (hf : cells + mc ≤ R.cells ∧ slots + ms ≤ R.slots) :
    vx_Run p l e R s m args below meth c H locs cells slots mc ms g rest (Qc As.toArray) XC free := by
  obtain ⟨⟨⟨hrc, hrs, hfr, hlo, hws, hcw⟩, hcode, hini, hy, hlen, hl⟩, hx1, hx2⟩ := cw
  have hK : vx_Back l R p e below s args y 3 8 (PreOf R mc ms Pc) (PostOf Qc mc ms free) (vx_Post XC mc ms free) := vx_back (bytes := bytes) (maxL := maxL) (ret := ret) hM hp.1 hrc hrs hfr hlo hws hcw (fun a' U hW => word_at hW (Or.inl (by first | rfl | simp [Cond.onTables, Cond.keeps, Cond.steady])) hini)
  obtain ⟨hx, hb, hml, ho, -⟩ := S
  have hPc := hp.2
  intro T hT X
  rcases vx_callSN X hx (bytes := bytes) (maxL := maxL) (ret := ret) ho hl hx1 hini hcode hy hK hg (hsize.trans hml.symm) (argsL := As) (rest := rest) (fun sig h => hn.trans (hlen sig h)) hstack hW (by rw [hb]; exact hdg)
    (fun vm₁ hW₁ => ⟨hf.1, hf.2, hPc (T.setVm vm₁) hT hW₁⟩) with ⟨v, vm₁, ⟨U', l2, c2, s2⟩, hW₁, X', ⟨g', mk, t, L, e1, e2, hq, h1, hL, h2, h3⟩, st⟩ | ⟨q, vm₁, ⟨U', l2, c2, s2⟩, hW₁, X', ⟨g', mk, t, L, E, ce, e1, e2, hq, hce, hcv, hcl, h1, hL, h2, h3⟩, st⟩
  · dsimp only [Pt.U, Pt.locs, Pt.cells, Pt.slots] at X' e1 e2 h1 h2 h3 st
    subst h1; subst h2; subst h3
    exact Or.inl ⟨v, (T.setVm vm₁).calling g' mk As.toArray, t, U', L, hT, X', hL, e1, e2, hq, st⟩
  · dsimp only [Pt.U, Pt.locs, Pt.cells, Pt.slots] at X' e1 e2 h1 h2 h3 st hcl
    subst h1; subst h2; subst h3
    exact Or.inr ⟨q, (T.setVm vm₁).calling g' mk As.toArray, t, U', L, E, ce, hT, X', hL, e1, e2, hq, hce, hcv, vx_cls hW₁ hcl, st⟩
end
/-! ===== END ===== -/
/-! ===== BEGIN calls by an interface of methods that may throw (vx_callIF, vx_runF follow va_callIF, va_runF of this kit) ===== -/
section
variable {p : Program} {l : Launch} {e : Env} {R : Room} {s : State} {m : MethodId} {args : Array Value} {below : List Frame} {meth : Method} {c : Code} {H : Heap} {locs : List Loc} {cells slots : Nat} {Q : State → Prop}
variable {mc ms : Nat} {free : Addr → Prop} {A0 A1 : Nat → Prop} {H0 : Heap} {a : Array Value} {pc : Nat} {ls : Array Slot} {st0 rest : List Value}
def vx_Run5 (p : Program) (l : Launch) (e : Env) (R : Room) (s : State) (m : MethodId) (args : Array Value) (below : List Frame) (meth : Method) (c : Code) (H : Heap) (locs : List Loc) (cells slots mc ms : Nat) (g : JFrame) (rest : List Value) (Qa : State → Outcome → State → Prop) (XC : String → State → State → Prop) (free : Addr → Prop) : Prop :=
  ∀ T : State, T.heap = H → Stand p l e R s m args below meth c T locs cells slots →
    (∃ (v : Option Value) (st₀ t T' : State) (L : List Loc), st₀.heap = H ∧ Stand p l e R s m args below meth c T' (locs ++ L) (cells + mc) (slots + ms) ∧ (∀ q ∈ L, free q.base) ∧ T'.heap = t.heap ∧ T'.vm = t.vm ∧ Qa st₀ (.returned v) t ∧
      Goes p e below T g T' { g with pc := g.pc + 5, stack := v.toList ++ rest }) ∨
    (∃ (q : Addr) (st₀ t T' : State) (L : List Loc) (E : String) (ce : Cell), st₀.heap = H ∧ Stand p l e R s m args below meth c T' (locs ++ L) (cells + mc) (slots + ms) ∧ (∀ z ∈ L, free z.base) ∧ T'.heap = t.heap ∧ T'.vm = t.vm ∧ XC E st₀ t ∧ t.heap[q]? = some ce ∧ ce.vm = .none ∧ s.vm.findClass E = some ce.cls ∧
      Steps p.tables e below (T.setTop g) ((T'.setTop { g with stack := rest }).pushFrame (.throwing q)))
theorem vx_callIF {T : State} (X : Stand p l e R s m args below meth c T locs cells slots) (hexec : p.tables.exec = Jvm.exec) {own C : String} {index count : Nat} {x y : MethodName} {bytes : ByteArray} {maxL : Nat} {ret : Option FieldType}
    (hown : s.vm.findClass own = some m.cls) (hlink : (Cond.methodLink own index x).before args s = true) (hdecl : (Cond.declares x).before args s = true) (hface : (Cond.interfaceMethod x.cls x.cls x.name x.desc).before args s = true)
    (hsel : (Cond.selects C x y).before args s = true) (hinst : (Cond.instanceMethod y).before args s = true) (hpub : (Cond.publicMethod y).before args s = true) (hunh : (Cond.unhidden C x.name x.desc).before args s = true)
    (hcast : (Cond.castable C x.cls).before args s = true) (hcode : (Cond.code y bytes maxL ret).before args s = true) (hx : x.cls ≠ "java/lang/invoke/MethodHandle" ∧ x.cls ≠ "java/lang/invoke/VarHandle")
    {W9 : Nat} {Pre : Pt → Array Value → Prop} {Post : Pt → Array Value → Option Value → Pt → Prop} {PostX : Pt → Array Value → Addr → Pt → Prop} (hK : vx_Back l R p e below s args y 5 W9 Pre Post PostX)
    {b : Addr} {cellB : Cell} {kB : Class} (hcell : T.heap[b]? = some cellB) (hobj : cellB.vm.isStatics = false) (hcls : s.vm.findClass C = some cellB.cls) (hkB : s.vm.classes[cellB.cls]? = some kB)
    {g : JFrame} (hg : g.method = m) (hsize : g.locals.size = c.maxLocals) {argsL rest : List Value} (hlen : ∀ sig, parseMethodDescriptor x.desc = some sig → argsL.length = sig.parameters.length)
    (hstack : g.stack = argsL.reverse ++ .ref b :: rest) (hW : 2 * g.monitorRoom + (rest.map fun v => v.category).sum ≤ W9) (hdg : decode c.code g.pc = .ok (.invokeinterface index count, 5))
    (hpre : ∀ vm₁, s.WarmedH vm₁ → Pre ⟨T.setVm vm₁, locs, cells, slots⟩ (Value.ref b :: argsL).toArray) :
    (∃ (v : Option Value) (vm₁ : Vm) (B : Pt), s.WarmedH vm₁ ∧ Stand p l e R s m args below meth c B.U B.locs B.cells B.slots ∧ Post ⟨T.setVm vm₁, locs, cells, slots⟩ (Value.ref b :: argsL).toArray v B ∧
      ∀ target, Steps p.tables e below (B.U.setTop { g with pc := g.pc + 5, stack := v.toList ++ rest }) target → Steps p.tables e below (T.setTop g) target) ∨
    (∃ (q : Addr) (vm₁ : Vm) (B : Pt), s.WarmedH vm₁ ∧ Stand p l e R s m args below meth c B.U B.locs B.cells B.slots ∧ PostX ⟨T.setVm vm₁, locs, cells, slots⟩ (Value.ref b :: argsL).toArray q B ∧
      Steps p.tables e below (T.setTop g) ((B.U.setTop { g with stack := rest }).pushFrame (.throwing q))) := by
  obtain ⟨r0, r, hn, hrm, hstR, hsigR⟩ := Cond.declares_spec hdecl
  obtain ⟨cL, kL, r1, hcL, hkL, hiL, hfoundL, hn1⟩ := Cond.interfaceMethod_spec hface
  cases hn.symm.trans hn1
  have hr0cls : r0.cls = cL := Option.some.inj ((findClass_of_methodNamed hn).symm.trans hcL)
  obtain ⟨hnameR, hdescR⟩ := name_of_methodNamed hn hrm
  obtain ⟨mk, methM, hnamed, hmethM, -, habM⟩ := Cond.instanceMethod_spec hinst
  obtain ⟨c2, r2, m2, q1, q2, q3, q4, -⟩ := Cond.selects_spec hsel
  cases hcls.symm.trans q1
  cases hfoundL.symm.trans q2
  cases hnamed.symm.trans q3
  have hselP : selectMethod e.platform s.vm cellB.cls r0 = .method mk := by rw [Launch.admits_selectMethod X.admits]; exact q4
  have hpubM : hasFlag methM.accessFlags Acc.public_ = true := Cond.publicMethod_spec hnamed hmethM hpub
  have hway : ((cellB.cls :: s.vm.superclasses cellB.cls).any fun k => (declaredIn s.vm r.name r.desc k).any fun (_, z) => z.isPrivate || z.isStatic) = false := by
    rw [hnameR, hdescR]; exact Cond.unhidden_spec hcls hunh
  obtain ⟨c3, t3, w1, w2, w3⟩ := Cond.castable_spec hcast
  cases hcls.symm.trans w1
  cases hcL.symm.trans w2
  obtain ⟨vm₁, X₁, hstep₁⟩ := X.invokeinterface hexec hown hlink hn hrm hstR (by rw [hr0cls]; exact hkL) hiL hx (a := b) (cell := cellB) (kcell := kB) hcell
    (fun z h => by rw [h] at hobj; cases hobj) hkB (by rw [hr0cls]; exact w3) hselP hmethM hway hpubM habM (g := g) hg (argsL := argsL) (rest := rest) (hlen _ hsigR) hstack hdg
  rcases hK m meth c ⟨T.setVm vm₁, locs, cells, slots⟩ { g with stack := rest } (.invokeinterface index count) mk (Value.ref b :: argsL).toArray X₁ hg hsize hdg hW (X₁.named hnamed) (hpre vm₁ X₁.warmed) with ⟨v, B, X', hpost, hsteps⟩ | ⟨q, B, X', hpost, hsteps⟩
  · exact Or.inl ⟨v, vm₁, B, X₁.warmed, X', hpost, fun target h => hstep₁ _ fun acts => by rw [doInvoke_state]; exact hsteps.trans h⟩
  · exact Or.inr ⟨q, vm₁, B, X₁.warmed, X', hpost, hstep₁ _ fun acts => by rw [doInvoke_state]; exact hsteps⟩
theorem vx_runF {x y : MethodName} {bytes cc : ByteArray} {maxL nL mc ms n index count : Nat} {ret : Option FieldType} {ws : List Cond} {rm : Room} {Pc : Array Value → State → Prop} {Qc : Array Value → State → Outcome → State → Prop} {XC : String → State → State → Prop} {free : Addr → Prop} {Ts : List Cond} {own C : String} {cC : ClassId} {b : Addr} {As rest : List Value} {g : JFrame}
    (hat : ClassAt s C cC) (S : CallFix p m c cc nL s args Ts own) (hM : vx_Met l y ws rm Pc Qc XC mc ms free) (cw : va_CI R s args own C index x y bytes maxL ret ws rm mc ms n) (hp : PreV s H C b Pc As)
    (hg : g.method = m) (hn : As.length = n) (hsize : g.locals.size = nL) (hstack : g.stack = As.reverse ++ .ref b :: rest) (hW : 2 * g.monitorRoom + (rest.map fun v => v.category).sum ≤ 8) (hdg : decode cc g.pc = .ok (.invokeinterface index count, 5)) (hf : cells + mc ≤ R.cells ∧ slots + ms ≤ R.slots) :
    vx_Run5 p l e R s m args below meth c H locs cells slots mc ms g rest (Qc (Value.ref b :: As).toArray) XC free := by
  obtain ⟨hrc, hrs, hfr, hlo, hws, hcw⟩ := cw.back
  have hini := cw.init
  have hK : vx_Back l R p e below s args y 5 8 (PreOf R mc ms Pc) (PostOf Qc mc ms free) (vx_Post XC mc ms free) := vx_back (bytes := bytes) (maxL := maxL) (ret := ret) hM hp.1 hrc hrs hfr hlo hws hcw (fun a' U hW => word_at hW (Or.inl (by first | rfl | simp [Cond.onTables, Cond.keeps, Cond.steady])) hini)
  obtain ⟨hx, hb, hml, ho, -⟩ := S
  obtain ⟨-, ⟨cellB, hcB, hoB, hclB⟩, hPc⟩ := hp
  obtain ⟨hfc, kB, hkB, -⟩ := hat
  cases hfc.symm.trans hclB
  intro T hT X
  rcases vx_callIF X hx (C := C) (bytes := bytes) (maxL := maxL) (ret := ret) ho cw.link cw.decl cw.face cw.sel cw.inst cw.pub cw.unh cw.cast cw.code cw.notMH hK (by rw [hT]; exact hcB) hoB hclB hkB hg (hsize.trans hml.symm) (argsL := As) (rest := rest) (fun sig h => hn.trans (cw.len sig h)) hstack hW (by rw [hb]; exact hdg)
    (fun vm₁ hW₁ => ⟨hf.1, hf.2, hPc (T.setVm vm₁) hT hW₁⟩) with ⟨v, vm₁, ⟨U', l2, c2, s2⟩, hW₁, X', ⟨g', mk, t, L, e1, e2, hq, h1, hL, h2, h3⟩, st⟩ | ⟨q, vm₁, ⟨U', l2, c2, s2⟩, hW₁, X', ⟨g', mk, t, L, E, ce, e1, e2, hq, hce, hcv, hcl, h1, hL, h2, h3⟩, st⟩
  · dsimp only [Pt.U, Pt.locs, Pt.cells, Pt.slots] at X' e1 e2 h1 h2 h3 st
    subst h1; subst h2; subst h3
    exact Or.inl ⟨v, (T.setVm vm₁).calling g' mk (Value.ref b :: As).toArray, t, U', L, hT, X', hL, e1, e2, hq, st⟩
  · dsimp only [Pt.U, Pt.locs, Pt.cells, Pt.slots] at X' e1 e2 h1 h2 h3 st hcl
    subst h1; subst h2; subst h3
    exact Or.inr ⟨q, (T.setVm vm₁).calling g' mk (Value.ref b :: As).toArray, t, U', L, E, ce, hT, X', hL, e1, e2, hq, hce, hcv, vx_cls hW₁ hcl, st⟩
theorem vx_callFv {S SX : Type} {post : S → Prop} {px : SX → Prop} {B : S → State → Prop} {BX : String → SX → State → Prop} {AX : Nat → Prop} (hr : vx_Run5 p l e R s m args below meth c H locs cells slots mc ms (F0 m pc ls st0) rest (va_Qv post B A1 a) (vx_X px BX AX) free) (hS : va_S A0 H0 H locs) (hA : ∀ q, q < H.size → A1 q → A0 q) (hf : ∀ q, free q → A0 q) (hAX : ∀ q, q < H.size → AX q → A0 q)
    (kx : ∀ (E : String) (ce : Cell) (q9 : Addr) (u : SX) (t : State) (H1 : Heap) (locs1 : List Loc), t.heap = H1 → s.vm.Alike t.vm → px u → BX E u t → H.size ≤ H1.size → (∀ q : Nat, q < H.size → ¬ AX q → H1[q]? = H[q]?) → va_S A0 H0 H1 locs1 → H1[q9]? = some ce → ce.vm = .none → s.vm.findClass E = some ce.cls → vx_W p l e R s m args below meth c H1 locs1 (cells + mc) (slots + ms) Q (F0 m pc ls rest) q9)
    (kk : ∀ (u : S) (t : State) (H1 : Heap) (locs1 : List Loc), t.heap = H1 → s.vm.Alike t.vm → post u → B u t → H.size ≤ H1.size → (∀ q : Nat, q < H.size → ¬ A1 q → H1[q]? = H[q]?) → va_S A0 H0 H1 locs1 → W p l e R s m args below meth c H1 locs1 (cells + mc) (slots + ms) Q (F0 m (pc + 5) ls (rest))) : W p l e R s m args below meth c H locs cells slots Q (F0 m pc ls st0) := by
  intro T hT X
  rcases hr T hT X with ⟨v, st₀, t, T', L, h0, X', hL, e1, e2, ⟨⟨u, hv, hp, hb⟩, hF⟩, st⟩ | ⟨q, st₀, t, T', L, E, ce, h0, X', hL, e1, e2, ⟨u, hp, hb, hF⟩, hce, hcv, hcl, st⟩
  · cases hv
    obtain ⟨k1, k2, k3⟩ := vx_keep h0 e1 hS hA hf hL hF
    obtain ⟨t2, a1, b1⟩ := kk u t T'.heap (locs ++ L) e1.symm (by rw [← e2]; exact X'.warmed.alike) hp hb k1 k2 k3 T' rfl X'
    exact ⟨t2, st t2 a1, b1⟩
  · obtain ⟨k1, k2, k3⟩ := vx_keep h0 e1 hS hAX hf hL hF
    obtain ⟨t2, a1, b1⟩ := kx E ce q u t T'.heap (locs ++ L) e1.symm (by rw [← e2]; exact X'.warmed.alike) hp hb k1 k2 k3 (by rw [e1]; exact hce) hcv hcl T' rfl X'
    exact ⟨t2, st.trans a1, b1⟩
theorem vx_callFi {S SX : Type} {post : Int32 → S → Prop} {px : SX → Prop} {B : S → State → Prop} {BX : String → SX → State → Prop} {AX : Nat → Prop} (hr : vx_Run5 p l e R s m args below meth c H locs cells slots mc ms (F0 m pc ls st0) rest (va_Qi post B A1 a) (vx_X px BX AX) free) (hS : va_S A0 H0 H locs) (hA : ∀ q, q < H.size → A1 q → A0 q) (hf : ∀ q, free q → A0 q) (hAX : ∀ q, q < H.size → AX q → A0 q)
    (kx : ∀ (E : String) (ce : Cell) (q9 : Addr) (u : SX) (t : State) (H1 : Heap) (locs1 : List Loc), t.heap = H1 → s.vm.Alike t.vm → px u → BX E u t → H.size ≤ H1.size → (∀ q : Nat, q < H.size → ¬ AX q → H1[q]? = H[q]?) → va_S A0 H0 H1 locs1 → H1[q9]? = some ce → ce.vm = .none → s.vm.findClass E = some ce.cls → vx_W p l e R s m args below meth c H1 locs1 (cells + mc) (slots + ms) Q (F0 m pc ls rest) q9)
    (kk : ∀ (r : Int32) (u : S) (t : State) (H1 : Heap) (locs1 : List Loc), t.heap = H1 → s.vm.Alike t.vm → post r u → B u t → H.size ≤ H1.size → (∀ q : Nat, q < H.size → ¬ A1 q → H1[q]? = H[q]?) → va_S A0 H0 H1 locs1 → W p l e R s m args below meth c H1 locs1 (cells + mc) (slots + ms) Q (F0 m (pc + 5) ls (.int r :: rest))) : W p l e R s m args below meth c H locs cells slots Q (F0 m pc ls st0) := by
  intro T hT X
  rcases hr T hT X with ⟨v, st₀, t, T', L, h0, X', hL, e1, e2, ⟨⟨r, u, hv, hp, hb⟩, hF⟩, st⟩ | ⟨q, st₀, t, T', L, E, ce, h0, X', hL, e1, e2, ⟨u, hp, hb, hF⟩, hce, hcv, hcl, st⟩
  · cases hv
    obtain ⟨k1, k2, k3⟩ := vx_keep h0 e1 hS hA hf hL hF
    obtain ⟨t2, a1, b1⟩ := kk r u t T'.heap (locs ++ L) e1.symm (by rw [← e2]; exact X'.warmed.alike) hp hb k1 k2 k3 T' rfl X'
    exact ⟨t2, st t2 a1, b1⟩
  · obtain ⟨k1, k2, k3⟩ := vx_keep h0 e1 hS hAX hf hL hF
    obtain ⟨t2, a1, b1⟩ := kx E ce q u t T'.heap (locs ++ L) e1.symm (by rw [← e2]; exact X'.warmed.alike) hp hb k1 k2 k3 (by rw [e1]; exact hce) hcv hcl T' rfl X'
    exact ⟨t2, st.trans a1, b1⟩
theorem vx_callFl {S SX : Type} {post : Int64 → S → Prop} {px : SX → Prop} {B : S → State → Prop} {BX : String → SX → State → Prop} {AX : Nat → Prop} (hr : vx_Run5 p l e R s m args below meth c H locs cells slots mc ms (F0 m pc ls st0) rest (va_Ql post B A1 a) (vx_X px BX AX) free) (hS : va_S A0 H0 H locs) (hA : ∀ q, q < H.size → A1 q → A0 q) (hf : ∀ q, free q → A0 q) (hAX : ∀ q, q < H.size → AX q → A0 q)
    (kx : ∀ (E : String) (ce : Cell) (q9 : Addr) (u : SX) (t : State) (H1 : Heap) (locs1 : List Loc), t.heap = H1 → s.vm.Alike t.vm → px u → BX E u t → H.size ≤ H1.size → (∀ q : Nat, q < H.size → ¬ AX q → H1[q]? = H[q]?) → va_S A0 H0 H1 locs1 → H1[q9]? = some ce → ce.vm = .none → s.vm.findClass E = some ce.cls → vx_W p l e R s m args below meth c H1 locs1 (cells + mc) (slots + ms) Q (F0 m pc ls rest) q9)
    (kk : ∀ (r : Int64) (u : S) (t : State) (H1 : Heap) (locs1 : List Loc), t.heap = H1 → s.vm.Alike t.vm → post r u → B u t → H.size ≤ H1.size → (∀ q : Nat, q < H.size → ¬ A1 q → H1[q]? = H[q]?) → va_S A0 H0 H1 locs1 → W p l e R s m args below meth c H1 locs1 (cells + mc) (slots + ms) Q (F0 m (pc + 5) ls (.long r :: rest))) : W p l e R s m args below meth c H locs cells slots Q (F0 m pc ls st0) := by
  intro T hT X
  rcases hr T hT X with ⟨v, st₀, t, T', L, h0, X', hL, e1, e2, ⟨⟨r, u, hv, hp, hb⟩, hF⟩, st⟩ | ⟨q, st₀, t, T', L, E, ce, h0, X', hL, e1, e2, ⟨u, hp, hb, hF⟩, hce, hcv, hcl, st⟩
  · cases hv
    obtain ⟨k1, k2, k3⟩ := vx_keep h0 e1 hS hA hf hL hF
    obtain ⟨t2, a1, b1⟩ := kk r u t T'.heap (locs ++ L) e1.symm (by rw [← e2]; exact X'.warmed.alike) hp hb k1 k2 k3 T' rfl X'
    exact ⟨t2, st t2 a1, b1⟩
  · obtain ⟨k1, k2, k3⟩ := vx_keep h0 e1 hS hAX hf hL hF
    obtain ⟨t2, a1, b1⟩ := kx E ce q u t T'.heap (locs ++ L) e1.symm (by rw [← e2]; exact X'.warmed.alike) hp hb k1 k2 k3 (by rw [e1]; exact hce) hcv hcl T' rfl X'
    exact ⟨t2, st.trans a1, b1⟩
theorem vx_callFf {S SX : Type} {post : UInt32 → S → Prop} {px : SX → Prop} {B : S → State → Prop} {BX : String → SX → State → Prop} {AX : Nat → Prop} (hr : vx_Run5 p l e R s m args below meth c H locs cells slots mc ms (F0 m pc ls st0) rest (va_Qf post B A1 a) (vx_X px BX AX) free) (hS : va_S A0 H0 H locs) (hA : ∀ q, q < H.size → A1 q → A0 q) (hf : ∀ q, free q → A0 q) (hAX : ∀ q, q < H.size → AX q → A0 q)
    (kx : ∀ (E : String) (ce : Cell) (q9 : Addr) (u : SX) (t : State) (H1 : Heap) (locs1 : List Loc), t.heap = H1 → s.vm.Alike t.vm → px u → BX E u t → H.size ≤ H1.size → (∀ q : Nat, q < H.size → ¬ AX q → H1[q]? = H[q]?) → va_S A0 H0 H1 locs1 → H1[q9]? = some ce → ce.vm = .none → s.vm.findClass E = some ce.cls → vx_W p l e R s m args below meth c H1 locs1 (cells + mc) (slots + ms) Q (F0 m pc ls rest) q9)
    (kk : ∀ (r : UInt32) (u : S) (t : State) (H1 : Heap) (locs1 : List Loc), t.heap = H1 → s.vm.Alike t.vm → post r u → B u t → H.size ≤ H1.size → (∀ q : Nat, q < H.size → ¬ A1 q → H1[q]? = H[q]?) → va_S A0 H0 H1 locs1 → W p l e R s m args below meth c H1 locs1 (cells + mc) (slots + ms) Q (F0 m (pc + 5) ls (.float r :: rest))) : W p l e R s m args below meth c H locs cells slots Q (F0 m pc ls st0) := by
  intro T hT X
  rcases hr T hT X with ⟨v, st₀, t, T', L, h0, X', hL, e1, e2, ⟨⟨r, u, hv, hp, hb⟩, hF⟩, st⟩ | ⟨q, st₀, t, T', L, E, ce, h0, X', hL, e1, e2, ⟨u, hp, hb, hF⟩, hce, hcv, hcl, st⟩
  · cases hv
    obtain ⟨k1, k2, k3⟩ := vx_keep h0 e1 hS hA hf hL hF
    obtain ⟨t2, a1, b1⟩ := kk r u t T'.heap (locs ++ L) e1.symm (by rw [← e2]; exact X'.warmed.alike) hp hb k1 k2 k3 T' rfl X'
    exact ⟨t2, st t2 a1, b1⟩
  · obtain ⟨k1, k2, k3⟩ := vx_keep h0 e1 hS hAX hf hL hF
    obtain ⟨t2, a1, b1⟩ := kx E ce q u t T'.heap (locs ++ L) e1.symm (by rw [← e2]; exact X'.warmed.alike) hp hb k1 k2 k3 (by rw [e1]; exact hce) hcv hcl T' rfl X'
    exact ⟨t2, st.trans a1, b1⟩
theorem vx_callFd {S SX : Type} {post : UInt64 → S → Prop} {px : SX → Prop} {B : S → State → Prop} {BX : String → SX → State → Prop} {AX : Nat → Prop} (hr : vx_Run5 p l e R s m args below meth c H locs cells slots mc ms (F0 m pc ls st0) rest (va_Qd post B A1 a) (vx_X px BX AX) free) (hS : va_S A0 H0 H locs) (hA : ∀ q, q < H.size → A1 q → A0 q) (hf : ∀ q, free q → A0 q) (hAX : ∀ q, q < H.size → AX q → A0 q)
    (kx : ∀ (E : String) (ce : Cell) (q9 : Addr) (u : SX) (t : State) (H1 : Heap) (locs1 : List Loc), t.heap = H1 → s.vm.Alike t.vm → px u → BX E u t → H.size ≤ H1.size → (∀ q : Nat, q < H.size → ¬ AX q → H1[q]? = H[q]?) → va_S A0 H0 H1 locs1 → H1[q9]? = some ce → ce.vm = .none → s.vm.findClass E = some ce.cls → vx_W p l e R s m args below meth c H1 locs1 (cells + mc) (slots + ms) Q (F0 m pc ls rest) q9)
    (kk : ∀ (r : UInt64) (u : S) (t : State) (H1 : Heap) (locs1 : List Loc), t.heap = H1 → s.vm.Alike t.vm → post r u → B u t → H.size ≤ H1.size → (∀ q : Nat, q < H.size → ¬ A1 q → H1[q]? = H[q]?) → va_S A0 H0 H1 locs1 → W p l e R s m args below meth c H1 locs1 (cells + mc) (slots + ms) Q (F0 m (pc + 5) ls (.double r :: rest))) : W p l e R s m args below meth c H locs cells slots Q (F0 m pc ls st0) := by
  intro T hT X
  rcases hr T hT X with ⟨v, st₀, t, T', L, h0, X', hL, e1, e2, ⟨⟨r, u, hv, hp, hb⟩, hF⟩, st⟩ | ⟨q, st₀, t, T', L, E, ce, h0, X', hL, e1, e2, ⟨u, hp, hb, hF⟩, hce, hcv, hcl, st⟩
  · cases hv
    obtain ⟨k1, k2, k3⟩ := vx_keep h0 e1 hS hA hf hL hF
    obtain ⟨t2, a1, b1⟩ := kk r u t T'.heap (locs ++ L) e1.symm (by rw [← e2]; exact X'.warmed.alike) hp hb k1 k2 k3 T' rfl X'
    exact ⟨t2, st t2 a1, b1⟩
  · obtain ⟨k1, k2, k3⟩ := vx_keep h0 e1 hS hAX hf hL hF
    obtain ⟨t2, a1, b1⟩ := kx E ce q u t T'.heap (locs ++ L) e1.symm (by rw [← e2]; exact X'.warmed.alike) hp hb k1 k2 k3 (by rw [e1]; exact hce) hcv hcl T' rfl X'
    exact ⟨t2, st.trans a1, b1⟩
end
/-! ===== END ===== -/
/-! ===== BEGIN by an interface, a method with a table of its own that may throw (follows va_callIFW, va_runFW) ===== -/
section
variable {p : Program} {l : Launch} {e : Env} {R : Room} {s : State} {m : MethodId} {args : Array Value} {below : List Frame} {meth : Method} {c : Code} {H : Heap} {locs : List Loc} {cells slots : Nat}
theorem vx_callIFW {T : State} (X : Stand p l e R s m args below meth c T locs cells slots) (hexec : p.tables.exec = Jvm.exec) {own C : String} {index count : Nat} {x y : MethodName} {bytes : ByteArray} {maxL : Nat} {ret : Option FieldType} {hh : List (Nat × Nat × Nat × Nat)}
    (hown : s.vm.findClass own = some m.cls) (hlink : (Cond.methodLink own index x).before args s = true) (hdecl : (Cond.declares x).before args s = true) (hface : (Cond.interfaceMethod x.cls x.cls x.name x.desc).before args s = true)
    (hsel : (Cond.selects C x y).before args s = true) (hinst : (Cond.instanceMethod y).before args s = true) (hpub : (Cond.publicMethod y).before args s = true) (hunh : (Cond.unhidden C x.name x.desc).before args s = true)
    (hcast : (Cond.castable C x.cls).before args s = true) (hcode : (Cond.codeWith y bytes maxL ret hh).before args s = true) (hx : x.cls ≠ "java/lang/invoke/MethodHandle" ∧ x.cls ≠ "java/lang/invoke/VarHandle")
    {W : Nat} {Pre : Pt → Array Value → Prop} {Post : Pt → Array Value → Option Value → Pt → Prop} {PostX : Pt → Array Value → Addr → Pt → Prop} (hK : vx_Back l R p e below s args y 5 W Pre Post PostX)
    {b : Addr} {cellB : Cell} {kB : Class} (hcell : T.heap[b]? = some cellB) (hobj : cellB.vm.isStatics = false) (hcls : s.vm.findClass C = some cellB.cls) (hkB : s.vm.classes[cellB.cls]? = some kB)
    {g : JFrame} (hg : g.method = m) (hsize : g.locals.size = c.maxLocals) {argsL rest : List Value} (hlen : ∀ sig, parseMethodDescriptor x.desc = some sig → argsL.length = sig.parameters.length)
    (hstack : g.stack = argsL.reverse ++ .ref b :: rest) (hW : 2 * g.monitorRoom + (rest.map fun v => v.category).sum ≤ W) (hdg : decode c.code g.pc = .ok (.invokeinterface index count, 5))
    (hpre : ∀ vm₁, s.WarmedH vm₁ → Pre ⟨T.setVm vm₁, locs, cells, slots⟩ (Value.ref b :: argsL).toArray) :
    (∃ (v : Option Value) (vm₁ : Vm) (B : Pt), s.WarmedH vm₁ ∧ Stand p l e R s m args below meth c B.U B.locs B.cells B.slots ∧ Post ⟨T.setVm vm₁, locs, cells, slots⟩ (Value.ref b :: argsL).toArray v B ∧
      ∀ target, Steps p.tables e below (B.U.setTop { g with pc := g.pc + 5, stack := v.toList ++ rest }) target → Steps p.tables e below (T.setTop g) target) ∨
    (∃ (q : Addr) (vm₁ : Vm) (B : Pt), s.WarmedH vm₁ ∧ Stand p l e R s m args below meth c B.U B.locs B.cells B.slots ∧ PostX ⟨T.setVm vm₁, locs, cells, slots⟩ (Value.ref b :: argsL).toArray q B ∧
      Steps p.tables e below (T.setTop g) ((B.U.setTop { g with stack := rest }).pushFrame (.throwing q))) := by
  obtain ⟨r0, r, hn, hrm, hstR, hsigR⟩ := Cond.declares_spec hdecl
  obtain ⟨cL, kL, r1, hcL, hkL, hiL, hfoundL, hn1⟩ := Cond.interfaceMethod_spec hface
  cases hn.symm.trans hn1
  have hr0cls : r0.cls = cL := Option.some.inj ((findClass_of_methodNamed hn).symm.trans hcL)
  obtain ⟨hnameR, hdescR⟩ := name_of_methodNamed hn hrm
  obtain ⟨mk, methM, hnamed, hmethM, -, habM⟩ := Cond.instanceMethod_spec hinst
  obtain ⟨c2, r2, m2, q1, q2, q3, q4, -⟩ := Cond.selects_spec hsel
  cases hcls.symm.trans q1
  cases hfoundL.symm.trans q2
  cases hnamed.symm.trans q3
  have hselP : selectMethod e.platform s.vm cellB.cls r0 = .method mk := by rw [Launch.admits_selectMethod X.admits]; exact q4
  have hpubM : hasFlag methM.accessFlags Acc.public_ = true := Cond.publicMethod_spec hnamed hmethM hpub
  have hway : ((cellB.cls :: s.vm.superclasses cellB.cls).any fun k => (declaredIn s.vm r.name r.desc k).any fun (_, z) => z.isPrivate || z.isStatic) = false := by
    rw [hnameR, hdescR]; exact Cond.unhidden_spec hcls hunh
  obtain ⟨c3, t3, w1, w2, w3⟩ := Cond.castable_spec hcast
  cases hcls.symm.trans w1
  cases hcL.symm.trans w2
  obtain ⟨vm₁, X₁, hstep₁⟩ := X.invokeinterface hexec hown hlink hn hrm hstR (by rw [hr0cls]; exact hkL) hiL hx (a := b) (cell := cellB) (kcell := kB) hcell
    (fun z h => by rw [h] at hobj; cases hobj) hkB (by rw [hr0cls]; exact w3) hselP hmethM hway hpubM habM (g := g) hg (argsL := argsL) (rest := rest) (hlen _ hsigR) hstack hdg
  rcases hK m meth c ⟨T.setVm vm₁, locs, cells, slots⟩ { g with stack := rest } (.invokeinterface index count) mk (Value.ref b :: argsL).toArray X₁ hg hsize hdg hW (X₁.named hnamed) (hpre vm₁ X₁.warmed) with ⟨v, B, X', hpost, hsteps⟩ | ⟨q, B, X', hpost, hsteps⟩
  · exact Or.inl ⟨v, vm₁, B, X₁.warmed, X', hpost, fun target h => hstep₁ _ fun acts => by rw [doInvoke_state]; exact hsteps.trans h⟩
  · exact Or.inr ⟨q, vm₁, B, X₁.warmed, X', hpost, hstep₁ _ fun acts => by rw [doInvoke_state]; exact hsteps⟩
theorem vx_runFW {x y : MethodName} {bytes cc : ByteArray} {maxL nL mc ms n index count : Nat} {ret : Option FieldType} {hh : List (Nat × Nat × Nat × Nat)} {ws : List Cond} {rm : Room} {Pc : Array Value → State → Prop} {Qc : Array Value → State → Outcome → State → Prop} {XC : String → State → State → Prop} {free : Addr → Prop} {Ts : List Cond} {own C : String} {cC : ClassId} {b : Addr} {As rest : List Value} {g : JFrame}
    (hat : ClassAt s C cC) (S : CallFix p m c cc nL s args Ts own) (hM : vx_Met l y ws rm Pc Qc XC mc ms free) (cw : va_CIW R s args own C index x y bytes maxL ret hh ws rm mc ms n) (hp : PreV s H C b Pc As)
    (hg : g.method = m) (hn : As.length = n) (hsize : g.locals.size = nL) (hstack : g.stack = As.reverse ++ .ref b :: rest) (hW : 2 * g.monitorRoom + (rest.map fun v => v.category).sum ≤ 8) (hdg : decode cc g.pc = .ok (.invokeinterface index count, 5)) (hf : cells + mc ≤ R.cells ∧ slots + ms ≤ R.slots) :
    vx_Run5 p l e R s m args below meth c H locs cells slots mc ms g rest (Qc (Value.ref b :: As).toArray) XC free := by
  obtain ⟨hrc, hrs, hfr, hlo, hws, hcw⟩ := cw.back
  have hini := cw.init
  have hK : vx_Back l R p e below s args y 5 8 (PreOf R mc ms Pc) (PostOf Qc mc ms free) (vx_Post XC mc ms free) := vx_backW (hh := hh) (bytes := bytes) (maxL := maxL) (ret := ret) hM hp.1 hrc hrs hfr hlo hws hcw (fun a' U hW => word_at hW (Or.inl (by first | rfl | simp [Cond.onTables, Cond.keeps, Cond.steady])) hini)
  obtain ⟨hx, hb, hml, ho, -⟩ := S
  obtain ⟨-, ⟨cellB, hcB, hoB, hclB⟩, hPc⟩ := hp
  obtain ⟨hfc, kB, hkB, -⟩ := hat
  cases hfc.symm.trans hclB
  intro T hT X
  rcases vx_callIFW X hx (C := C) (hh := hh) (bytes := bytes) (maxL := maxL) (ret := ret) ho cw.link cw.decl cw.face cw.sel cw.inst cw.pub cw.unh cw.cast cw.code cw.notMH hK (by rw [hT]; exact hcB) hoB hclB hkB hg (hsize.trans hml.symm) (argsL := As) (rest := rest) (fun sig h => hn.trans (cw.len sig h)) hstack hW (by rw [hb]; exact hdg)
    (fun vm₁ hW₁ => ⟨hf.1, hf.2, hPc (T.setVm vm₁) hT hW₁⟩) with ⟨v, vm₁, ⟨U', l2, c2, s2⟩, hW₁, X', ⟨g', mk, t, L, e1, e2, hq, h1, hL, h2, h3⟩, st⟩ | ⟨q, vm₁, ⟨U', l2, c2, s2⟩, hW₁, X', ⟨g', mk, t, L, E, ce, e1, e2, hq, hce, hcv, hcl, h1, hL, h2, h3⟩, st⟩
  · dsimp only [Pt.U, Pt.locs, Pt.cells, Pt.slots] at X' e1 e2 h1 h2 h3 st
    subst h1; subst h2; subst h3
    exact Or.inl ⟨v, (T.setVm vm₁).calling g' mk (Value.ref b :: As).toArray, t, U', L, hT, X', hL, e1, e2, hq, st⟩
  · dsimp only [Pt.U, Pt.locs, Pt.cells, Pt.slots] at X' e1 e2 h1 h2 h3 st hcl
    subst h1; subst h2; subst h3
    exact Or.inr ⟨q, (T.setVm vm₁).calling g' mk (Value.ref b :: As).toArray, t, U', L, E, ce, hT, X', hL, e1, e2, hq, hce, hcv, vx_cls hW₁ hcl, st⟩
end
/-! ===== END ===== -/
/-! ===== BEGIN .. of methods that hand back an object of the pool ===== -/
section
variable {p : Program} {l : Launch} {e : Env} {R : Room} {s : State} {m : MethodId} {args : Array Value} {below : List Frame} {meth : Method} {c : Code} {H : Heap} {locs : List Loc} {cells slots : Nat} {Q : State → Prop}
variable {mc ms : Nat} {free : Addr → Prop} {A0 A1 : Nat → Prop} {H0 : Heap} {a : Array Value} {pc : Nat} {ls : Array Slot} {st0 rest : List Value}
theorem vx_callq {S SX : Type} {post : Option Nat → S → Prop} {px : SX → Prop} {B : S → State → Prop} {BX : String → SX → State → Prop} {AX : Nat → Prop} (hr : vx_Run p l e R s m args below meth c H locs cells slots mc ms (F0 m pc ls st0) rest (va_Qq post B A1 a) (vx_X px BX AX) free) (hS : va_S A0 H0 H locs) (hA : ∀ q, q < H.size → A1 q → A0 q) (hf : ∀ q, free q → A0 q) (hAX : ∀ q, q < H.size → AX q → A0 q)
    (kx : ∀ (E : String) (ce : Cell) (q9 : Addr) (u : SX) (t : State) (H1 : Heap) (locs1 : List Loc), t.heap = H1 → s.vm.Alike t.vm → px u → BX E u t → H.size ≤ H1.size → (∀ q : Nat, q < H.size → ¬ AX q → H1[q]? = H[q]?) → va_S A0 H0 H1 locs1 → H1[q9]? = some ce → ce.vm = .none → s.vm.findClass E = some ce.cls → vx_W p l e R s m args below meth c H1 locs1 (cells + mc) (slots + ms) Q (F0 m pc ls rest) q9)
    (kk : ∀ (r : Option Nat) (u : S) (t : State) (H1 : Heap) (locs1 : List Loc), t.heap = H1 → s.vm.Alike t.vm → post r u → B u t → H.size ≤ H1.size → (∀ q : Nat, q < H.size → ¬ A1 q → H1[q]? = H[q]?) → va_S A0 H0 H1 locs1 → W p l e R s m args below meth c H1 locs1 (cells + mc) (slots + ms) Q (F0 m (pc + 3) ls (va_rf r :: rest))) : W p l e R s m args below meth c H locs cells slots Q (F0 m pc ls st0) := by
  intro T hT X
  rcases hr T hT X with ⟨v, st₀, t, T', L, h0, X', hL, e1, e2, ⟨⟨r, u, hv, hp, hb⟩, hF⟩, st⟩ | ⟨q, st₀, t, T', L, E, ce, h0, X', hL, e1, e2, ⟨u, hp, hb, hF⟩, hce, hcv, hcl, st⟩
  · cases hv
    obtain ⟨k1, k2, k3⟩ := vx_keep h0 e1 hS hA hf hL hF
    obtain ⟨t2, a1, b1⟩ := kk r u t T'.heap (locs ++ L) e1.symm (by rw [← e2]; exact X'.warmed.alike) hp hb k1 k2 k3 T' rfl X'
    exact ⟨t2, st t2 a1, b1⟩
  · obtain ⟨k1, k2, k3⟩ := vx_keep h0 e1 hS hAX hf hL hF
    obtain ⟨t2, a1, b1⟩ := kx E ce q u t T'.heap (locs ++ L) e1.symm (by rw [← e2]; exact X'.warmed.alike) hp hb k1 k2 k3 (by rw [e1]; exact hce) hcv hcl T' rfl X'
    exact ⟨t2, st.trans a1, b1⟩
end
/-! ===== END ===== -/
/-! ===== BEGIN .. a constant ===== -/
section
variable {p : Program} {l : Launch} {e : Env} {R : Room} {s : State} {m : MethodId} {args : Array Value} {below : List Frame} {meth : Method} {c : Code} {H : Heap} {locs : List Loc} {cells slots : Nat} {Q : State → Prop}
variable {mc ms : Nat} {free : Addr → Prop} {A0 A1 : Nat → Prop} {H0 : Heap} {a : Array Value} {pc : Nat} {ls : Array Slot} {st0 rest : List Value}
theorem vx_calle {ad : Nat → Nat} {S SX : Type} {post : Option Nat → S → Prop} {px : SX → Prop} {B : S → State → Prop} {BX : String → SX → State → Prop} {AX : Nat → Prop} (hr : vx_Run p l e R s m args below meth c H locs cells slots mc ms (F0 m pc ls st0) rest (va_Qe ad post B A1 a) (vx_X px BX AX) free) (hS : va_S A0 H0 H locs) (hA : ∀ q, q < H.size → A1 q → A0 q) (hf : ∀ q, free q → A0 q) (hAX : ∀ q, q < H.size → AX q → A0 q)
    (kx : ∀ (E : String) (ce : Cell) (q9 : Addr) (u : SX) (t : State) (H1 : Heap) (locs1 : List Loc), t.heap = H1 → s.vm.Alike t.vm → px u → BX E u t → H.size ≤ H1.size → (∀ q : Nat, q < H.size → ¬ AX q → H1[q]? = H[q]?) → va_S A0 H0 H1 locs1 → H1[q9]? = some ce → ce.vm = .none → s.vm.findClass E = some ce.cls → vx_W p l e R s m args below meth c H1 locs1 (cells + mc) (slots + ms) Q (F0 m pc ls rest) q9)
    (kk : ∀ (r : Option Nat) (u : S) (t : State) (H1 : Heap) (locs1 : List Loc), t.heap = H1 → s.vm.Alike t.vm → post r u → B u t → H.size ≤ H1.size → (∀ q : Nat, q < H.size → ¬ A1 q → H1[q]? = H[q]?) → va_S A0 H0 H1 locs1 → W p l e R s m args below meth c H1 locs1 (cells + mc) (slots + ms) Q (F0 m (pc + 3) ls (va_re ad r :: rest))) : W p l e R s m args below meth c H locs cells slots Q (F0 m pc ls st0) := by
  intro T hT X
  rcases hr T hT X with ⟨v, st₀, t, T', L, h0, X', hL, e1, e2, ⟨⟨r, u, hv, hp, hb⟩, hF⟩, st⟩ | ⟨q, st₀, t, T', L, E, ce, h0, X', hL, e1, e2, ⟨u, hp, hb, hF⟩, hce, hcv, hcl, st⟩
  · cases hv
    obtain ⟨k1, k2, k3⟩ := vx_keep h0 e1 hS hA hf hL hF
    obtain ⟨t2, a1, b1⟩ := kk r u t T'.heap (locs ++ L) e1.symm (by rw [← e2]; exact X'.warmed.alike) hp hb k1 k2 k3 T' rfl X'
    exact ⟨t2, st t2 a1, b1⟩
  · obtain ⟨k1, k2, k3⟩ := vx_keep h0 e1 hS hAX hf hL hF
    obtain ⟨t2, a1, b1⟩ := kx E ce q u t T'.heap (locs ++ L) e1.symm (by rw [← e2]; exact X'.warmed.alike) hp hb k1 k2 k3 (by rw [e1]; exact hce) hcv hcl T' rfl X'
    exact ⟨t2, st.trans a1, b1⟩
end
/-! ===== END ===== -/
/-! ===== BEGIN .. by an interface, an object ===== -/
section
variable {p : Program} {l : Launch} {e : Env} {R : Room} {s : State} {m : MethodId} {args : Array Value} {below : List Frame} {meth : Method} {c : Code} {H : Heap} {locs : List Loc} {cells slots : Nat} {Q : State → Prop}
variable {mc ms : Nat} {free : Addr → Prop} {A0 A1 : Nat → Prop} {H0 : Heap} {a : Array Value} {pc : Nat} {ls : Array Slot} {st0 rest : List Value}
theorem vx_callFq {S SX : Type} {post : Option Nat → S → Prop} {px : SX → Prop} {B : S → State → Prop} {BX : String → SX → State → Prop} {AX : Nat → Prop} (hr : vx_Run5 p l e R s m args below meth c H locs cells slots mc ms (F0 m pc ls st0) rest (va_Qq post B A1 a) (vx_X px BX AX) free) (hS : va_S A0 H0 H locs) (hA : ∀ q, q < H.size → A1 q → A0 q) (hf : ∀ q, free q → A0 q) (hAX : ∀ q, q < H.size → AX q → A0 q)
    (kx : ∀ (E : String) (ce : Cell) (q9 : Addr) (u : SX) (t : State) (H1 : Heap) (locs1 : List Loc), t.heap = H1 → s.vm.Alike t.vm → px u → BX E u t → H.size ≤ H1.size → (∀ q : Nat, q < H.size → ¬ AX q → H1[q]? = H[q]?) → va_S A0 H0 H1 locs1 → H1[q9]? = some ce → ce.vm = .none → s.vm.findClass E = some ce.cls → vx_W p l e R s m args below meth c H1 locs1 (cells + mc) (slots + ms) Q (F0 m pc ls rest) q9)
    (kk : ∀ (r : Option Nat) (u : S) (t : State) (H1 : Heap) (locs1 : List Loc), t.heap = H1 → s.vm.Alike t.vm → post r u → B u t → H.size ≤ H1.size → (∀ q : Nat, q < H.size → ¬ A1 q → H1[q]? = H[q]?) → va_S A0 H0 H1 locs1 → W p l e R s m args below meth c H1 locs1 (cells + mc) (slots + ms) Q (F0 m (pc + 5) ls (va_rf r :: rest))) : W p l e R s m args below meth c H locs cells slots Q (F0 m pc ls st0) := by
  intro T hT X
  rcases hr T hT X with ⟨v, st₀, t, T', L, h0, X', hL, e1, e2, ⟨⟨r, u, hv, hp, hb⟩, hF⟩, st⟩ | ⟨q, st₀, t, T', L, E, ce, h0, X', hL, e1, e2, ⟨u, hp, hb, hF⟩, hce, hcv, hcl, st⟩
  · cases hv
    obtain ⟨k1, k2, k3⟩ := vx_keep h0 e1 hS hA hf hL hF
    obtain ⟨t2, a1, b1⟩ := kk r u t T'.heap (locs ++ L) e1.symm (by rw [← e2]; exact X'.warmed.alike) hp hb k1 k2 k3 T' rfl X'
    exact ⟨t2, st t2 a1, b1⟩
  · obtain ⟨k1, k2, k3⟩ := vx_keep h0 e1 hS hAX hf hL hF
    obtain ⟨t2, a1, b1⟩ := kx E ce q u t T'.heap (locs ++ L) e1.symm (by rw [← e2]; exact X'.warmed.alike) hp hb k1 k2 k3 (by rw [e1]; exact hce) hcv hcl T' rfl X'
    exact ⟨t2, st.trans a1, b1⟩
end
/-! ===== END ===== -/
/-! ===== BEGIN .. by an interface, a constant ===== -/
section
variable {p : Program} {l : Launch} {e : Env} {R : Room} {s : State} {m : MethodId} {args : Array Value} {below : List Frame} {meth : Method} {c : Code} {H : Heap} {locs : List Loc} {cells slots : Nat} {Q : State → Prop}
variable {mc ms : Nat} {free : Addr → Prop} {A0 A1 : Nat → Prop} {H0 : Heap} {a : Array Value} {pc : Nat} {ls : Array Slot} {st0 rest : List Value}
theorem vx_callFe {ad : Nat → Nat} {S SX : Type} {post : Option Nat → S → Prop} {px : SX → Prop} {B : S → State → Prop} {BX : String → SX → State → Prop} {AX : Nat → Prop} (hr : vx_Run5 p l e R s m args below meth c H locs cells slots mc ms (F0 m pc ls st0) rest (va_Qe ad post B A1 a) (vx_X px BX AX) free) (hS : va_S A0 H0 H locs) (hA : ∀ q, q < H.size → A1 q → A0 q) (hf : ∀ q, free q → A0 q) (hAX : ∀ q, q < H.size → AX q → A0 q)
    (kx : ∀ (E : String) (ce : Cell) (q9 : Addr) (u : SX) (t : State) (H1 : Heap) (locs1 : List Loc), t.heap = H1 → s.vm.Alike t.vm → px u → BX E u t → H.size ≤ H1.size → (∀ q : Nat, q < H.size → ¬ AX q → H1[q]? = H[q]?) → va_S A0 H0 H1 locs1 → H1[q9]? = some ce → ce.vm = .none → s.vm.findClass E = some ce.cls → vx_W p l e R s m args below meth c H1 locs1 (cells + mc) (slots + ms) Q (F0 m pc ls rest) q9)
    (kk : ∀ (r : Option Nat) (u : S) (t : State) (H1 : Heap) (locs1 : List Loc), t.heap = H1 → s.vm.Alike t.vm → post r u → B u t → H.size ≤ H1.size → (∀ q : Nat, q < H.size → ¬ A1 q → H1[q]? = H[q]?) → va_S A0 H0 H1 locs1 → W p l e R s m args below meth c H1 locs1 (cells + mc) (slots + ms) Q (F0 m (pc + 5) ls (va_re ad r :: rest))) : W p l e R s m args below meth c H locs cells slots Q (F0 m pc ls st0) := by
  intro T hT X
  rcases hr T hT X with ⟨v, st₀, t, T', L, h0, X', hL, e1, e2, ⟨⟨r, u, hv, hp, hb⟩, hF⟩, st⟩ | ⟨q, st₀, t, T', L, E, ce, h0, X', hL, e1, e2, ⟨u, hp, hb, hF⟩, hce, hcv, hcl, st⟩
  · cases hv
    obtain ⟨k1, k2, k3⟩ := vx_keep h0 e1 hS hA hf hL hF
    obtain ⟨t2, a1, b1⟩ := kk r u t T'.heap (locs ++ L) e1.symm (by rw [← e2]; exact X'.warmed.alike) hp hb k1 k2 k3 T' rfl X'
    exact ⟨t2, st t2 a1, b1⟩
  · obtain ⟨k1, k2, k3⟩ := vx_keep h0 e1 hS hAX hf hL hF
    obtain ⟨t2, a1, b1⟩ := kx E ce q u t T'.heap (locs ++ L) e1.symm (by rw [← e2]; exact X'.warmed.alike) hp hb k1 k2 k3 (by rw [e1]; exact hce) hcv hcl T' rfl X'
    exact ⟨t2, st.trans a1, b1⟩
end
/-! ===== END ===== -/
/-! ===== BEGIN what the machine throws by itself: null at a field, at athrow ===== -/
section VXM2
variable {p : Program} {l : Launch} {e : Env} {R : Room} {s : State} {m : MethodId} {args : Array Value} {below : List Frame} {meth : Method} {c : Code} {H : Heap} {locs : List Loc} {cells slots : Nat}
variable {Q : State → Prop} {cc : ByteArray} {pc : Nat} {ls : Array Slot} {rest : List Value}
theorem vx_getfN {D cl tys} {own ref C : String} {T : u_T} {N ci index : Nat} {Ts : List Cond} (hexec : p.tables.exec = Jvm.exec) (hb : c.code = cc) (hts : ∀ w ∈ Ts, w.before args s = true) (hin : ∀ w ∈ u_ws C T N, w ∈ Ts) (hown : s.vm.findClass own = some m.cls) (hK : va_K D cl tys s) (hc : cl[ci]? = some (C, T, N)) (k : Nat) (hk : k < N) (hlink : (Cond.fieldLink own index ref (T k).2.1 (T k).2.2.1).before args s = true) (hsame : ∀ x, s.fieldFound? (T k).1 (T k).2.1 (T k).2.2.1 = some x → s.fieldFound? ref (T k).2.1 (T k).2.2.1 = some x) (hdg : decode cc pc = .ok (.getfield index, 3)) (kk : vx_NoteN p l e R s m args below meth c H locs cells slots Q (F0 m pc ls rest)) : W p l e R s m args below meth c H locs cells slots Q (F0 m pc ls (.null :: rest)) := by
  obtain ⟨hS, hfc, kC, hkC, -⟩ := hK.1 ci _ hc
  obtain ⟨cf, kf, fi, f, hi, -⟩ := hS k hk
  intro U hU X
  obtain ⟨vm', X1, st1⟩ := X.getfieldNull hexec hown hlink (hsame _ hi) (u_facts hfc hkC (u_lays hts hin hk) hi).1 (g := F0 m pc ls (.null :: rest)) rfl (rest := rest) rfl (by rw [hb]; exact hdg)
  obtain ⟨t, st, q⟩ := kk (U.setVm vm') hU X1
  exact ⟨t, st1 t st, q⟩
theorem vx_getfNN {D cl tys} {own ref C host : String} {T : u_T} {N ci index : Nat} {Ts : List Cond} (hexec : p.tables.exec = Jvm.exec) (hb : c.code = cc) (hts : ∀ w ∈ Ts, w.before args s = true) (hin : ∀ w ∈ u_ws C T N, w ∈ Ts) (hown : s.vm.findClass own = some m.cls) (hK : va_K D cl tys s) (hc : cl[ci]? = some (C, T, N)) (k : Nat) (hk : k < N) (hlink : (Cond.fieldLinkNest own index ref (T k).2.1 (T k).2.2.1 host).before args s = true) (hsame : ∀ x, s.fieldFound? (T k).1 (T k).2.1 (T k).2.2.1 = some x → s.fieldFound? ref (T k).2.1 (T k).2.2.1 = some x) (hdg : decode cc pc = .ok (.getfield index, 3)) (kk : vx_NoteN p l e R s m args below meth c H locs cells slots Q (F0 m pc ls rest)) : W p l e R s m args below meth c H locs cells slots Q (F0 m pc ls (.null :: rest)) := by
  obtain ⟨hS, hfc, kC, hkC, -⟩ := hK.1 ci _ hc
  obtain ⟨cf, kf, fi, f, hi, -⟩ := hS k hk
  intro U hU X
  obtain ⟨vm', X1, st1⟩ := X.getfieldNullNest hexec hown hlink (hsame _ hi) (u_facts hfc hkC (u_lays hts hin hk) hi).1 (g := F0 m pc ls (.null :: rest)) rfl (rest := rest) rfl (by rw [hb]; exact hdg)
  obtain ⟨t, st, q⟩ := kk (U.setVm vm') hU X1
  exact ⟨t, st1 t st, q⟩
theorem vx_putfN {D cl tys} {own ref C : String} {T : u_T} {N ci index : Nat} {Ts : List Cond} (hexec : p.tables.exec = Jvm.exec) (hb : c.code = cc) (hts : ∀ w ∈ Ts, w.before args s = true) (hin : ∀ w ∈ u_ws C T N, w ∈ Ts) (hown : s.vm.findClass own = some m.cls) (hK : va_K D cl tys s) (hc : cl[ci]? = some (C, T, N)) (k : Nat) (hk : k < N) (hlink : (Cond.fieldLink own index ref (T k).2.1 (T k).2.2.1).before args s = true) (hsame : ∀ x, s.fieldFound? (T k).1 (T k).2.1 (T k).2.2.1 = some x → s.fieldFound? ref (T k).2.1 (T k).2.2.1 = some x) (hfin : (T k).2.2.2 = false) {v : Value} (hdg : decode cc pc = .ok (.putfield index, 3)) (kk : vx_NoteN p l e R s m args below meth c H locs cells slots Q (F0 m pc ls rest)) : W p l e R s m args below meth c H locs cells slots Q (F0 m pc ls (v :: .null :: rest)) := by
  obtain ⟨hS, hfc, kC, hkC, -⟩ := hK.1 ci _ hc
  obtain ⟨cf, kf, fi, f, hi, -⟩ := hS k hk
  have hlay := hts _ (hin _ (u_in_lay hk))
  unfold u_lay at hlay
  rw [if_neg (by rw [hfin]; decide)] at hlay
  obtain ⟨c9, k9, cf9, kf9, fi9, f9, -, -, hi9, hst9, hnf9, -⟩ := Cond.lays_spec hlay
  cases hi.symm.trans hi9
  intro U hU X
  obtain ⟨vm', X1, st1⟩ := X.putfieldNull hexec hown hlink (hsame _ hi) hst9 hnf9 (g := F0 m pc ls (v :: .null :: rest)) rfl (v := v) (rest := rest) rfl (by rw [hb]; exact hdg)
  obtain ⟨t, st, q⟩ := kk (U.setVm vm') hU X1
  exact ⟨t, st1 t st, q⟩
theorem vx_putfNN {D cl tys} {own ref C host : String} {T : u_T} {N ci index : Nat} {Ts : List Cond} (hexec : p.tables.exec = Jvm.exec) (hb : c.code = cc) (hts : ∀ w ∈ Ts, w.before args s = true) (hin : ∀ w ∈ u_ws C T N, w ∈ Ts) (hown : s.vm.findClass own = some m.cls) (hK : va_K D cl tys s) (hc : cl[ci]? = some (C, T, N)) (k : Nat) (hk : k < N) (hlink : (Cond.fieldLinkNest own index ref (T k).2.1 (T k).2.2.1 host).before args s = true) (hsame : ∀ x, s.fieldFound? (T k).1 (T k).2.1 (T k).2.2.1 = some x → s.fieldFound? ref (T k).2.1 (T k).2.2.1 = some x) (hfin : (T k).2.2.2 = false) {v : Value} (hdg : decode cc pc = .ok (.putfield index, 3)) (kk : vx_NoteN p l e R s m args below meth c H locs cells slots Q (F0 m pc ls rest)) : W p l e R s m args below meth c H locs cells slots Q (F0 m pc ls (v :: .null :: rest)) := by
  obtain ⟨hS, hfc, kC, hkC, -⟩ := hK.1 ci _ hc
  obtain ⟨cf, kf, fi, f, hi, -⟩ := hS k hk
  have hlay := hts _ (hin _ (u_in_lay hk))
  unfold u_lay at hlay
  rw [if_neg (by rw [hfin]; decide)] at hlay
  obtain ⟨c9, k9, cf9, kf9, fi9, f9, -, -, hi9, hst9, hnf9, -⟩ := Cond.lays_spec hlay
  cases hi.symm.trans hi9
  intro U hU X
  obtain ⟨vm', X1, st1⟩ := X.putfieldNullNest hexec hown hlink (hsame _ hi) hst9 hnf9 (g := F0 m pc ls (v :: .null :: rest)) rfl (v := v) (rest := rest) rfl (by rw [hb]; exact hdg)
  obtain ⟨t, st, q⟩ := kk (U.setVm vm') hU X1
  exact ⟨t, st1 t st, q⟩
theorem vx_athrowN (hexec : p.tables.exec = Jvm.exec) (hb : c.code = cc) (hdg : decode cc pc = .ok (.athrow, 1)) (k : vx_NoteN p l e R s m args below meth c H locs cells slots Q (F0 m pc ls rest)) : W p l e R s m args below meth c H locs cells slots Q (F0 m pc ls (.null :: rest)) := by
  intro T hT X
  obtain ⟨t, st, q⟩ := k T hT X
  exact ⟨t, X.athrowNull hexec (g := F0 m pc ls (.null :: rest)) rfl (rest := rest) rfl (by rw [hb]; exact hdg) t st, q⟩
end VXM2
/-! ===== END ===== -/
end
section
def RX1 : String := "MarkShelter$Book"
def TX1 : u_T := fun k => match k with
  | 0 => ("MarkShelter$Book", "houseCount", "I", false)
  | 1 => ("MarkShelter$Book", "coinCount", "I", false)
  | 2 => ("MarkShelter$Book", "strayCount", "I", false)
  | 3 => ("MarkShelter$Book", "kinds", "[I", true)
  | 4 => ("MarkShelter$Book", "comingDays", "[I", true)
  | 5 => ("MarkShelter$Book", "orderCount", "I", false)
  | 6 => ("MarkShelter$Book", "orders", "[LMarkShelter$Order;", true)
  | 7 => ("MarkShelter$Book", "codeLength", "I", false)
  | 8 => ("MarkShelter$Book", "names", "[J", true)
  | 9 => ("MarkShelter$Book", "code", "[LMarkShelter$Sign;", true)
  | 10 => ("MarkShelter$Book", "arguments", "[I", true)
  | _ => ("MarkShelter$Book", "stack", "[I", true)
def tyX1 : Nat → FieldType := fun k => match k with
  | 0 => .int
  | 1 => .int
  | 2 => .int
  | 3 => .array .int
  | 4 => .array .int
  | 5 => .int
  | 6 => .array (.object "MarkShelter$Order")
  | 7 => .int
  | 8 => .array .long
  | 9 => .array (.object "MarkShelter$Sign")
  | 10 => .array .int
  | _ => .array .int
theorem nmX1 : ∀ a, a < 12 → ∀ b, b < 12 → a ≠ b → (TX1 a).2.1 ≠ (TX1 b).2.1 := by decide +kernel
theorem tyX1_ok : ∀ k, k < 12 → parseFieldDescriptor (TX1 k).2.2.1 = some (tyX1 k) := by decide +kernel
def RX2 : String := "MarkShelter$BookReader"
def TX2 : u_T := fun k => match k with
  | 0 => ("MarkShelter$BookReader", "errorPosition", "I", false)
  | 1 => ("MarkShelter$BookReader", "tokens", "LMarkShelter$Tokens;", true)
  | 2 => ("MarkShelter$BookReader", "book", "LMarkShelter$Book;", false)
  | 3 => ("MarkShelter$BookReader", "error", "I", false)
  | 4 => ("MarkShelter$BookReader", "index", "I", false)
  | 5 => ("MarkShelter$BookReader", "sign", "LMarkShelter$Sign;", false)
  | 6 => ("MarkShelter$BookReader", "position", "I", false)
  | _ => ("MarkShelter$BookReader", "worth", "J", false)
def tyX2 : Nat → FieldType := fun k => match k with
  | 0 => .int
  | 1 => .object "MarkShelter$Tokens"
  | 2 => .object "MarkShelter$Book"
  | 3 => .int
  | 4 => .int
  | 5 => .object "MarkShelter$Sign"
  | 6 => .int
  | _ => .long
theorem nmX2 : ∀ a, a < 8 → ∀ b, b < 8 → a ≠ b → (TX2 a).2.1 ≠ (TX2 b).2.1 := by decide +kernel
theorem tyX2_ok : ∀ k, k < 8 → parseFieldDescriptor (TX2 k).2.2.1 = some (tyX2 k) := by decide +kernel
def RX3 : String := "MarkShelter$Order"
def TX3 : u_T := fun k => match k with
  | 0 => ("MarkShelter$Order", "verb", "LMarkShelter$Sign;", false)
  | 1 => ("MarkShelter$Order", "stray", "I", false)
  | 2 => ("MarkShelter$Order", "firstStep", "I", false)
  | _ => ("MarkShelter$Order", "endOfSteps", "I", false)
def tyX3 : Nat → FieldType := fun k => match k with
  | 0 => .object "MarkShelter$Sign"
  | 1 => .int
  | 2 => .int
  | _ => .int
theorem nmX3 : ∀ a, a < 4 → ∀ b, b < 4 → a ≠ b → (TX3 a).2.1 ≠ (TX3 b).2.1 := by decide +kernel
theorem tyX3_ok : ∀ k, k < 4 → parseFieldDescriptor (TX3 k).2.2.1 = some (tyX3 k) := by decide +kernel
def RX4 : String := "MarkShelter$Shelter"
def TX4 : u_T := fun k => match k with
  | 0 => ("MarkShelter$Shelter", "strayCount", "I", false)
  | 1 => ("MarkShelter$Shelter", "houseCount", "I", false)
  | 2 => ("MarkShelter$Shelter", "coinCount", "I", false)
  | 3 => ("MarkShelter$Shelter", "today", "I", false)
  | 4 => ("MarkShelter$Shelter", "carriedOut", "I", false)
  | _ => ("MarkShelter$Shelter", "strays", "[LMarkShelter$Stray;", true)
def tyX4 : Nat → FieldType := fun k => match k with
  | 0 => .int
  | 1 => .int
  | 2 => .int
  | 3 => .int
  | 4 => .int
  | _ => .array (.object "MarkShelter$Stray")
theorem nmX4 : ∀ a, a < 6 → ∀ b, b < 6 → a ≠ b → (TX4 a).2.1 ≠ (TX4 b).2.1 := by decide +kernel
theorem tyX4_ok : ∀ k, k < 6 → parseFieldDescriptor (TX4 k).2.2.1 = some (tyX4 k) := by decide +kernel
def RX6 : String := "MarkShelter$Stray"
def TX6 : u_T := fun k => match k with
  | 0 => ("MarkShelter$Stray", "kind", "I", false)
  | 1 => ("MarkShelter$Stray", "comingDay", "I", false)
  | 2 => ("MarkShelter$Stray", "whereabouts", "I", false)
  | 3 => ("MarkShelter$Stray", "hunger", "I", false)
  | 4 => ("MarkShelter$Stray", "wildness", "I", false)
  | _ => ("MarkShelter$Stray", "home", "I", false)
def tyX6 : Nat → FieldType := fun k => match k with
  | 0 => .int
  | 1 => .int
  | 2 => .int
  | 3 => .int
  | 4 => .int
  | _ => .int
theorem nmX6 : ∀ a, a < 6 → ∀ b, b < 6 → a ≠ b → (TX6 a).2.1 ≠ (TX6 b).2.1 := by decide +kernel
theorem tyX6_ok : ∀ k, k < 6 → parseFieldDescriptor (TX6 k).2.2.1 = some (tyX6 k) := by decide +kernel
def RX7 : String := "MarkShelter$Tokens"
def TX7 : u_T := fun k => match k with
  | 0 => ("MarkShelter$Tokens", "signs", "[LMarkShelter$Sign;", true)
  | 1 => ("MarkShelter$Tokens", "positions", "[I", true)
  | 2 => ("MarkShelter$Tokens", "worths", "[J", true)
  | 3 => ("MarkShelter$Tokens", "count", "I", false)
  | 4 => ("MarkShelter$Tokens", "bytes", "[B", false)
  | 5 => ("MarkShelter$Tokens", "length", "I", false)
  | _ => ("MarkShelter$Tokens", "next", "I", false)
def tyX7 : Nat → FieldType := fun k => match k with
  | 0 => .array (.object "MarkShelter$Sign")
  | 1 => .array .int
  | 2 => .array .long
  | 3 => .int
  | 4 => .array .byte
  | 5 => .int
  | _ => .int
theorem nmX7 : ∀ a, a < 7 → ∀ b, b < 7 → a ≠ b → (TX7 a).2.1 ≠ (TX7 b).2.1 := by decide +kernel
theorem tyX7_ok : ∀ k, k < 7 → parseFieldDescriptor (TX7 k).2.2.1 = some (tyX7 k) := by decide +kernel
def RX8 : String := "MarkShelter"
def TX8 : u_T := fun k => match k with
  | 0 => ("MarkShelter", "tape", "[B", true)
  | 1 => ("MarkShelter", "reader", "LMarkShelter$BookReader;", true)
  | 2 => ("MarkShelter", "shelter", "LMarkShelter$Shelter;", true)
  | 3 => ("MarkShelter", "trial", "LMarkShelter$Shelter;", true)
  | 4 => ("MarkShelter", "book", "LMarkShelter$Book;", false)
  | 5 => ("MarkShelter", "tapeLength", "I", false)
  | _ => ("MarkShelter", "errorPosition", "I", false)
def tyX8 : Nat → FieldType := fun k => match k with
  | 0 => .array .byte
  | 1 => .object "MarkShelter$BookReader"
  | 2 => .object "MarkShelter$Shelter"
  | 3 => .object "MarkShelter$Shelter"
  | 4 => .object "MarkShelter$Book"
  | 5 => .int
  | _ => .int
theorem nmX8 : ∀ a, a < 7 → ∀ b, b < 7 → a ≠ b → (TX8 a).2.1 ≠ (TX8 b).2.1 := by decide +kernel
theorem tyX8_ok : ∀ k, k < 7 → parseFieldDescriptor (TX8 k).2.2.1 = some (tyX8 k) := by decide +kernel
def RX9 : String := "MarkShelterModel$Plan"
def TX9 : u_T := fun k => match k with
  | 0 => ("MarkShelterModel$Plan", "houses", "I", false)
  | 1 => ("MarkShelterModel$Plan", "coins", "I", false)
  | 2 => ("MarkShelterModel$Plan", "strays", "I", false)
  | 3 => ("MarkShelterModel$Plan", "sort", "[I", true)
  | 4 => ("MarkShelterModel$Plan", "day", "[I", true)
  | 5 => ("MarkShelterModel$Plan", "orders", "I", false)
  | 6 => ("MarkShelterModel$Plan", "ordersRead", "I", false)
  | 7 => ("MarkShelterModel$Plan", "does", "[I", true)
  | 8 => ("MarkShelterModel$Plan", "to", "[I", true)
  | 9 => ("MarkShelterModel$Plan", "test", "[I", true)
  | 10 => ("MarkShelterModel$Plan", "testEnd", "[I", true)
  | 11 => ("MarkShelterModel$Plan", "code", "[I", true)
  | 12 => ("MarkShelterModel$Plan", "size", "I", false)
  | 13 => ("MarkShelterModel$Plan", "open", "[I", true)
  | _ => ("MarkShelterModel$Plan", "opens", "I", false)
def tyX9 : Nat → FieldType := fun k => match k with
  | 0 => .int
  | 1 => .int
  | 2 => .int
  | 3 => .array .int
  | 4 => .array .int
  | 5 => .int
  | 6 => .int
  | 7 => .array .int
  | 8 => .array .int
  | 9 => .array .int
  | 10 => .array .int
  | 11 => .array .int
  | 12 => .int
  | 13 => .array .int
  | _ => .int
theorem nmX9 : ∀ a, a < 15 → ∀ b, b < 15 → a ≠ b → (TX9 a).2.1 ≠ (TX9 b).2.1 := by decide +kernel
theorem tyX9_ok : ∀ k, k < 15 → parseFieldDescriptor (TX9 k).2.2.1 = some (tyX9 k) := by decide +kernel
def RX10 : String := "MarkShelterModel$State"
def TX10 : u_T := fun k => match k with
  | 0 => ("MarkShelterModel$State", "coins", "I", false)
  | 1 => ("MarkShelterModel$State", "day", "I", false)
  | 2 => ("MarkShelterModel$State", "done", "I", false)
  | 3 => ("MarkShelterModel$State", "where", "[I", true)
  | 4 => ("MarkShelterModel$State", "hunger", "[I", true)
  | 5 => ("MarkShelterModel$State", "wild", "[I", true)
  | 6 => ("MarkShelterModel$State", "house", "[I", true)
  | _ => ("MarkShelterModel$State", "this$0", "LMarkShelterModel;", true)
def tyX10 : Nat → FieldType := fun k => match k with
  | 0 => .int
  | 1 => .int
  | 2 => .int
  | 3 => .array .int
  | 4 => .array .int
  | 5 => .array .int
  | 6 => .array .int
  | _ => .object "MarkShelterModel"
theorem nmX10 : ∀ a, a < 8 → ∀ b, b < 8 → a ≠ b → (TX10 a).2.1 ≠ (TX10 b).2.1 := by decide +kernel
theorem tyX10_ok : ∀ k, k < 8 → parseFieldDescriptor (TX10 k).2.2.1 = some (tyX10 k) := by decide +kernel
def RX11 : String := "MarkShelterModel"
def TX11 : u_T := fun k => match k with
  | 0 => ("MarkShelterModel", "thrown", "I", false)
  | 1 => ("MarkShelterModel", "tape", "[I", true)
  | 2 => ("MarkShelterModel", "size", "I", false)
  | 3 => ("MarkShelterModel", "errorAt", "I", false)
  | 4 => ("MarkShelterModel", "kind", "[I", true)
  | 5 => ("MarkShelterModel", "from", "[I", true)
  | 6 => ("MarkShelterModel", "many", "[I", true)
  | 7 => ("MarkShelterModel", "role", "[I", true)
  | 8 => ("MarkShelterModel", "meant", "[I", true)
  | 9 => ("MarkShelterModel", "token", "I", false)
  | 10 => ("MarkShelterModel", "depth", "I", false)
  | 11 => ("MarkShelterModel", "plan", "LMarkShelterModel$Plan;", false)
  | 12 => ("MarkShelterModel", "reading", "LMarkShelterModel$Plan;", false)
  | 13 => ("MarkShelterModel", "stack", "[I", true)
  | 14 => ("MarkShelterModel", "s", "LMarkShelterModel$State;", true)
  | _ => ("MarkShelterModel", "other", "LMarkShelterModel$State;", true)
def tyX11 : Nat → FieldType := fun k => match k with
  | 0 => .int
  | 1 => .array .int
  | 2 => .int
  | 3 => .int
  | 4 => .array .int
  | 5 => .array .int
  | 6 => .array .int
  | 7 => .array .int
  | 8 => .array .int
  | 9 => .int
  | 10 => .int
  | 11 => .object "MarkShelterModel$Plan"
  | 12 => .object "MarkShelterModel$Plan"
  | 13 => .array .int
  | 14 => .object "MarkShelterModel$State"
  | _ => .object "MarkShelterModel$State"
theorem nmX11 : ∀ a, a < 16 → ∀ b, b < 16 → a ≠ b → (TX11 a).2.1 ≠ (TX11 b).2.1 := by decide +kernel
theorem tyX11_ok : ∀ k, k < 16 → parseFieldDescriptor (TX11 k).2.2.1 = some (tyX11 k) := by decide +kernel
abbrev vwCl : List vw_C := [(RX1, TX1, 12), (RX2, TX2, 8), (RX3, TX3, 4), (RX4, TX4, 6), (RX6, TX6, 6), (RX7, TX7, 7), (RX8, TX8, 7), (RX9, TX9, 15), (RX10, TX10, 8), (RX11, TX11, 16)]
/-- class names by code: the ten of vwCl, then those that have code only -/
def cNmL : List String := [RX1, RX2, RX3, RX4, RX6, RX7, RX8, RX9, RX10, RX11, "MarkShelterLaw", "java/lang/String", "java/lang/StringLatin1", "jdk/internal/util/Preconditions", "java/lang/Enum"]
def cNm (c : Nat) : String := cNmL.getD c ""
/-- the methods: code, locals, what is returned (0 nothing, 1 int, 2 long, 3 double, 4 a reference, 5 boolean, 6 char, 7 byte), class, wide slots, handlers -/
def mT0 : List (ByteArray × Nat × Nat × Nat × List Nat × List (Nat × Nat × Nat × Nat)) := [
  (prog_3_method_1_code, 2, 0, 0, [], []),
  (prog_3_method_2_code, 1, 0, 0, [], []),
  (prog_3_method_3_code, 4, 1, 0, [1], []),
  (prog_3_method_4_code, 5, 0, 0, [1], []),
  (prog_3_method_5_code, 5, 0, 0, [], []),
  (prog_3_method_6_code, 3, 0, 0, [], []),
  (prog_3_method_7_code, 8, 5, 0, [], []),
  (prog_3_method_8_code, 1, 1, 0, [], []),
  (prog_3_method_9_code, 2, 1, 0, [], []),
  (prog_3_method_10_code, 3, 1, 0, [], []),
  (prog_4_method_1_code, 1, 0, 1, [], []),
  (prog_4_method_2_code, 3, 4, 1, [], []),
  (prog_4_method_3_code, 4, 1, 1, [], []),
  (prog_4_method_4_code, 1, 0, 1, [], []),
  (prog_4_method_5_code, 5, 0, 1, [1], []),
  (prog_4_method_6_code, 4, 0, 1, [], []),
  (prog_4_method_7_code, 3, 0, 1, [], []),
  (prog_4_method_8_code, 3, 0, 1, [], []),
  (prog_4_method_9_code, 4, 0, 1, [], []),
  (prog_4_method_10_code, 4, 0, 1, [], []),
  (prog_4_method_11_code, 4, 0, 1, [], []),
  (prog_4_method_12_code, 3, 0, 1, [], []),
  (prog_4_method_13_code, 3, 0, 1, [], []),
  (prog_4_method_14_code, 2, 5, 1, [], []),
  (prog_4_method_15_code, 4, 1, 1, [], []),
  (prog_4_method_16_code, 2, 1, 1, [], []),
  (prog_4_method_17_code, 2, 0, 1, [], []),
  (prog_4_method_18_code, 1, 0, 1, [], []),
  (prog_4_method_19_code, 2, 0, 1, [], []),
  (prog_4_method_20_code, 1, 0, 1, [], []),
  (prog_4_method_21_code, 2, 0, 1, [], []),
  (prog_4_method_22_code, 1, 5, 1, [], []),
  (prog_4_method_23_code, 1, 5, 1, [], []),
  (prog_4_method_24_code, 1, 1, 1, [], []),
  (prog_5_method_1_code, 1, 0, 2, [], []),
  (prog_6_method_1_code, 2, 0, 3, [], []),
  (prog_6_method_2_code, 4, 0, 3, [], []),
  (prog_6_method_3_code, 3, 0, 3, [], []),
  (prog_6_method_4_code, 4, 1, 3, [], []),
  (prog_6_method_5_code, 7, 1, 3, [], [])]
def mT1 : List (ByteArray × Nat × Nat × Nat × List Nat × List (Nat × Nat × Nat × Nat)) := [
  (prog_6_method_6_code, 1, 1, 3, [], []),
  (prog_6_method_7_code, 6, 4, 3, [], []),
  (prog_6_method_8_code, 3, 5, 3, [], []),
  (prog_6_method_9_code, 4, 5, 3, [], []),
  (prog_6_method_10_code, 4, 0, 3, [], []),
  (prog_6_method_11_code, 3, 1, 3, [], []),
  (prog_6_method_12_code, 8, 5, 3, [], []),
  (prog_6_method_13_code, 3, 0, 3, [], []),
  (prog_6_method_14_code, 7, 0, 3, [], []),
  (prog_6_method_15_code, 3, 4, 3, [], []),
  (prog_6_method_16_code, 6, 0, 3, [], []),
  (prog_6_method_17_code, 5, 0, 3, [], []),
  (prog_6_method_18_code, 3, 5, 3, [], []),
  (prog_6_method_19_code, 5, 0, 3, [], []),
  (prog_6_method_20_code, 6, 1, 3, [], []),
  (prog_8_method_1_code, 1, 0, 4, [], []),
  (prog_8_method_2_code, 3, 0, 4, [], []),
  (prog_8_method_3_code, 2, 0, 4, [], []),
  (prog_8_method_4_code, 1, 5, 4, [], []),
  (prog_8_method_5_code, 2, 0, 4, [], []),
  (prog_8_method_6_code, 2, 0, 4, [], []),
  (prog_8_method_7_code, 1, 0, 4, [], []),
  (prog_8_method_8_code, 1, 1, 4, [], []),
  (prog_9_method_1_code, 2, 0, 5, [], []),
  (prog_9_method_2_code, 5, 0, 5, [], []),
  (prog_9_method_3_code, 1, 0, 5, [], []),
  (prog_9_method_4_code, 3, 4, 5, [], []),
  (prog_9_method_5_code, 9, 4, 5, [3], []),
  (prog_9_method_6_code, 5, 4, 5, [3], []),
  (prog_9_method_7_code, 6, 4, 5, [], []),
  (prog_9_method_8_code, 4, 5, 5, [], []),
  (prog_9_method_9_code, 3, 1, 5, [], []),
  (prog_9_method_10_code, 1, 5, 5, [], []),
  (prog_9_method_11_code, 1, 5, 5, [], []),
  (prog_9_method_12_code, 1, 5, 5, [], []),
  (prog_9_method_13_code, 1, 1, 5, [], []),
  (prog_1_method_1_code, 1, 0, 6, [], []),
  (prog_1_method_2_code, 6, 1, 6, [], []),
  (prog_1_method_3_code, 3, 0, 6, [], []),
  (prog_1_method_4_code, 2, 1, 6, [], [])]
def mT2 : List (ByteArray × Nat × Nat × Nat × List Nat × List (Nat × Nat × Nat × Nat)) := [
  (prog_1_method_5_code, 2, 1, 6, [], []),
  (prog_1_method_6_code, 1, 1, 6, [], []),
  (prog_1_method_7_code, 1, 1, 6, [], []),
  (prog_1_method_8_code, 1, 1, 6, [], []),
  (prog_1_method_9_code, 1, 1, 6, [], []),
  (prog_1_method_10_code, 1, 1, 6, [], []),
  (prog_1_method_11_code, 1, 1, 6, [], []),
  (prog_1_method_12_code, 1, 1, 6, [], []),
  (prog_1_method_13_code, 1, 1, 6, [], []),
  (prog_1_method_14_code, 1, 1, 6, [], []),
  (prog_1_method_15_code, 1, 1, 6, [], []),
  (prog_1_method_16_code, 2, 1, 6, [], []),
  (prog_1_method_17_code, 2, 1, 6, [], []),
  (prog_1_method_18_code, 2, 5, 6, [], []),
  (prog_1_method_19_code, 2, 5, 6, [], []),
  (prog_1_method_20_code, 2, 5, 6, [], []),
  (prog_1_method_21_code, 2, 1, 6, [], []),
  (prog_1_method_22_code, 2, 1, 6, [], []),
  (prog_1_method_23_code, 2, 5, 6, [], []),
  (prog_1_method_24_code, 3, 1, 6, [], []),
  (prog_1_method_25_code, 2, 5, 6, [], []),
  (prog_1_method_26_code, 2, 5, 6, [], []),
  (prog_1_method_27_code, 5, 1, 6, [], []),
  (prog_1_method_28_code, 2, 4, 6, [], []),
  (prog_1_method_29_code, 3, 4, 6, [], []),
  (prog_1_method_30_code, 2, 1, 6, [], []),
  (prog_1_method_31_code, 2, 1, 6, [], []),
  (prog_1_method_32_code, 2, 1, 6, [], []),
  (prog_1_method_33_code, 2, 1, 6, [], []),
  (prog_1_method_34_code, 3, 1, 6, [], []),
  (prog_1_method_35_code, 3, 1, 6, [], []),
  (prog_1_method_36_code, 2, 1, 6, [], []),
  (prog_1_method_37_code, 4, 4, 6, [], []),
  (prog_1_method_38_code, 3, 1, 6, [], []),
  (prog_1_method_39_code, 2, 1, 6, [], []),
  (prog_1_method_40_code, 2, 1, 6, [], []),
  (prog_1_method_41_code, 2, 1, 6, [], []),
  (prog_1_method_42_code, 2, 1, 6, [], []),
  (prog_1_method_43_code, 5, 1, 6, [], []),
  (prog_1_method_44_code, 7, 3, 6, [], [])]
def mT3 : List (ByteArray × Nat × Nat × Nat × List Nat × List (Nat × Nat × Nat × Nat)) := [
  (prog_1_method_45_code, 4, 2, 6, [1], []),
  (prog_1_method_46_code, 7, 2, 6, [1, 5], []),
  (prog_1_method_47_code, 1, 0, 6, [], []),
  (prog_1_method_48_code, 3, 1, 6, [], []),
  (prog_1_method_49_code, 5, 1, 6, [], []),
  (prog_12_method_1_code, 1, 0, 7, [], []),
  (prog_13_method_1_code, 2, 0, 8, [], []),
  (prog_13_method_2_code, 3, 0, 8, [], []),
  (prog_13_method_3_code, 2, 4, 8, [], []),
  (prog_13_method_4_code, 2, 0, 8, [], []),
  (prog_13_method_5_code, 2, 0, 8, [], []),
  (prog_13_method_6_code, 2, 5, 8, [], []),
  (prog_13_method_7_code, 4, 1, 8, [], []),
  (prog_13_method_8_code, 4, 1, 8, [], []),
  (prog_13_method_9_code, 3, 1, 8, [], []),
  (prog_13_method_10_code, 2, 5, 8, [], []),
  (prog_13_method_11_code, 3, 1, 8, [], []),
  (prog_13_method_12_code, 2, 5, 8, [], []),
  (prog_13_method_13_code, 2, 5, 8, [], []),
  (prog_13_method_14_code, 5, 1, 8, [], []),
  (prog_13_method_15_code, 3, 5, 8, [], []),
  (prog_13_method_16_code, 2, 0, 8, [], []),
  (prog_13_method_17_code, 5, 1, 8, [], []),
  (prog_13_method_18_code, 3, 1, 8, [], []),
  (prog_13_method_19_code, 6, 5, 8, [], []),
  (prog_13_method_20_code, 2, 0, 8, [], []),
  (prog_13_method_21_code, 3, 0, 8, [], []),
  (prog_13_method_22_code, 2, 0, 8, [], []),
  (prog_13_method_23_code, 4, 4, 8, [], []),
  (prog_13_method_24_code, 4, 1, 8, [], []),
  (prog_11_method_1_code, 1, 0, 9, [], []),
  (prog_11_method_2_code, 1, 1, 9, [], []),
  (prog_11_method_3_code, 2, 1, 9, [], []),
  (prog_11_method_5_code, 2, 1, 9, [], []),
  (prog_11_method_6_code, 3, 5, 9, [], []),
  (prog_11_method_7_code, 1, 4, 9, [], []),
  (prog_11_method_8_code, 3, 1, 9, [], []),
  (prog_11_method_9_code, 1, 5, 9, [], []),
  (prog_11_method_10_code, 1, 5, 9, [], []),
  (prog_11_method_11_code, 2, 1, 9, [], [])]
def mT4 : List (ByteArray × Nat × Nat × Nat × List Nat × List (Nat × Nat × Nat × Nat)) := [
  (prog_11_method_12_code, 6, 1, 9, [], []),
  (prog_11_method_13_code, 6, 1, 9, [], []),
  (prog_11_method_14_code, 3, 0, 9, [], []),
  (prog_11_method_15_code, 2, 5, 9, [], []),
  (prog_11_method_16_code, 2, 5, 9, [], []),
  (prog_11_method_17_code, 2, 5, 9, [], []),
  (prog_11_method_18_code, 2, 5, 9, [], []),
  (prog_11_method_19_code, 3, 5, 9, [], []),
  (prog_11_method_20_code, 2, 0, 9, [], []),
  (prog_11_method_21_code, 1, 5, 9, [], []),
  (prog_11_method_22_code, 3, 5, 9, [], []),
  (prog_11_method_23_code, 2, 5, 9, [], []),
  (prog_11_method_24_code, 1, 5, 9, [], []),
  (prog_11_method_25_code, 1, 5, 9, [], []),
  (prog_11_method_26_code, 1, 5, 9, [], []),
  (prog_11_method_27_code, 2, 5, 9, [], []),
  (prog_11_method_28_code, 2, 5, 9, [], []),
  (prog_11_method_29_code, 2, 5, 9, [], []),
  (prog_11_method_30_code, 2, 5, 9, [], []),
  (prog_11_method_31_code, 2, 5, 9, [], []),
  (prog_11_method_32_code, 3, 5, 9, [], []),
  (prog_11_method_33_code, 2, 5, 9, [], []),
  (prog_11_method_34_code, 4, 1, 9, [], []),
  (prog_11_method_35_code, 4, 5, 9, [], []),
  (prog_11_method_36_code, 5, 1, 9, [], []),
  (prog_11_method_37_code, 3, 1, 9, [], []),
  (prog_11_method_38_code, 4, 1, 9, [], []),
  (prog_11_method_39_code, 4, 1, 9, [], []),
  (prog_11_method_40_code, 3, 1, 9, [], []),
  (prog_11_method_41_code, 2, 1, 9, [], []),
  (prog_11_method_42_code, 3, 1, 9, [], []),
  (prog_11_method_43_code, 2, 1, 9, [], []),
  (prog_11_method_44_code, 3, 1, 9, [], []),
  (prog_11_method_45_code, 8, 1, 9, [], []),
  (prog_11_method_46_code, 2, 1, 9, [], []),
  (prog_11_method_47_code, 2, 1, 9, [], []),
  (prog_11_method_48_code, 1, 1, 9, [], []),
  (prog_11_method_49_code, 1, 1, 9, [], []),
  (prog_11_method_50_code, 1, 1, 9, [], []),
  (prog_11_method_51_code, 1, 1, 9, [], [])]
def mT5 : List (ByteArray × Nat × Nat × Nat × List Nat × List (Nat × Nat × Nat × Nat)) := [
  (prog_11_method_52_code, 1, 1, 9, [], []),
  (prog_11_method_53_code, 1, 1, 9, [], []),
  (prog_11_method_54_code, 1, 1, 9, [], []),
  (prog_11_method_55_code, 1, 1, 9, [], []),
  (prog_11_method_56_code, 1, 1, 9, [], []),
  (prog_11_method_57_code, 1, 1, 9, [], []),
  (prog_11_method_58_code, 2, 5, 9, [], []),
  (prog_11_method_59_code, 2, 5, 9, [], []),
  (prog_11_method_60_code, 2, 1, 9, [], []),
  (prog_11_method_61_code, 2, 1, 9, [], []),
  (prog_11_method_62_code, 2, 5, 9, [], []),
  (prog_11_method_63_code, 2, 5, 9, [], []),
  (prog_11_method_64_code, 2, 5, 9, [], []),
  (prog_11_method_65_code, 3, 1, 9, [], []),
  (prog_11_method_66_code, 2, 1, 9, [], []),
  (prog_11_method_67_code, 2, 1, 9, [], []),
  (prog_11_method_68_code, 2, 5, 9, [], []),
  (prog_11_method_69_code, 2, 1, 9, [], []),
  (prog_11_method_70_code, 2, 5, 9, [], []),
  (prog_11_method_71_code, 2, 5, 9, [], []),
  (prog_11_method_72_code, 3, 1, 9, [], []),
  (prog_11_method_73_code, 2, 1, 9, [], []),
  (prog_11_method_74_code, 3, 1, 9, [], []),
  (prog_11_method_75_code, 2, 1, 9, [], []),
  (prog_11_method_76_code, 2, 1, 9, [], []),
  (prog_11_method_77_code, 2, 1, 9, [], []),
  (prog_11_method_78_code, 2, 1, 9, [], []),
  (prog_11_method_79_code, 2, 1, 9, [], []),
  (prog_11_method_80_code, 2, 1, 9, [], []),
  (prog_11_method_81_code, 2, 5, 9, [], []),
  (prog_11_method_82_code, 3, 1, 9, [], []),
  (prog_11_method_83_code, 2, 1, 9, [], []),
  (prog_11_method_84_code, 2, 1, 9, [], []),
  (prog_11_method_85_code, 2, 1, 9, [], []),
  (prog_11_method_86_code, 2, 1, 9, [], []),
  (prog_11_method_87_code, 6, 1, 9, [], []),
  (prog_11_method_88_code, 1, 1, 9, [], []),
  (prog_11_method_89_code, 3, 3, 9, [], []),
  (prog_11_method_90_code, 11, 2, 9, [2], []),
  (method_3_code, 8, 1, 10, [], [(0, 16, 19, 13)])]
def mT6 : List (ByteArray × Nat × Nat × Nat × List Nat × List (Nat × Nat × Nat × Nat)) := [
  (method_4_code, 4, 1, 10, [], [(0, 9, 12, 19)]),
  (method_5_code, 4, 1, 10, [], [(0, 9, 12, 24)]),
  (method_6_code, 4, 1, 10, [], [(0, 9, 12, 24)]),
  (method_7_code, 4, 1, 10, [], [(0, 16, 19, 24)]),
  (method_8_code, 4, 1, 10, [], [(0, 16, 19, 24)]),
  (method_9_code, 4, 1, 10, [], [(0, 16, 19, 24)]),
  (method_10_code, 4, 1, 10, [], [(0, 9, 12, 24), (0, 9, 15, 13)]),
  (method_11_code, 4, 1, 10, [], [(0, 9, 12, 24), (0, 9, 15, 13)]),
  (method_12_code, 4, 1, 10, [], [(0, 16, 19, 24)]),
  (method_13_code, 4, 1, 10, [], [(0, 9, 12, 24), (0, 9, 15, 13)]),
  (method_14_code, 4, 1, 10, [], [(0, 16, 19, 24)]),
  (method_15_code, 4, 1, 10, [], [(0, 16, 19, 24)]),
  (method_16_code, 4, 1, 10, [], [(0, 9, 12, 24)]),
  (method_17_code, 4, 1, 10, [], [(0, 9, 12, 24), (0, 9, 15, 13)]),
  (method_18_code, 4, 1, 10, [], [(0, 9, 12, 24), (0, 9, 15, 13)]),
  (method_19_code, 4, 1, 10, [], [(0, 9, 12, 24), (0, 9, 15, 13)]),
  (method_20_code, 4, 1, 10, [], [(0, 9, 12, 24), (0, 9, 15, 13)]),
  (method_21_code, 4, 1, 10, [], [(0, 9, 12, 24), (0, 9, 15, 13)]),
  (method_22_code, 4, 1, 10, [], [(0, 9, 12, 19)]),
  (method_23_code, 4, 1, 10, [], [(0, 9, 12, 19)]),
  (method_24_code, 4, 1, 10, [], [(0, 9, 12, 19)]),
  (method_25_code, 4, 1, 10, [], [(0, 9, 12, 19)]),
  (method_26_code, 4, 1, 10, [], [(0, 9, 12, 24)]),
  (method_27_code, 4, 1, 10, [], [(0, 9, 12, 24)]),
  (code, 9, 5, 10, [5, 7], []),
  (prog_22_method_54_code, 1, 1, 11, [], []),
  (prog_22_method_56_code, 2, 6, 11, [], []),
  (prog_22_method_79_code, 2, 1, 11, [], []),
  (prog_22_method_80_code, 3, 1, 11, [], []),
  (prog_22_method_152_code, 1, 7, 11, [], []),
  (prog_22_method_154_code, 1, 5, 11, [], []),
  (prog_22_method_155_code, 2, 0, 11, [], []),
  (prog_23_method_2_code, 2, 6, 12, [], []),
  (prog_23_method_4_code, 1, 5, 12, [], []),
  (prog_23_method_22_code, 4, 1, 12, [], []),
  (prog_23_method_23_code, 6, 1, 12, [], []),
  (prog_27_method_11_code, 3, 1, 13, [], []),
  (prog_15_method_2_code, 1, 1, 14, [], [])]
def mTc (c : Nat) : List (ByteArray × Nat × Nat × Nat × List Nat × List (Nat × Nat × Nat × Nat)) := match c with
  | 0 => mT0
  | 1 => mT1
  | 2 => mT2
  | 3 => mT3
  | 4 => mT4
  | 5 => mT5
  | 6 => mT6
  | _ => []
def mI (k : Nat) : ByteArray × Nat × Nat × Nat × List Nat × List (Nat × Nat × Nat × Nat) := (mTc (k / 40)).getD (k % 40) (⟨#[]⟩, 0, 0, 0, [], [])
def mB (k : Nat) : ByteArray := (mI k).1
def mL (k : Nat) : Nat := (mI k).2.1
def mR (k : Nat) : Nat := (mI k).2.2.1
def mC (k : Nat) : Nat := (mI k).2.2.2.1
def mW (k : Nat) : List Nat := (mI k).2.2.2.2.1
def mH (k : Nat) : List (Nat × Nat × Nat × Nat) := (mI k).2.2.2.2.2
def mN0 : List (MethodName × Option FieldType) := [
  (⟨cNm 0, "<init>", "()V"⟩, none),
  (⟨cNm 0, "clear", "()V"⟩, none),
  (⟨cNm 0, "strayNamed", "(J)I"⟩, (some .int)),
  (⟨cNm 0, "addStray", "(JII)V"⟩, none),
  (⟨cNm 0, "addOrder", "(LMarkShelter$Sign;II)V"⟩, none),
  (⟨cNm 0, "addStep", "(LMarkShelter$Sign;I)V"⟩, none),
  (⟨cNm 0, "holds", "(LMarkShelter$Order;LMarkShelter$Shelter;)Z"⟩, (some .boolean)),
  (⟨cNm 0, "operandsOf", "(LMarkShelter$Sign;)I"⟩, (some .int)),
  (⟨cNm 0, "turn", "(LMarkShelter$Sign;I)I"⟩, (some .int)),
  (⟨cNm 0, "join", "(LMarkShelter$Sign;II)I"⟩, (some .int)),
  (⟨cNm 1, "<init>", "()V"⟩, none),
  (⟨cNm 1, "exchangeBook", "(LMarkShelter$Book;)LMarkShelter$Book;"⟩, (some (.object "MarkShelter$Book"))),
  (⟨cNm 1, "read", "([BI)I"⟩, (some .int)),
  (⟨cNm 1, "readBeginning", "()V"⟩, none),
  (⟨cNm 1, "readStray", "()V"⟩, none),
  (⟨cNm 1, "readOrder", "()V"⟩, none),
  (⟨cNm 1, "readTest", "(I)V"⟩, none),
  (⟨cNm 1, "readBoth", "(I)V"⟩, none),
  (⟨cNm 1, "readSingle", "(I)V"⟩, none),
  (⟨cNm 1, "readSum", "(I)V"⟩, none),
  (⟨cNm 1, "readProduct", "(I)V"⟩, none),
  (⟨cNm 1, "readValue", "(I)V"⟩, none),
  (⟨cNm 1, "readChoice", "(I)V"⟩, none),
  (⟨cNm 1, "goDeeper", "(I)Z"⟩, (some .boolean)),
  (⟨cNm 1, "readNumber", "(II)I"⟩, (some .int)),
  (⟨cNm 1, "readKnownName", "()I"⟩, (some .int)),
  (⟨cNm 1, "expect", "(LMarkShelter$Sign;)V"⟩, none),
  (⟨cNm 1, "advance", "()V"⟩, none),
  (⟨cNm 1, "goTo", "(I)V"⟩, none),
  (⟨cNm 1, "fail", "()V"⟩, none),
  (⟨cNm 1, "tell", "(I)V"⟩, none),
  (⟨cNm 1, "isVerb", "(LMarkShelter$Sign;)Z"⟩, (some .boolean)),
  (⟨cNm 1, "isRelation", "(LMarkShelter$Sign;)Z"⟩, (some .boolean)),
  (⟨cNm 1, "kindTold", "(LMarkShelter$Sign;)I"⟩, (some .int)),
  (⟨cNm 2, "<init>", "()V"⟩, none),
  (⟨cNm 3, "<init>", "()V"⟩, none),
  (⟨cNm 3, "begin", "(LMarkShelter$Book;)V"⟩, none),
  (⟨cNm 3, "copyFrom", "(LMarkShelter$Shelter;)V"⟩, none),
  (⟨cNm 3, "countIn", "(I)I"⟩, (some .int)),
  (⟨cNm 3, "countInHouse", "(I)I"⟩, (some .int))]
def mN1 : List (MethodName × Option FieldType) := [
  (⟨cNm 3, "freePlaces", "()I"⟩, (some .int)),
  (⟨cNm 3, "mateOf", "(LMarkShelter$Stray;)LMarkShelter$Stray;"⟩, (some (.object "MarkShelter$Stray"))),
  (⟨cNm 3, "mayBeAdopted", "(LMarkShelter$Stray;)Z"⟩, (some .boolean)),
  (⟨cNm 3, "can", "(LMarkShelter$Sign;LMarkShelter$Stray;)Z"⟩, (some .boolean)),
  (⟨cNm 3, "act", "(LMarkShelter$Sign;LMarkShelter$Stray;)V"⟩, none),
  (⟨cNm 3, "houseFor", "(LMarkShelter$Stray;)I"⟩, (some .int)),
  (⟨cNm 3, "isHouseOfOneQuote", "(I)Z"⟩, (some .boolean)),
  (⟨cNm 3, "adopt", "(LMarkShelter$Stray;)V"⟩, none),
  (⟨cNm 3, "letDaysGo", "(LMarkShelter$Book;I)V"⟩, none),
  (⟨cNm 3, "strayOf", "(LMarkShelter$Order;)LMarkShelter$Stray;"⟩, (some (.object "MarkShelter$Stray"))),
  (⟨cNm 3, "growHungryAndWild", "()V"⟩, none),
  (⟨cNm 3, "letRunAway", "()V"⟩, none),
  (⟨cNm 3, "wantsAway", "(LMarkShelter$Stray;)Z"⟩, (some .boolean)),
  (⟨cNm 3, "letCome", "()V"⟩, none),
  (⟨cNm 3, "reckon", "(LMarkShelter$Sign;I)I"⟩, (some .int)),
  (⟨cNm 4, "<init>", "()V"⟩, none),
  (⟨cNm 4, "begin", "(II)V"⟩, none),
  (⟨cNm 4, "copyFrom", "(LMarkShelter$Stray;)V"⟩, none),
  (⟨cNm 4, "isFit", "()Z"⟩, (some .boolean)),
  (⟨cNm 4, "leaveTo", "(I)V"⟩, none),
  (⟨cNm 4, "hungerGrows", "(I)V"⟩, none),
  (⟨cNm 4, "wildnessGrows", "()V"⟩, none),
  (⟨cNm 4, "wildnessAtFirst", "(I)I"⟩, (some .int)),
  (⟨cNm 5, "<init>", "()V"⟩, none),
  (⟨cNm 5, "readTape", "([BI)V"⟩, none),
  (⟨cNm 5, "skipBlanks", "()V"⟩, none),
  (⟨cNm 5, "readToken", "(I)LMarkShelter$Sign;"⟩, (some (.object "MarkShelter$Sign"))),
  (⟨cNm 5, "readWord", "(I)LMarkShelter$Sign;"⟩, (some (.object "MarkShelter$Sign"))),
  (⟨cNm 5, "readNumber", "(I)LMarkShelter$Sign;"⟩, (some (.object "MarkShelter$Sign"))),
  (⟨cNm 5, "readSymbol", "()LMarkShelter$Sign;"⟩, (some (.object "MarkShelter$Sign"))),
  (⟨cNm 5, "standsAt", "(Ljava/lang/String;I)Z"⟩, (some .boolean)),
  (⟨cNm 5, "byteAt", "(I)I"⟩, (some .int)),
  (⟨cNm 5, "isBlank", "(I)Z"⟩, (some .boolean)),
  (⟨cNm 5, "isLetter", "(I)Z"⟩, (some .boolean)),
  (⟨cNm 5, "isDigit", "(I)Z"⟩, (some .boolean)),
  (⟨cNm 5, "letterNumber", "(I)I"⟩, (some .int)),
  (⟨cNm 6, "<init>", "()V"⟩, none),
  (⟨cNm 6, "feed", "(IIIII)I"⟩, (some .int)),
  (⟨cNm 6, "append", "(I)V"⟩, none),
  (⟨cNm 6, "trim", "(I)I"⟩, (some .int))]
def mN2 : List (MethodName × Option FieldType) := [
  (⟨cNm 6, "teach", "()I"⟩, (some .int)),
  (⟨cNm 6, "errorAt", "()I"⟩, (some .int)),
  (⟨cNm 6, "strays", "()I"⟩, (some .int)),
  (⟨cNm 6, "houses", "()I"⟩, (some .int)),
  (⟨cNm 6, "coins", "()I"⟩, (some .int)),
  (⟨cNm 6, "day", "()I"⟩, (some .int)),
  (⟨cNm 6, "ordersCarriedOut", "()I"⟩, (some .int)),
  (⟨cNm 6, "here", "()I"⟩, (some .int)),
  (⟨cNm 6, "adopted", "()I"⟩, (some .int)),
  (⟨cNm 6, "gone", "()I"⟩, (some .int)),
  (⟨cNm 6, "room", "()I"⟩, (some .int)),
  (⟨cNm 6, "kindOf", "(I)I"⟩, (some .int)),
  (⟨cNm 6, "dayOf", "(I)I"⟩, (some .int)),
  (⟨cNm 6, "isHere", "(I)Z"⟩, (some .boolean)),
  (⟨cNm 6, "isAdopted", "(I)Z"⟩, (some .boolean)),
  (⟨cNm 6, "isGone", "(I)Z"⟩, (some .boolean)),
  (⟨cNm 6, "hungerOf", "(I)I"⟩, (some .int)),
  (⟨cNm 6, "wildnessOf", "(I)I"⟩, (some .int)),
  (⟨cNm 6, "isHoused", "(I)Z"⟩, (some .boolean)),
  (⟨cNm 6, "houseOf", "(I)I"⟩, (some .int)),
  (⟨cNm 6, "isPaired", "(I)Z"⟩, (some .boolean)),
  (⟨cNm 6, "isReady", "(I)Z"⟩, (some .boolean)),
  (⟨cNm 6, "hungriest", "()I"⟩, (some .int)),
  (⟨cNm 6, "toldStray", "(I)LMarkShelter$Stray;"⟩, (some (.object "MarkShelter$Stray"))),
  (⟨cNm 6, "presentStray", "(I)LMarkShelter$Stray;"⟩, (some (.object "MarkShelter$Stray"))),
  (⟨cNm 6, "straysIn", "(I)I"⟩, (some .int)),
  (⟨cNm 6, "feedStray", "(I)I"⟩, (some .int)),
  (⟨cNm 6, "train", "(I)I"⟩, (some .int)),
  (⟨cNm 6, "house", "(I)I"⟩, (some .int)),
  (⟨cNm 6, "free", "(I)I"⟩, (some .int)),
  (⟨cNm 6, "offer", "(I)I"⟩, (some .int)),
  (⟨cNm 6, "donate", "(I)I"⟩, (some .int)),
  (⟨cNm 6, "doByHand", "(LMarkShelter$Sign;I)LMarkShelter$Stray;"⟩, (some (.object "MarkShelter$Stray"))),
  (⟨cNm 6, "passDays", "(I)I"⟩, (some .int)),
  (⟨cNm 6, "adoptedAfter", "(I)I"⟩, (some .int)),
  (⟨cNm 6, "goneAfter", "(I)I"⟩, (some .int)),
  (⟨cNm 6, "daysUntilGone", "(I)I"⟩, (some .int)),
  (⟨cNm 6, "daysUntilAdopted", "(I)I"⟩, (some .int)),
  (⟨cNm 6, "bestToFeed", "()I"⟩, (some .int)),
  (⟨cNm 6, "meanHunger", "()D"⟩, (some .double))]
def mN3 : List (MethodName × Option FieldType) := [
  (⟨cNm 6, "digest", "()J"⟩, (some .long)),
  (⟨cNm 6, "digestOfStray", "(JLMarkShelter$Stray;)J"⟩, (some .long)),
  (⟨cNm 6, "checkDays", "(I)V"⟩, none),
  (⟨cNm 6, "countBehind", "(II)I"⟩, (some .int)),
  (⟨cNm 6, "daysUntil", "(II)I"⟩, (some .int)),
  (⟨cNm 7, "<init>", "()V"⟩, none),
  (⟨cNm 8, "<init>", "(LMarkShelterModel;)V"⟩, none),
  (⟨cNm 8, "copy", "([I[I)V"⟩, none),
  (⟨cNm 8, "become", "(LMarkShelterModel$State;)LMarkShelterModel$State;"⟩, (some (.object "MarkShelterModel$State"))),
  (⟨cNm 8, "begin", "()V"⟩, none),
  (⟨cNm 8, "come", "()V"⟩, none),
  (⟨cNm 8, "isHere", "(I)Z"⟩, (some .boolean)),
  (⟨cNm 8, "many", "(I)I"⟩, (some .int)),
  (⟨cNm 8, "in", "(I)I"⟩, (some .int)),
  (⟨cNm 8, "room", "()I"⟩, (some .int)),
  (⟨cNm 8, "isQuote", "(I)Z"⟩, (some .boolean)),
  (⟨cNm 8, "partner", "(I)I"⟩, (some .int)),
  (⟨cNm 8, "isFit", "(I)Z"⟩, (some .boolean)),
  (⟨cNm 8, "isReady", "(I)Z"⟩, (some .boolean)),
  (⟨cNm 8, "houseFor", "(I)I"⟩, (some .int)),
  (⟨cNm 8, "can", "(II)Z"⟩, (some .boolean)),
  (⟨cNm 8, "adopt", "(I)V"⟩, none),
  (⟨cNm 8, "carry", "(II)I"⟩, (some .int)),
  (⟨cNm 8, "told", "(II)I"⟩, (some .int)),
  (⟨cNm 8, "holds", "(I)Z"⟩, (some .boolean)),
  (⟨cNm 8, "orders", "()V"⟩, none),
  (⟨cNm 8, "wear", "(I)V"⟩, none),
  (⟨cNm 8, "run", "(I)V"⟩, none),
  (⟨cNm 8, "pass", "(I)LMarkShelterModel$State;"⟩, (some (.object "MarkShelterModel$State"))),
  (⟨cNm 8, "until", "(II)I"⟩, (some .int)),
  (⟨cNm 9, "<init>", "()V"⟩, none),
  (⟨cNm 9, "thrown", "()I"⟩, (some .int)),
  (⟨cNm 9, "no", "(I)I"⟩, (some .int)),
  (⟨cNm 9, "ok", "(I)I"⟩, (some .int)),
  (⟨cNm 9, "isIn", "(III)Z"⟩, (some .boolean)),
  (⟨cNm 9, "ahead", "()LMarkShelterModel$State;"⟩, (some (.object "MarkShelterModel$State"))),
  (⟨cNm 9, "both", "(III)I"⟩, (some .int)),
  (⟨cNm 9, "isLetter", "(I)Z"⟩, (some .boolean)),
  (⟨cNm 9, "isDigit", "(I)Z"⟩, (some .boolean)),
  (⟨cNm 9, "byteOf", "(I)I"⟩, (some .int))]
def mN4 : List (MethodName × Option FieldType) := [
  (⟨cNm 9, "kindAt", "(II)I"⟩, (some .int)),
  (⟨cNm 9, "word", "(II)I"⟩, (some .int)),
  (⟨cNm 9, "cut", "()V"⟩, none),
  (⟨cNm 9, "is", "(I)Z"⟩, (some .boolean)),
  (⟨cNm 9, "isSign", "(C)Z"⟩, (some .boolean)),
  (⟨cNm 9, "eat", "(I)Z"⟩, (some .boolean)),
  (⟨cNm 9, "eatSign", "(C)Z"⟩, (some .boolean)),
  (⟨cNm 9, "eatAs", "(II)Z"⟩, (some .boolean)),
  (⟨cNm 9, "put", "(I)V"⟩, none),
  (⟨cNm 9, "isBook", "()Z"⟩, (some .boolean)),
  (⟨cNm 9, "isLine", "()Z"⟩, (some .boolean)),
  (⟨cNm 9, "isOrder", "()Z"⟩, (some .boolean)),
  (⟨cNm 9, "isTest", "()Z"⟩, (some .boolean)),
  (⟨cNm 9, "isBoth", "()Z"⟩, (some .boolean)),
  (⟨cNm 9, "isDeeper", "()Z"⟩, (some .boolean)),
  (⟨cNm 9, "isName", "(I)Z"⟩, (some .boolean)),
  (⟨cNm 9, "isNamed", "(I)Z"⟩, (some .boolean)),
  (⟨cNm 9, "isSingle", "()Z"⟩, (some .boolean)),
  (⟨cNm 9, "isSum", "()Z"⟩, (some .boolean)),
  (⟨cNm 9, "isProduct", "()Z"⟩, (some .boolean)),
  (⟨cNm 9, "isInside", "(IZ)Z"⟩, (some .boolean)),
  (⟨cNm 9, "isValue", "()Z"⟩, (some .boolean)),
  (⟨cNm 9, "numberAt", "(I)I"⟩, (some .int)),
  (⟨cNm 9, "isSame", "(II)Z"⟩, (some .boolean)),
  (⟨cNm 9, "told", "(II)I"⟩, (some .int)),
  (⟨cNm 9, "look", "(II)I"⟩, (some .int)),
  (⟨cNm 9, "isNew", "(III)I"⟩, (some .int)),
  (⟨cNm 9, "inRange", "(III)I"⟩, (some .int)),
  (⟨cNm 9, "newStray", "(I)I"⟩, (some .int)),
  (⟨cNm 9, "newOrder", "(I)I"⟩, (some .int)),
  (⟨cNm 9, "ofOrder", "(I)I"⟩, (some .int)),
  (⟨cNm 9, "errorOf", "(I)I"⟩, (some .int)),
  (⟨cNm 9, "read", "()I"⟩, (some .int)),
  (⟨cNm 9, "feed", "(IIIII)I"⟩, (some .int)),
  (⟨cNm 9, "trim", "(I)I"⟩, (some .int)),
  (⟨cNm 9, "teach", "()I"⟩, (some .int)),
  (⟨cNm 9, "errorAt", "()I"⟩, (some .int)),
  (⟨cNm 9, "strays", "()I"⟩, (some .int)),
  (⟨cNm 9, "houses", "()I"⟩, (some .int)),
  (⟨cNm 9, "coins", "()I"⟩, (some .int))]
def mN5 : List (MethodName × Option FieldType) := [
  (⟨cNm 9, "day", "()I"⟩, (some .int)),
  (⟨cNm 9, "ordersCarriedOut", "()I"⟩, (some .int)),
  (⟨cNm 9, "here", "()I"⟩, (some .int)),
  (⟨cNm 9, "adopted", "()I"⟩, (some .int)),
  (⟨cNm 9, "gone", "()I"⟩, (some .int)),
  (⟨cNm 9, "room", "()I"⟩, (some .int)),
  (⟨cNm 9, "isStray", "(I)Z"⟩, (some .boolean)),
  (⟨cNm 9, "isKnown", "(I)Z"⟩, (some .boolean)),
  (⟨cNm 9, "kindOf", "(I)I"⟩, (some .int)),
  (⟨cNm 9, "dayOf", "(I)I"⟩, (some .int)),
  (⟨cNm 9, "isHere", "(I)Z"⟩, (some .boolean)),
  (⟨cNm 9, "isAdopted", "(I)Z"⟩, (some .boolean)),
  (⟨cNm 9, "isGone", "(I)Z"⟩, (some .boolean)),
  (⟨cNm 9, "ofOneHere", "(I[I)I"⟩, (some .int)),
  (⟨cNm 9, "hungerOf", "(I)I"⟩, (some .int)),
  (⟨cNm 9, "wildnessOf", "(I)I"⟩, (some .int)),
  (⟨cNm 9, "isHoused", "(I)Z"⟩, (some .boolean)),
  (⟨cNm 9, "houseOf", "(I)I"⟩, (some .int)),
  (⟨cNm 9, "isPaired", "(I)Z"⟩, (some .boolean)),
  (⟨cNm 9, "isReady", "(I)Z"⟩, (some .boolean)),
  (⟨cNm 9, "hungriest", "()I"⟩, (some .int)),
  (⟨cNm 9, "straysIn", "(I)I"⟩, (some .int)),
  (⟨cNm 9, "byHand", "(II)I"⟩, (some .int)),
  (⟨cNm 9, "feedStray", "(I)I"⟩, (some .int)),
  (⟨cNm 9, "train", "(I)I"⟩, (some .int)),
  (⟨cNm 9, "house", "(I)I"⟩, (some .int)),
  (⟨cNm 9, "free", "(I)I"⟩, (some .int)),
  (⟨cNm 9, "offer", "(I)I"⟩, (some .int)),
  (⟨cNm 9, "donate", "(I)I"⟩, (some .int)),
  (⟨cNm 9, "areDays", "(I)Z"⟩, (some .boolean)),
  (⟨cNm 9, "passDays", "(I)I"⟩, (some .int)),
  (⟨cNm 9, "adoptedAfter", "(I)I"⟩, (some .int)),
  (⟨cNm 9, "goneAfter", "(I)I"⟩, (some .int)),
  (⟨cNm 9, "daysUntilGone", "(I)I"⟩, (some .int)),
  (⟨cNm 9, "daysUntilAdopted", "(I)I"⟩, (some .int)),
  (⟨cNm 9, "toFeed", "()I"⟩, (some .int)),
  (⟨cNm 9, "bestToFeed", "()I"⟩, (some .int)),
  (⟨cNm 9, "meanHunger", "()D"⟩, (some .double)),
  (⟨cNm 9, "digest", "()J"⟩, (some .long)),
  (⟨cNm 10, "feed", "(LMarkShelter;IIIII[J)I"⟩, (some .int))]
def mN6 : List (MethodName × Option FieldType) := [
  (⟨cNm 10, "trim", "(LMarkShelter;I[J)I"⟩, (some .int)),
  (⟨cNm 10, "kindOf", "(LMarkShelter;I[J)I"⟩, (some .int)),
  (⟨cNm 10, "dayOf", "(LMarkShelter;I[J)I"⟩, (some .int)),
  (⟨cNm 10, "isHere", "(LMarkShelter;I[J)I"⟩, (some .int)),
  (⟨cNm 10, "isAdopted", "(LMarkShelter;I[J)I"⟩, (some .int)),
  (⟨cNm 10, "isGone", "(LMarkShelter;I[J)I"⟩, (some .int)),
  (⟨cNm 10, "hungerOf", "(LMarkShelter;I[J)I"⟩, (some .int)),
  (⟨cNm 10, "wildnessOf", "(LMarkShelter;I[J)I"⟩, (some .int)),
  (⟨cNm 10, "isHoused", "(LMarkShelter;I[J)I"⟩, (some .int)),
  (⟨cNm 10, "houseOf", "(LMarkShelter;I[J)I"⟩, (some .int)),
  (⟨cNm 10, "isPaired", "(LMarkShelter;I[J)I"⟩, (some .int)),
  (⟨cNm 10, "isReady", "(LMarkShelter;I[J)I"⟩, (some .int)),
  (⟨cNm 10, "straysIn", "(LMarkShelter;I[J)I"⟩, (some .int)),
  (⟨cNm 10, "feedStray", "(LMarkShelter;I[J)I"⟩, (some .int)),
  (⟨cNm 10, "train", "(LMarkShelter;I[J)I"⟩, (some .int)),
  (⟨cNm 10, "house", "(LMarkShelter;I[J)I"⟩, (some .int)),
  (⟨cNm 10, "free", "(LMarkShelter;I[J)I"⟩, (some .int)),
  (⟨cNm 10, "offer", "(LMarkShelter;I[J)I"⟩, (some .int)),
  (⟨cNm 10, "donate", "(LMarkShelter;I[J)I"⟩, (some .int)),
  (⟨cNm 10, "passDays", "(LMarkShelter;I[J)I"⟩, (some .int)),
  (⟨cNm 10, "adoptedAfter", "(LMarkShelter;I[J)I"⟩, (some .int)),
  (⟨cNm 10, "goneAfter", "(LMarkShelter;I[J)I"⟩, (some .int)),
  (⟨cNm 10, "daysUntilGone", "(LMarkShelter;I[J)I"⟩, (some .int)),
  (⟨cNm 10, "daysUntilAdopted", "(LMarkShelter;I[J)I"⟩, (some .int)),
  (⟨cNm 10, "law", "([I)Z"⟩, (some .boolean)),
  (⟨cNm 11, "length", "()I"⟩, (some .int)),
  (⟨cNm 11, "charAt", "(I)C"⟩, (some .char)),
  (⟨cNm 11, "indexOf", "(I)I"⟩, (some .int)),
  (⟨cNm 11, "indexOf", "(II)I"⟩, (some .int)),
  (⟨cNm 11, "coder", "()B"⟩, (some .byte)),
  (⟨cNm 11, "isLatin1", "()Z"⟩, (some .boolean)),
  (⟨cNm 11, "checkIndex", "(II)V"⟩, none),
  (⟨cNm 12, "charAt", "([BI)C"⟩, (some .char)),
  (⟨cNm 12, "canEncode", "(I)Z"⟩, (some .boolean)),
  (⟨cNm 12, "indexOf", "([BIII)I"⟩, (some .int)),
  (⟨cNm 12, "indexOfChar", "([BIII)I"⟩, (some .int)),
  (⟨cNm 13, "checkIndex", "(IILjava/util/function/BiFunction;)I"⟩, (some .int)),
  (⟨cNm 14, "ordinal", "()I"⟩, (some .int))]
def mNc (c : Nat) : List (MethodName × Option FieldType) := match c with
  | 0 => mN0
  | 1 => mN1
  | 2 => mN2
  | 3 => mN3
  | 4 => mN4
  | 5 => mN5
  | 6 => mN6
  | _ => []
def mY (k : Nat) : MethodName := ((mNc (k / 40)).getD (k % 40) (⟨"", "", ""⟩, none)).1
def mRT (k : Nat) : Option FieldType := ((mNc (k / 40)).getD (k % 40) (⟨"", "", ""⟩, none)).2
/-- fields: (class, index of its pool), the kind of the cell, its slot, the sort of value (1 int, 2 long, 4 reference) -/
def fT : List ((Nat × Nat) × (Nat × Nat) × Nat × Nat) := [
  ((0, 9), (0, 0), 0, 1),
  ((0, 15), (0, 0), 1, 1),
  ((0, 18), (0, 0), 2, 1),
  ((0, 21), (0, 0), 3, 4),
  ((0, 25), (0, 0), 4, 4),
  ((0, 28), (0, 0), 5, 1),
  ((0, 33), (0, 0), 6, 4),
  ((0, 37), (0, 0), 7, 1),
  ((0, 40), (0, 0), 8, 4),
  ((0, 46), (0, 0), 9, 4),
  ((0, 50), (0, 0), 10, 4),
  ((0, 53), (0, 0), 11, 4),
  ((0, 61), (0, 2), 0, 4),
  ((0, 64), (0, 2), 1, 1),
  ((0, 67), (0, 2), 2, 1),
  ((0, 70), (0, 2), 3, 1),
  ((1, 9), (0, 1), 0, 1),
  ((1, 18), (0, 1), 1, 4),
  ((1, 25), (0, 1), 2, 4),
  ((1, 29), (0, 1), 3, 1),
  ((1, 32), (0, 1), 4, 1),
  ((1, 41), (0, 1), 5, 4),
  ((1, 44), (0, 1), 6, 1),
  ((1, 47), (0, 1), 7, 2),
  ((1, 91), (0, 0), 0, 1),
  ((1, 104), (0, 0), 1, 1),
  ((1, 117), (0, 0), 2, 1),
  ((1, 134), (0, 0), 5, 1),
  ((1, 137), (0, 0), 7, 1),
  ((1, 234), (0, 5), 3, 1),
  ((1, 237), (0, 5), 0, 4),
  ((1, 241), (0, 5), 1, 4),
  ((1, 244), (0, 5), 2, 4),
  ((2, 13), (0, 2), 0, 4),
  ((2, 18), (0, 2), 1, 1),
  ((2, 22), (0, 2), 2, 1),
  ((2, 25), (0, 2), 3, 1),
  ((3, 9), (0, 3), 0, 1),
  ((3, 15), (0, 3), 1, 1),
  ((3, 18), (0, 3), 2, 1),
  ((3, 21), (0, 3), 3, 1),
  ((3, 24), (0, 3), 4, 1),
  ((3, 29), (0, 3), 5, 4),
  ((3, 34), (0, 0), 2, 1),
  ((3, 37), (0, 0), 0, 1),
  ((3, 38), (0, 0), 1, 1),
  ((3, 39), (0, 0), 3, 4),
  ((3, 43), (0, 0), 4, 4),
  ((3, 57), (0, 4), 2, 1),
  ((3, 60), (0, 4), 5, 1),
  ((3, 67), (0, 4), 0, 1),
  ((3, 96), (0, 4), 3, 1),
  ((3, 105), (0, 4), 4, 1),
  ((3, 126), (0, 0), 5, 1),
  ((3, 129), (0, 0), 6, 4),
  ((3, 141), (0, 2), 0, 4),
  ((3, 161), (0, 2), 1, 1),
  ((3, 170), (0, 4), 1, 1),
  ((4, 9), (0, 4), 0, 1),
  ((4, 15), (0, 4), 1, 1),
  ((4, 18), (0, 4), 2, 1),
  ((4, 21), (0, 4), 3, 1),
  ((4, 24), (0, 4), 4, 1),
  ((4, 27), (0, 4), 5, 1),
  ((5, 11), (0, 5), 0, 4),
  ((5, 17), (0, 5), 1, 4),
  ((5, 21), (0, 5), 2, 4),
  ((5, 25), (0, 5), 3, 1),
  ((5, 29), (0, 5), 4, 4),
  ((5, 33), (0, 5), 5, 1),
  ((5, 36), (0, 5), 6, 1),
  ((5, 85), (10, 0), 0, 4),
  ((6, 9), (0, 6), 0, 4),
  ((6, 16), (0, 6), 1, 4),
  ((6, 23), (0, 6), 2, 4),
  ((6, 27), (0, 6), 3, 4),
  ((6, 33), (0, 6), 4, 4),
  ((6, 37), (0, 6), 5, 1),
  ((6, 41), (0, 6), 6, 1),
  ((6, 64), (0, 1), 0, 1),
  ((6, 73), (0, 3), 0, 1),
  ((6, 76), (0, 3), 1, 1),
  ((6, 79), (0, 3), 2, 1),
  ((6, 82), (0, 3), 3, 1),
  ((6, 85), (0, 3), 4, 1),
  ((6, 100), (0, 4), 0, 1),
  ((6, 105), (0, 4), 1, 1),
  ((6, 108), (0, 4), 2, 1),
  ((6, 114), (0, 4), 3, 1),
  ((6, 117), (0, 4), 4, 1),
  ((6, 120), (0, 4), 5, 1),
  ((6, 133), (0, 3), 5, 4),
  ((7, 9), (0, 7), 0, 1),
  ((7, 15), (0, 7), 1, 1),
  ((7, 18), (0, 7), 3, 4),
  ((7, 22), (0, 7), 4, 4),
  ((7, 25), (0, 7), 7, 4),
  ((7, 28), (0, 7), 8, 4),
  ((7, 31), (0, 7), 9, 4),
  ((7, 34), (0, 7), 10, 4),
  ((7, 37), (0, 7), 11, 4),
  ((7, 40), (0, 7), 13, 4),
  ((8, 3), (0, 8), 7, 4),
  ((8, 15), (0, 8), 3, 4),
  ((8, 19), (0, 8), 4, 4),
  ((8, 22), (0, 8), 5, 4),
  ((8, 25), (0, 8), 6, 4),
  ((8, 34), (0, 8), 0, 1),
  ((8, 38), (0, 8), 1, 1),
  ((8, 41), (0, 8), 2, 1),
  ((8, 48), (0, 9), 11, 4),
  ((8, 52), (0, 7), 1, 1),
  ((8, 58), (0, 7), 2, 1),
  ((8, 61), (0, 7), 4, 4),
  ((8, 66), (0, 7), 3, 4),
  ((8, 69), (0, 7), 0, 1),
  ((8, 115), (0, 7), 9, 4),
  ((8, 118), (0, 7), 10, 4),
  ((8, 121), (0, 7), 11, 4),
  ((8, 124), (0, 9), 13, 4),
  ((8, 134), (0, 7), 5, 1),
  ((8, 140), (0, 7), 7, 4),
  ((8, 143), (0, 7), 8, 4),
  ((9, 9), (0, 9), 1, 4),
  ((9, 13), (0, 9), 3, 1),
  ((9, 17), (0, 9), 4, 4),
  ((9, 20), (0, 9), 5, 4),
  ((9, 23), (0, 9), 6, 4),
  ((9, 26), (0, 9), 7, 4),
  ((9, 29), (0, 9), 8, 4),
  ((9, 35), (0, 9), 11, 4),
  ((9, 39), (0, 9), 12, 4),
  ((9, 42), (0, 9), 13, 4),
  ((9, 50), (0, 9), 14, 4),
  ((9, 54), (0, 9), 15, 4),
  ((9, 60), (0, 9), 0, 1),
  ((9, 76), (0, 9), 2, 1),
  ((9, 115), (0, 9), 9, 1),
  ((9, 124), (0, 7), 11, 4),
  ((9, 127), (0, 7), 12, 1),
  ((9, 143), (0, 7), 6, 1),
  ((9, 146), (0, 7), 9, 4),
  ((9, 152), (0, 7), 10, 4),
  ((9, 165), (0, 9), 10, 1),
  ((9, 168), (0, 7), 13, 4),
  ((9, 171), (0, 7), 14, 1),
  ((9, 212), (0, 7), 2, 1),
  ((9, 219), (0, 7), 3, 4),
  ((9, 222), (0, 7), 4, 4),
  ((9, 225), (0, 7), 5, 1),
  ((9, 228), (0, 7), 7, 4),
  ((9, 234), (0, 7), 8, 4),
  ((9, 246), (0, 7), 0, 1),
  ((9, 252), (0, 7), 1, 1),
  ((9, 273), (0, 8), 0, 1),
  ((9, 274), (0, 8), 1, 1),
  ((9, 276), (0, 8), 2, 1),
  ((9, 293), (0, 8), 3, 4),
  ((9, 296), (0, 8), 4, 4),
  ((9, 303), (0, 8), 5, 4),
  ((9, 306), (0, 8), 6, 4),
  ((11, 9), (11, 0), 0, 4),
  ((11, 15), (11, 0), 1, 1),
  ((14, 7), (10, 0), 1, 1)]
def fWs : List (String × String × Nat) := [
  ("MarkShelter$Book", "", 211),
  ("MarkShelter$Book", "", 214),
  ("MarkShelter$Book", "", 217),
  ("MarkShelter$Book", "", 220),
  ("MarkShelter$Book", "", 222),
  ("MarkShelter$Book", "", 224),
  ("MarkShelter$Book", "", 227),
  ("MarkShelter$Book", "", 229),
  ("MarkShelter$Book", "", 231),
  ("MarkShelter$Book", "", 232),
  ("MarkShelter$Book", "", 233),
  ("MarkShelter$Book", "", 234),
  ("MarkShelter$Order", "", 191),
  ("MarkShelter$Order", "", 194),
  ("MarkShelter$Order", "", 197),
  ("MarkShelter$Order", "", 199),
  ("MarkShelter$BookReader", "", 261),
  ("MarkShelter$BookReader", "", 263),
  ("MarkShelter$BookReader", "", 264),
  ("MarkShelter$BookReader", "", 265),
  ("MarkShelter$BookReader", "", 266),
  ("MarkShelter$BookReader", "", 267),
  ("MarkShelter$BookReader", "", 268),
  ("MarkShelter$BookReader", "", 269),
  ("MarkShelter$Book", "", 213),
  ("MarkShelter$Book", "", 216),
  ("MarkShelter$Book", "", 219),
  ("MarkShelter$Book", "", 225),
  ("MarkShelter$Book", "", 230),
  ("MarkShelter$Tokens", "", 152),
  ("MarkShelter$Tokens", "", 146),
  ("MarkShelter$Tokens", "", 148),
  ("MarkShelter$Tokens", "", 150),
  ("MarkShelter$Order", "", 190),
  ("MarkShelter$Order", "", 193),
  ("MarkShelter$Order", "", 196),
  ("MarkShelter$Order", "", 198),
  ("MarkShelter$Shelter", "", 331),
  ("MarkShelter$Shelter", "", 333),
  ("MarkShelter$Shelter", "", 335),
  ("MarkShelter$Shelter", "", 337),
  ("MarkShelter$Shelter", "", 339),
  ("MarkShelter$Shelter", "", 341),
  ("MarkShelter$Book", "", 218),
  ("MarkShelter$Book", "", 212),
  ("MarkShelter$Book", "", 215),
  ("MarkShelter$Book", "", 221),
  ("MarkShelter$Book", "", 223),
  ("MarkShelter$Stray", "", 307),
  ("MarkShelter$Stray", "", 316),
  ("MarkShelter$Stray", "", 301),
  ("MarkShelter$Stray", "", 310),
  ("MarkShelter$Stray", "", 313),
  ("MarkShelter$Book", "", 226),
  ("MarkShelter$Book", "", 228),
  ("MarkShelter$Order", "", 192),
  ("MarkShelter$Order", "", 195),
  ("MarkShelter$Stray", "", 305),
  ("MarkShelter$Stray", "", 300),
  ("MarkShelter$Stray", "", 303),
  ("MarkShelter$Stray", "", 306),
  ("MarkShelter$Stray", "", 309),
  ("MarkShelter$Stray", "", 312),
  ("MarkShelter$Stray", "", 315),
  ("MarkShelter$Tokens", "", 145),
  ("MarkShelter$Tokens", "", 147),
  ("MarkShelter$Tokens", "", 149),
  ("MarkShelter$Tokens", "", 151),
  ("MarkShelter$Tokens", "", 153),
  ("MarkShelter$Tokens", "", 154),
  ("MarkShelter$Tokens", "", 155),
  ("MarkShelter$Sign", "", 1865),
  ("MarkShelter", "", 358),
  ("MarkShelter", "", 359),
  ("MarkShelter", "", 360),
  ("MarkShelter", "", 361),
  ("MarkShelter", "", 362),
  ("MarkShelter", "", 363),
  ("MarkShelter", "", 364),
  ("MarkShelter$BookReader", "", 262),
  ("MarkShelter$Shelter", "", 332),
  ("MarkShelter$Shelter", "", 334),
  ("MarkShelter$Shelter", "", 336),
  ("MarkShelter$Shelter", "", 338),
  ("MarkShelter$Shelter", "", 340),
  ("MarkShelter$Stray", "", 302),
  ("MarkShelter$Stray", "", 304),
  ("MarkShelter$Stray", "", 308),
  ("MarkShelter$Stray", "", 311),
  ("MarkShelter$Stray", "", 314),
  ("MarkShelter$Stray", "", 317),
  ("MarkShelter$Shelter", "", 342),
  ("MarkShelterModel$Plan", "", 1188),
  ("MarkShelterModel$Plan", "", 1191),
  ("MarkShelterModel$Plan", "", 1196),
  ("MarkShelterModel$Plan", "", 1199),
  ("MarkShelterModel$Plan", "", 1205),
  ("MarkShelterModel$Plan", "", 1208),
  ("MarkShelterModel$Plan", "", 1211),
  ("MarkShelterModel$Plan", "", 1214),
  ("MarkShelterModel$Plan", "", 1217),
  ("MarkShelterModel$Plan", "", 1221),
  ("MarkShelterModel$State", "", 1275),
  ("MarkShelterModel$State", "", 1267),
  ("MarkShelterModel$State", "", 1269),
  ("MarkShelterModel$State", "", 1271),
  ("MarkShelterModel$State", "", 1273),
  ("MarkShelterModel$State", "", 1261),
  ("MarkShelterModel$State", "", 1263),
  ("MarkShelterModel$State", "", 1265),
  ("MarkShelterModel", "MarkShelterModel", 1315),
  ("MarkShelterModel$Plan", "MarkShelterModel", 1192),
  ("MarkShelterModel$Plan", "MarkShelterModel", 1194),
  ("MarkShelterModel$Plan", "MarkShelterModel", 1200),
  ("MarkShelterModel$Plan", "MarkShelterModel", 1197),
  ("MarkShelterModel$Plan", "MarkShelterModel", 1189),
  ("MarkShelterModel$Plan", "MarkShelterModel", 1212),
  ("MarkShelterModel$Plan", "MarkShelterModel", 1215),
  ("MarkShelterModel$Plan", "MarkShelterModel", 1218),
  ("MarkShelterModel", "MarkShelterModel", 1318),
  ("MarkShelterModel$Plan", "MarkShelterModel", 1202),
  ("MarkShelterModel$Plan", "MarkShelterModel", 1206),
  ("MarkShelterModel$Plan", "MarkShelterModel", 1209),
  ("MarkShelterModel", "", 1304),
  ("MarkShelterModel", "", 1306),
  ("MarkShelterModel", "", 1307),
  ("MarkShelterModel", "", 1308),
  ("MarkShelterModel", "", 1309),
  ("MarkShelterModel", "", 1310),
  ("MarkShelterModel", "", 1311),
  ("MarkShelterModel", "", 1314),
  ("MarkShelterModel", "", 1316),
  ("MarkShelterModel", "", 1317),
  ("MarkShelterModel", "", 1319),
  ("MarkShelterModel", "", 1320),
  ("MarkShelterModel", "", 1303),
  ("MarkShelterModel", "", 1305),
  ("MarkShelterModel", "", 1312),
  ("MarkShelterModel$Plan", "MarkShelterModel", 1219),
  ("MarkShelterModel$Plan", "MarkShelterModel", 1220),
  ("MarkShelterModel$Plan", "MarkShelterModel", 1204),
  ("MarkShelterModel$Plan", "MarkShelterModel", 1213),
  ("MarkShelterModel$Plan", "MarkShelterModel", 1216),
  ("MarkShelterModel", "", 1313),
  ("MarkShelterModel$Plan", "MarkShelterModel", 1222),
  ("MarkShelterModel$Plan", "MarkShelterModel", 1223),
  ("MarkShelterModel$Plan", "MarkShelterModel", 1195),
  ("MarkShelterModel$Plan", "MarkShelterModel", 1198),
  ("MarkShelterModel$Plan", "MarkShelterModel", 1201),
  ("MarkShelterModel$Plan", "MarkShelterModel", 1203),
  ("MarkShelterModel$Plan", "MarkShelterModel", 1207),
  ("MarkShelterModel$Plan", "MarkShelterModel", 1210),
  ("MarkShelterModel$Plan", "MarkShelterModel", 1190),
  ("MarkShelterModel$Plan", "MarkShelterModel", 1193),
  ("MarkShelterModel$State", "MarkShelterModel", 1262),
  ("MarkShelterModel$State", "MarkShelterModel", 1264),
  ("MarkShelterModel$State", "MarkShelterModel", 1266),
  ("MarkShelterModel$State", "MarkShelterModel", 1268),
  ("MarkShelterModel$State", "MarkShelterModel", 1270),
  ("MarkShelterModel$State", "MarkShelterModel", 1272),
  ("MarkShelterModel$State", "MarkShelterModel", 1274),
  ("java/lang/String", "", 1866),
  ("java/lang/String", "", 1867),
  ("java/lang/Enum", "", 1868)]
def fR (c i : Nat) : Option ((Nat × Nat) × Nat × Nat) := fT.lookup (c, i)
def sT : List ((Nat × Nat) × Value) := [
  ((0, 57), .ref 45),
  ((0, 90), .ref 52),
  ((0, 99), .ref 24),
  ((1, 35), .ref 46),
  ((1, 65), .ref 2),
  ((1, 81), .ref 0),
  ((1, 94), .ref 33),
  ((1, 101), .ref 1),
  ((1, 107), .ref 44),
  ((1, 120), .ref 3),
  ((1, 127), .ref 8),
  ((1, 144), .ref 14),
  ((1, 157), .ref 26),
  ((1, 167), .ref 25),
  ((1, 170), .ref 52),
  ((1, 183), .ref 24),
  ((1, 186), .ref 32),
  ((1, 198), .ref 35),
  ((1, 201), .ref 36),
  ((1, 207), .ref 37),
  ((1, 210), .ref 38),
  ((1, 213), .ref 20),
  ((1, 216), .ref 48),
  ((1, 219), .ref 30),
  ((1, 225), .ref 29),
  ((1, 228), .ref 34),
  ((1, 231), .ref 45),
  ((1, 248), .ref 47),
  ((1, 251), .ref 9),
  ((1, 254), .ref 10),
  ((1, 257), .ref 11),
  ((1, 260), .ref 12),
  ((1, 263), .ref 13),
  ((1, 266), .ref 39),
  ((1, 269), .ref 40),
  ((1, 272), .ref 41),
  ((1, 275), .ref 42),
  ((1, 278), .ref 43),
  ((2, 7), .ref 9),
  ((3, 78), .ref 52),
  ((5, 39), .ref 46),
  ((5, 50), .ref 47),
  ((5, 82), .ref 49),
  ((5, 98), .ref 44),
  ((5, 103), .ref 45),
  ((6, 149), .ref 9),
  ((6, 159), .ref 10),
  ((6, 162), .ref 11),
  ((6, 165), .ref 12),
  ((6, 168), .ref 13),
  ((8, 63), .ref 51),
  ((9, 100), .ref 50),
  ((11, 38), .int 1),
  ((11, 1053), .float 0)]
def sWs : List (String × String × String × String × Nat) := [
  ("MarkShelter$Sign", "NUMBER", "LMarkShelter$Sign;", "", 209),
  ("MarkShelter$1", "$SwitchMap$MarkShelter$Sign", "[I", "", 762),
  ("MarkShelter$Sign", "NOT", "LMarkShelter$Sign;", "", 787),
  ("MarkShelter$Sign", "END", "LMarkShelter$Sign;", "", 260),
  ("MarkShelter$Sign", "STRAY", "LMarkShelter$Sign;", "", 529),
  ("MarkShelter$Sign", "HOUSES", "LMarkShelter$Sign;", "", 501),
  ("MarkShelter$Sign", "SEMICOLON", "LMarkShelter$Sign;", "", 525),
  ("MarkShelter$Sign", "COINS", "LMarkShelter$Sign;", "", 527),
  ("MarkShelter$Sign", "NAME", "LMarkShelter$Sign;", "", 535),
  ("MarkShelter$Sign", "IS", "LMarkShelter$Sign;", "", 540),
  ("MarkShelter$Sign", "ON", "LMarkShelter$Sign;", "", 553),
  ("MarkShelter$Sign", "WHEN", "LMarkShelter$Sign;", "", 579),
  ("MarkShelter$Sign", "OR", "LMarkShelter$Sign;", "", 654),
  ("MarkShelter$Sign", "AND", "LMarkShelter$Sign;", "", 652),
  ("MarkShelter$1", "$SwitchMap$MarkShelter$Sign", "[I", "", 545),
  ("MarkShelter$Sign", "NOT", "LMarkShelter$Sign;", "", 597),
  ("MarkShelter$Sign", "CLOSE_TEST", "LMarkShelter$Sign;", "", 603),
  ("MarkShelter$Sign", "PLUS", "LMarkShelter$Sign;", "", 635),
  ("MarkShelter$Sign", "MINUS", "LMarkShelter$Sign;", "", 637),
  ("MarkShelter$Sign", "TIMES", "LMarkShelter$Sign;", "", 631),
  ("MarkShelter$Sign", "OVER", "LMarkShelter$Sign;", "", 633),
  ("MarkShelter$Sign", "OF", "LMarkShelter$Sign;", "", 617),
  ("MarkShelter$Sign", "NEGATE", "LMarkShelter$Sign;", "", 619),
  ("MarkShelter$Sign", "CLOSE", "LMarkShelter$Sign;", "", 621),
  ("MarkShelter$Sign", "OPEN", "LMarkShelter$Sign;", "", 627),
  ("MarkShelter$Sign", "SEPARATOR", "LMarkShelter$Sign;", "", 629),
  ("MarkShelter$Sign", "NUMBER", "LMarkShelter$Sign;", "", 511),
  ("MarkShelter$Sign", "BAD", "LMarkShelter$Sign;", "", 524),
  ("MarkShelter$Sign", "FEED", "LMarkShelter$Sign;", "", 562),
  ("MarkShelter$Sign", "TRAIN", "LMarkShelter$Sign;", "", 563),
  ("MarkShelter$Sign", "HOUSE", "LMarkShelter$Sign;", "", 565),
  ("MarkShelter$Sign", "FREE", "LMarkShelter$Sign;", "", 567),
  ("MarkShelter$Sign", "OFFER", "LMarkShelter$Sign;", "", 569),
  ("MarkShelter$Sign", "LESS", "LMarkShelter$Sign;", "", 642),
  ("MarkShelter$Sign", "GREATER", "LMarkShelter$Sign;", "", 644),
  ("MarkShelter$Sign", "EQUAL", "LMarkShelter$Sign;", "", 646),
  ("MarkShelter$Sign", "AT_MOST", "LMarkShelter$Sign;", "", 648),
  ("MarkShelter$Sign", "AT_LEAST", "LMarkShelter$Sign;", "", 650),
  ("MarkShelter$Sign", "FEED", "LMarkShelter$Sign;", "", 188),
  ("MarkShelter$1", "$SwitchMap$MarkShelter$Sign", "[I", "", 768),
  ("MarkShelter$Sign", "END", "LMarkShelter$Sign;", "", 143),
  ("MarkShelter$Sign", "BAD", "LMarkShelter$Sign;", "", 407),
  ("MarkShelter", "SIGNS", "[LMarkShelter$Sign;", "MarkShelter", 423),
  ("MarkShelter$Sign", "NAME", "LMarkShelter$Sign;", "", 477),
  ("MarkShelter$Sign", "NUMBER", "LMarkShelter$Sign;", "", 484),
  ("MarkShelter$Sign", "FEED", "LMarkShelter$Sign;", "", 841),
  ("MarkShelter$Sign", "TRAIN", "LMarkShelter$Sign;", "", 1096),
  ("MarkShelter$Sign", "HOUSE", "LMarkShelter$Sign;", "", 1104),
  ("MarkShelter$Sign", "FREE", "LMarkShelter$Sign;", "", 1112),
  ("MarkShelter$Sign", "OFFER", "LMarkShelter$Sign;", "", 1120),
  ("MarkShelterModel", "WILDNESS", "[I", "MarkShelterModel", 1301),
  ("MarkShelterModel", "WORDS", "[Ljava/lang/String;", "", 1403),
  ("java/lang/String", "COMPACT_STRINGS", "Z", "", 433),
  ("jdk/internal/util/Preconditions", "SIOOBE_FORMATTER", "Ljava/util/function/BiFunction;", "", 453)]
def sR (c i : Nat) : Option Value := sT.lookup (c, i)
/-- methods: (class, index), whose code, how many arguments (the receiver not counted), the sort of call, the kind of the receiver -/
def cT : List ((Nat × Nat) × Nat × Nat × Nat × (Nat × Nat)) := [
  ((0, 3), 0, 0, 9, (0, 0)),
  ((0, 56), 34, 0, 4, (0, 2)),
  ((0, 73), 7, 1, 0, (0, 0)),
  ((0, 77), 54, 2, 2, (0, 3)),
  ((0, 83), 8, 2, 0, (0, 0)),
  ((0, 86), 9, 3, 0, (0, 0)),
  ((0, 95), 277, 0, 5, (10, 0)),
  ((1, 3), 0, 0, 9, (0, 0)),
  ((1, 17), 63, 0, 3, (0, 5)),
  ((1, 24), 0, 0, 3, (0, 0)),
  ((1, 51), 64, 2, 2, (0, 5)),
  ((1, 55), 1, 0, 2, (0, 0)),
  ((1, 58), 28, 1, 2, (0, 1)),
  ((1, 62), 13, 0, 2, (0, 1)),
  ((1, 68), 14, 0, 2, (0, 1)),
  ((1, 71), 31, 1, 0, (0, 0)),
  ((1, 75), 15, 0, 2, (0, 1)),
  ((1, 78), 29, 0, 2, (0, 1)),
  ((1, 84), 27, 0, 2, (0, 1)),
  ((1, 87), 24, 2, 2, (0, 1)),
  ((1, 97), 26, 1, 2, (0, 1)),
  ((1, 110), 2, 1, 2, (0, 0)),
  ((1, 114), 30, 1, 2, (0, 1)),
  ((1, 123), 33, 1, 0, (0, 0)),
  ((1, 130), 3, 3, 2, (0, 0)),
  ((1, 140), 25, 0, 2, (0, 1)),
  ((1, 147), 16, 1, 2, (0, 1)),
  ((1, 150), 4, 3, 2, (0, 0)),
  ((1, 154), 17, 1, 2, (0, 1)),
  ((1, 160), 5, 2, 2, (0, 0)),
  ((1, 164), 18, 1, 2, (0, 1)),
  ((1, 176), 277, 0, 5, (10, 0)),
  ((1, 179), 23, 1, 2, (0, 1)),
  ((1, 189), 19, 1, 2, (0, 1)),
  ((1, 192), 32, 1, 0, (0, 0)),
  ((1, 195), 20, 1, 2, (0, 1)),
  ((1, 204), 21, 1, 2, (0, 1)),
  ((1, 222), 22, 1, 2, (0, 1)),
  ((2, 1), 0, 0, 9, (0, 0)),
  ((3, 3), 0, 0, 9, (0, 0)),
  ((3, 33), 55, 0, 4, (0, 4)),
  ((3, 46), 56, 2, 2, (0, 4)),
  ((3, 50), 53, 0, 2, (0, 3)),
  ((3, 53), 57, 1, 2, (0, 4)),
  ((3, 63), 39, 1, 2, (0, 3)),
  ((3, 70), 58, 0, 2, (0, 4)),
  ((3, 74), 41, 1, 2, (0, 3)),
  ((3, 83), 277, 0, 5, (10, 0)),
  ((3, 89), 40, 0, 2, (0, 3)),
  ((3, 92), 42, 1, 2, (0, 3)),
  ((3, 99), 0, 2, 10, (0, 0)),
  ((3, 108), 60, 1, 2, (0, 4)),
  ((3, 112), 45, 1, 2, (0, 3)),
  ((3, 116), 47, 1, 2, (0, 3)),
  ((3, 119), 46, 1, 2, (0, 3)),
  ((3, 123), 59, 1, 2, (0, 4)),
  ((3, 133), 49, 1, 2, (0, 3)),
  ((3, 137), 6, 2, 2, (0, 0)),
  ((3, 147), 43, 2, 2, (0, 3)),
  ((3, 151), 44, 2, 2, (0, 3)),
  ((3, 155), 50, 0, 2, (0, 3)),
  ((3, 158), 51, 0, 2, (0, 3)),
  ((3, 164), 61, 0, 2, (0, 4)),
  ((3, 167), 52, 1, 2, (0, 3)),
  ((3, 173), 38, 1, 2, (0, 3)),
  ((4, 3), 0, 0, 9, (0, 0)),
  ((4, 30), 62, 1, 0, (0, 0)),
  ((4, 34), 0, 2, 11, (0, 0)),
  ((5, 3), 0, 0, 9, (0, 0)),
  ((5, 43), 65, 0, 2, (0, 5)),
  ((5, 46), 66, 1, 2, (0, 5)),
  ((5, 53), 71, 1, 2, (0, 5)),
  ((5, 57), 72, 1, 0, (0, 0)),
  ((5, 61), 73, 1, 0, (0, 0)),
  ((5, 64), 67, 1, 2, (0, 5)),
  ((5, 67), 74, 1, 0, (0, 0)),
  ((5, 70), 68, 1, 2, (0, 5)),
  ((5, 73), 69, 0, 2, (0, 5)),
  ((5, 77), 75, 1, 0, (0, 0)),
  ((5, 89), 265, 0, 2, (11, 0)),
  ((5, 94), 70, 2, 2, (0, 5)),
  ((5, 106), 266, 1, 2, (11, 0)),
  ((6, 1), 0, 0, 9, (0, 0)),
  ((6, 15), 10, 0, 4, (0, 1)),
  ((6, 22), 35, 0, 3, (0, 3)),
  ((6, 32), 0, 0, 3, (0, 0)),
  ((6, 51), 78, 1, 2, (0, 6)),
  ((6, 60), 12, 2, 2, (0, 1)),
  ((6, 65), 11, 1, 2, (0, 1)),
  ((6, 69), 36, 1, 2, (0, 3)),
  ((6, 88), 38, 1, 2, (0, 3)),
  ((6, 92), 40, 0, 2, (0, 3)),
  ((6, 96), 103, 1, 2, (0, 6)),
  ((6, 111), 104, 1, 2, (0, 6)),
  ((6, 125), 41, 1, 2, (0, 3)),
  ((6, 129), 42, 1, 2, (0, 3)),
  ((6, 146), 39, 1, 2, (0, 3)),
  ((6, 155), 112, 2, 2, (0, 6)),
  ((6, 173), 43, 2, 2, (0, 3)),
  ((6, 179), 44, 2, 2, (0, 3)),
  ((6, 183), 122, 1, 0, (0, 0)),
  ((6, 186), 48, 2, 2, (0, 3)),
  ((6, 190), 123, 2, 2, (0, 6)),
  ((6, 194), 124, 2, 2, (0, 6)),
  ((6, 197), 37, 1, 2, (0, 3)),
  ((6, 205), 118, 0, 2, (0, 6)),
  ((6, 208), 121, 2, 2, (0, 6)),
  ((7, 3), 0, 0, 9, (0, 0)),
  ((8, 9), 0, 0, 9, (0, 0)),
  ((8, 28), 0, 5, 8, (0, 0)),
  ((8, 44), 127, 2, 2, (0, 8)),
  ((8, 55), 130, 0, 2, (0, 8)),
  ((8, 72), 135, 1, 2, (0, 8)),
  ((8, 76), 131, 1, 2, (0, 8)),
  ((8, 79), 137, 1, 2, (0, 8)),
  ((8, 82), 136, 1, 2, (0, 8)),
  ((8, 86), 133, 1, 2, (0, 8)),
  ((8, 89), 139, 1, 2, (0, 8)),
  ((8, 92), 138, 1, 2, (0, 8)),
  ((8, 95), 0, 2, 10, (0, 0)),
  ((8, 101), 0, 2, 11, (0, 0)),
  ((8, 104), 141, 1, 2, (0, 8)),
  ((8, 108), 132, 1, 2, (0, 8)),
  ((8, 111), 134, 0, 2, (0, 8)),
  ((8, 127), 143, 2, 2, (0, 8)),
  ((8, 130), 156, 3, 1, (0, 0)),
  ((8, 137), 144, 1, 2, (0, 8)),
  ((8, 146), 140, 2, 2, (0, 8)),
  ((8, 150), 142, 2, 2, (0, 8)),
  ((8, 153), 145, 0, 2, (0, 8)),
  ((8, 155), 146, 1, 2, (0, 8)),
  ((8, 158), 147, 1, 2, (0, 8)),
  ((8, 161), 148, 1, 2, (0, 8)),
  ((9, 1), 0, 0, 9, (0, 0)),
  ((9, 34), 125, 0, 4, (0, 7)),
  ((9, 47), 126, 1, 4, (0, 8)),
  ((9, 57), 129, 0, 2, (0, 8)),
  ((9, 63), 128, 1, 2, (0, 8)),
  ((9, 67), 0, 2, 11, (0, 0)),
  ((9, 73), 0, 2, 10, (0, 0)),
  ((9, 79), 159, 1, 2, (0, 9)),
  ((9, 83), 157, 1, 0, (0, 0)),
  ((9, 87), 158, 1, 0, (0, 0)),
  ((9, 90), 161, 2, 2, (0, 9)),
  ((9, 95), 267, 1, 2, (11, 0)),
  ((9, 104), 265, 0, 2, (11, 0)),
  ((9, 108), 266, 1, 2, (11, 0)),
  ((9, 112), 160, 2, 2, (0, 9)),
  ((9, 118), 163, 1, 2, (0, 9)),
  ((9, 121), 165, 1, 2, (0, 9)),
  ((9, 128), 167, 2, 2, (0, 9)),
  ((9, 132), 166, 1, 2, (0, 9)),
  ((9, 136), 170, 0, 2, (0, 9)),
  ((9, 140), 171, 0, 2, (0, 9)),
  ((9, 149), 172, 0, 2, (0, 9)),
  ((9, 155), 173, 0, 2, (0, 9)),
  ((9, 158), 168, 1, 2, (0, 9)),
  ((9, 162), 177, 0, 2, (0, 9)),
  ((9, 174), 175, 1, 2, (0, 9)),
  ((9, 177), 174, 0, 2, (0, 9)),
  ((9, 180), 164, 1, 2, (0, 9)),
  ((9, 183), 176, 1, 2, (0, 9)),
  ((9, 186), 178, 0, 2, (0, 9)),
  ((9, 189), 179, 0, 2, (0, 9)),
  ((9, 192), 181, 0, 2, (0, 9)),
  ((9, 195), 182, 1, 2, (0, 9)),
  ((9, 198), 180, 2, 2, (0, 9)),
  ((9, 202), 183, 2, 2, (0, 9)),
  ((9, 205), 184, 2, 2, (0, 9)),
  ((9, 208), 154, 3, 0, (0, 0)),
  ((9, 215), 186, 3, 2, (0, 9)),
  ((9, 231), 185, 2, 2, (0, 9)),
  ((9, 237), 188, 1, 2, (0, 9)),
  ((9, 240), 189, 1, 2, (0, 9)),
  ((9, 243), 190, 1, 2, (0, 9)),
  ((9, 249), 187, 3, 2, (0, 9)),
  ((9, 255), 162, 0, 2, (0, 9)),
  ((9, 258), 169, 0, 2, (0, 9)),
  ((9, 261), 191, 1, 2, (0, 9)),
  ((9, 264), 152, 1, 2, (0, 9)),
  ((9, 267), 192, 0, 2, (0, 9)),
  ((9, 270), 153, 1, 2, (0, 9)),
  ((9, 279), 132, 1, 2, (0, 8)),
  ((9, 281), 134, 0, 2, (0, 8)),
  ((9, 284), 206, 1, 2, (0, 9)),
  ((9, 287), 207, 1, 2, (0, 9)),
  ((9, 290), 131, 1, 2, (0, 8)),
  ((9, 299), 213, 2, 2, (0, 9)),
  ((9, 309), 136, 1, 2, (0, 8)),
  ((9, 312), 138, 1, 2, (0, 8)),
  ((9, 315), 133, 1, 2, (0, 8)),
  ((9, 318), 140, 2, 2, (0, 8)),
  ((9, 321), 142, 2, 2, (0, 8)),
  ((9, 324), 222, 2, 2, (0, 9)),
  ((9, 327), 229, 1, 2, (0, 9)),
  ((9, 330), 148, 1, 2, (0, 8)),
  ((9, 334), 155, 0, 2, (0, 9)),
  ((9, 338), 149, 2, 2, (0, 8)),
  ((9, 341), 235, 0, 2, (0, 9)),
  ((10, 7), 77, 5, 2, (0, 6)),
  ((10, 15), 79, 1, 2, (0, 6)),
  ((10, 21), 91, 1, 2, (0, 6)),
  ((10, 26), 92, 1, 2, (0, 6)),
  ((10, 29), 93, 1, 2, (0, 6)),
  ((10, 33), 94, 1, 2, (0, 6)),
  ((10, 36), 95, 1, 2, (0, 6)),
  ((10, 39), 96, 1, 2, (0, 6)),
  ((10, 42), 97, 1, 2, (0, 6)),
  ((10, 45), 98, 1, 2, (0, 6)),
  ((10, 48), 99, 1, 2, (0, 6)),
  ((10, 51), 100, 1, 2, (0, 6)),
  ((10, 54), 101, 1, 2, (0, 6)),
  ((10, 57), 105, 1, 2, (0, 6)),
  ((10, 60), 106, 1, 2, (0, 6)),
  ((10, 63), 107, 1, 2, (0, 6)),
  ((10, 66), 108, 1, 2, (0, 6)),
  ((10, 69), 109, 1, 2, (0, 6)),
  ((10, 72), 110, 1, 2, (0, 6)),
  ((10, 75), 111, 1, 2, (0, 6)),
  ((10, 78), 113, 1, 2, (0, 6)),
  ((10, 81), 114, 1, 2, (0, 6)),
  ((10, 84), 115, 1, 2, (0, 6)),
  ((10, 87), 116, 1, 2, (0, 6)),
  ((10, 90), 117, 1, 2, (0, 6)),
  ((10, 93), 76, 0, 3, (0, 6)),
  ((10, 96), 150, 0, 3, (0, 9)),
  ((10, 97), 239, 7, 7, (0, 0)),
  ((10, 102), 193, 5, 2, (0, 9)),
  ((10, 103), 151, 0, 2, (0, 9)),
  ((10, 107), 240, 3, 7, (0, 0)),
  ((10, 110), 194, 1, 2, (0, 9)),
  ((10, 111), 80, 0, 2, (0, 6)),
  ((10, 114), 195, 0, 2, (0, 9)),
  ((10, 115), 81, 0, 2, (0, 6)),
  ((10, 118), 196, 0, 2, (0, 9)),
  ((10, 119), 82, 0, 2, (0, 6)),
  ((10, 122), 197, 0, 2, (0, 9)),
  ((10, 123), 83, 0, 2, (0, 6)),
  ((10, 126), 198, 0, 2, (0, 9)),
  ((10, 127), 84, 0, 2, (0, 6)),
  ((10, 130), 199, 0, 2, (0, 9)),
  ((10, 131), 85, 0, 2, (0, 6)),
  ((10, 134), 200, 0, 2, (0, 9)),
  ((10, 135), 86, 0, 2, (0, 6)),
  ((10, 138), 201, 0, 2, (0, 9)),
  ((10, 139), 87, 0, 2, (0, 6)),
  ((10, 142), 202, 0, 2, (0, 9)),
  ((10, 143), 88, 0, 2, (0, 6)),
  ((10, 146), 203, 0, 2, (0, 9)),
  ((10, 147), 89, 0, 2, (0, 6)),
  ((10, 150), 204, 0, 2, (0, 9)),
  ((10, 151), 90, 0, 2, (0, 6)),
  ((10, 154), 205, 0, 2, (0, 9)),
  ((10, 155), 241, 3, 7, (0, 0)),
  ((10, 157), 208, 1, 2, (0, 9)),
  ((10, 158), 242, 3, 7, (0, 0)),
  ((10, 160), 209, 1, 2, (0, 9)),
  ((10, 161), 243, 3, 7, (0, 0)),
  ((10, 163), 210, 1, 2, (0, 9)),
  ((10, 164), 244, 3, 7, (0, 0)),
  ((10, 166), 211, 1, 2, (0, 9)),
  ((10, 167), 245, 3, 7, (0, 0)),
  ((10, 169), 212, 1, 2, (0, 9)),
  ((10, 170), 246, 3, 7, (0, 0)),
  ((10, 172), 214, 1, 2, (0, 9)),
  ((10, 173), 247, 3, 7, (0, 0)),
  ((10, 175), 215, 1, 2, (0, 9)),
  ((10, 176), 248, 3, 7, (0, 0)),
  ((10, 178), 216, 1, 2, (0, 9)),
  ((10, 179), 249, 3, 7, (0, 0)),
  ((10, 181), 217, 1, 2, (0, 9)),
  ((10, 182), 250, 3, 7, (0, 0)),
  ((10, 184), 218, 1, 2, (0, 9)),
  ((10, 185), 251, 3, 7, (0, 0)),
  ((10, 187), 219, 1, 2, (0, 9)),
  ((10, 188), 102, 0, 2, (0, 6)),
  ((10, 191), 220, 0, 2, (0, 9)),
  ((10, 192), 252, 3, 7, (0, 0)),
  ((10, 194), 221, 1, 2, (0, 9)),
  ((10, 195), 253, 3, 7, (0, 0)),
  ((10, 197), 223, 1, 2, (0, 9)),
  ((10, 198), 254, 3, 7, (0, 0)),
  ((10, 200), 224, 1, 2, (0, 9)),
  ((10, 201), 255, 3, 7, (0, 0)),
  ((10, 203), 225, 1, 2, (0, 9)),
  ((10, 204), 256, 3, 7, (0, 0)),
  ((10, 206), 226, 1, 2, (0, 9)),
  ((10, 207), 257, 3, 7, (0, 0)),
  ((10, 209), 227, 1, 2, (0, 9)),
  ((10, 210), 258, 3, 7, (0, 0)),
  ((10, 212), 228, 1, 2, (0, 9)),
  ((10, 213), 259, 3, 7, (0, 0)),
  ((10, 215), 230, 1, 2, (0, 9)),
  ((10, 216), 260, 3, 7, (0, 0)),
  ((10, 218), 231, 1, 2, (0, 9)),
  ((10, 219), 261, 3, 7, (0, 0)),
  ((10, 221), 232, 1, 2, (0, 9)),
  ((10, 222), 262, 3, 7, (0, 0)),
  ((10, 224), 233, 1, 2, (0, 9)),
  ((10, 225), 263, 3, 7, (0, 0)),
  ((10, 227), 234, 1, 2, (0, 9)),
  ((10, 228), 118, 0, 2, (0, 6)),
  ((10, 231), 236, 0, 2, (0, 9)),
  ((10, 232), 119, 0, 2, (0, 6)),
  ((10, 236), 237, 0, 2, (0, 9)),
  ((10, 237), 120, 0, 2, (0, 6)),
  ((10, 241), 238, 0, 2, (0, 9)),
  ((11, 335), 269, 0, 2, (11, 0)),
  ((11, 492), 270, 0, 2, (11, 0)),
  ((11, 495), 272, 2, 0, (0, 0)),
  ((11, 505), 265, 0, 2, (11, 0)),
  ((11, 633), 268, 2, 2, (11, 0)),
  ((11, 637), 274, 4, 0, (0, 0)),
  ((11, 1059), 276, 3, 0, (0, 0)),
  ((12, 9), 271, 2, 0, (0, 0)),
  ((12, 38), 0, 2, 11, (0, 0)),
  ((12, 88), 273, 1, 0, (0, 0)),
  ((12, 92), 0, 2, 10, (0, 0)),
  ((12, 95), 275, 4, 0, (0, 0))]
def cWs : List (String × Nat) := [
  ("", 179),
  ("MarkShelter", 184),
  ("", 759),
  ("", 764),
  ("", 784),
  ("", 788),
  ("", 763),
  ("", 134),
  ("", 137),
  ("", 176),
  ("", 388),
  ("", 489),
  ("", 493),
  ("", 497),
  ("", 531),
  ("", 559),
  ("", 571),
  ("", 520),
  ("", 503),
  ("", 507),
  ("", 516),
  ("", 536),
  ("", 512),
  ("", 542),
  ("", 555),
  ("", 575),
  ("", 581),
  ("", 656),
  ("", 585),
  ("", 599),
  ("", 589),
  ("", 547),
  ("", 593),
  ("", 605),
  ("", 639),
  ("", 609),
  ("", 613),
  ("", 623),
  ("", 187),
  ("", 292),
  ("MarkShelter", 296),
  ("", 668),
  ("", 675),
  ("", 743),
  ("", 727),
  ("", 780),
  ("", 772),
  ("", 769),
  ("", 771),
  ("", 776),
  ("", 799),
  ("", 802),
  ("", 809),
  ("", 817),
  ("", 813),
  ("", 821),
  ("", 751),
  ("", 755),
  ("", 791),
  ("", 795),
  ("", 825),
  ("", 833),
  ("", 829),
  ("", 837),
  ("", 770),
  ("", 299),
  ("", 672),
  ("", 806),
  ("", 140),
  ("", 392),
  ("", 403),
  ("", 396),
  ("", 400),
  ("", 409),
  ("", 412),
  ("", 419),
  ("", 479),
  ("", 485),
  ("", 416),
  ("", 425),
  ("", 435),
  ("", 439),
  ("", 126),
  ("MarkShelter", 131),
  ("", 289),
  ("", 357),
  ("", 937),
  ("", 384),
  ("", 660),
  ("", 664),
  ("", 707),
  ("", 723),
  ("", 973),
  ("", 1028),
  ("", 859),
  ("", 860),
  ("", 861),
  ("", 1084),
  ("", 842),
  ("", 843),
  ("", 1136),
  ("", 747),
  ("", 1147),
  ("", 1165),
  ("", 739),
  ("", 854),
  ("", 855),
  ("", 1187),
  ("", 1260),
  ("", 1826),
  ("", 1822),
  ("", 1297),
  ("", 1692),
  ("", 1708),
  ("", 1704),
  ("", 1709),
  ("", 1738),
  ("", 1734),
  ("", 1739),
  ("", 1744),
  ("", 1745),
  ("", 1746),
  ("", 1794),
  ("", 1795),
  ("", 1790),
  ("MarkShelterModel", 1796),
  ("", 1786),
  ("", 1800),
  ("", 1801),
  ("", 1782),
  ("", 1802),
  ("", 1806),
  ("", 1841),
  ("", 1181),
  ("MarkShelterModel", 1184),
  ("MarkShelterModel", 1257),
  ("", 1293),
  ("", 1818),
  ("", 1491),
  ("", 1799),
  ("", 1385),
  ("", 1393),
  ("", 1396),
  ("", 1399),
  ("", 1408),
  ("", 1405),
  ("", 1406),
  ("", 1389),
  ("", 1471),
  ("", 1467),
  ("", 1475),
  ("", 1479),
  ("", 1483),
  ("", 1487),
  ("", 1492),
  ("", 1496),
  ("", 1508),
  ("", 1500),
  ("", 1520),
  ("", 1504),
  ("", 1512),
  ("", 1516),
  ("", 1524),
  ("", 1528),
  ("", 1532),
  ("", 1536),
  ("", 1540),
  ("", 1560),
  ("", 1556),
  ("", 1370),
  ("", 1552),
  ("", 1572),
  ("", 1548),
  ("", 1564),
  ("", 1568),
  ("", 1576),
  ("", 1381),
  ("", 1463),
  ("", 1544),
  ("", 1362),
  ("", 1377),
  ("", 1584),
  ("", 1612),
  ("", 1628),
  ("", 1640),
  ("", 1636),
  ("", 1652),
  ("", 1668),
  ("", 1688),
  ("", 1700),
  ("", 1718),
  ("", 1730),
  ("", 1740),
  ("", 1726),
  ("", 1774),
  ("", 1778),
  ("", 1814),
  ("", 1837),
  ("", 1850),
  ("", 866),
  ("", 945),
  ("", 969),
  ("", 996),
  ("", 1003),
  ("", 1010),
  ("", 1017),
  ("", 1024),
  ("", 1036),
  ("", 1043),
  ("", 1050),
  ("", 1058),
  ("", 1065),
  ("", 1072),
  ("", 1080),
  ("", 1092),
  ("", 1100),
  ("", 1108),
  ("", 1116),
  ("", 1124),
  ("", 1132),
  ("", 1143),
  ("", 1154),
  ("", 1161),
  ("", 1172),
  ("", 123),
  ("", 1178),
  ("", 862),
  ("", 1358),
  ("", 1354),
  ("", 941),
  ("", 1366),
  ("", 380),
  ("", 1373),
  ("", 679),
  ("", 1580),
  ("", 683),
  ("", 1588),
  ("", 687),
  ("", 1592),
  ("", 691),
  ("", 1596),
  ("", 695),
  ("", 1600),
  ("", 699),
  ("", 1604),
  ("", 703),
  ("", 1608),
  ("", 711),
  ("", 1616),
  ("", 715),
  ("", 1620),
  ("", 719),
  ("", 1624),
  ("", 965),
  ("", 1632),
  ("", 993),
  ("", 1644),
  ("", 1000),
  ("", 1648),
  ("", 1007),
  ("", 1656),
  ("", 1014),
  ("", 1660),
  ("", 1021),
  ("", 1664),
  ("", 1033),
  ("", 1672),
  ("", 1040),
  ("", 1676),
  ("", 1047),
  ("", 1680),
  ("", 1055),
  ("", 1684),
  ("", 1062),
  ("", 1696),
  ("", 731),
  ("", 1710),
  ("", 1069),
  ("", 1714),
  ("", 1077),
  ("", 1722),
  ("", 1089),
  ("", 1750),
  ("", 1097),
  ("", 1754),
  ("", 1105),
  ("", 1758),
  ("", 1113),
  ("", 1762),
  ("", 1121),
  ("", 1766),
  ("", 1129),
  ("", 1770),
  ("", 1140),
  ("", 1810),
  ("", 1151),
  ("", 1829),
  ("", 1158),
  ("", 1833),
  ("", 1169),
  ("", 1842),
  ("", 735),
  ("", 1846),
  ("", 844),
  ("", 1854),
  ("", 848),
  ("", 1858),
  ("", 429),
  ("", 443),
  ("", 447),
  ("", 1416),
  ("", 1412),
  ("", 1417),
  ("", 455),
  ("", 450),
  ("", 1424),
  ("", 1420),
  ("", 1423),
  ("", 1425)]
def cR (c i : Nat) : Option (Nat × Nat × Nat × (Nat × Nat)) := cT.lookup (c, i)
def kT0 : List (Nat × Nat × Nat × Nat × Nat × Nat) := [(0, 3, 100, 178, 177, 0), (1, 2, 100, 492, 490, 491), (2, 2, 100, 539, 537, 538), (3, 2, 100, 558, 556, 557), (4, 2, 100, 659, 657, 658), (5, 2, 100, 602, 600, 601), (6, 2, 100, 758, 756, 757), (7, 0, 100, 761, 760, 0), (8, 0, 100, 786, 785, 0), (9, 0, 100, 790, 789, 0), (10, 4, 96, 133, 132, 0), (11, 2, 96, 663, 661, 662), (12, 2, 96, 387, 385, 386), (13, 2, 96, 500, 499, 8), (14, 2, 96, 534, 533, 14), (15, 2, 96, 574, 573, 15), (16, 2, 96, 584, 583, 17), (17, 2, 96, 588, 587, 18), (18, 2, 96, 592, 591, 19), (19, 2, 96, 608, 607, 21)]
def kT1 : List (Nat × Nat × Nat × Nat × Nat × Nat) := [(20, 2, 96, 612, 611, 22), (21, 2, 96, 616, 615, 23), (22, 2, 96, 626, 625, 24), (23, 2, 96, 596, 595, 20), (24, 2, 96, 510, 509, 10), (25, 2, 96, 578, 577, 16), (26, 2, 96, 519, 518, 12), (27, 2, 96, 506, 505, 9), (28, 2, 96, 496, 495, 7), (29, 2, 96, 523, 522, 13), (30, 2, 96, 515, 514, 11), (31, 0, 96, 561, 560, 0), (32, 0, 96, 641, 640, 0), (33, 0, 96, 544, 543, 0), (34, 4, 101, 186, 185, 0), (35, 3, 102, 291, 290, 0), (36, 2, 102, 667, 665, 666), (37, 2, 102, 742, 740, 741), (38, 2, 102, 710, 708, 709), (39, 2, 102, 730, 728, 729)]
def kT2 : List (Nat × Nat × Nat × Nat × Nat × Nat) := [(40, 2, 102, 726, 724, 725), (41, 2, 102, 775, 773, 774), (42, 2, 102, 779, 777, 778), (43, 2, 102, 794, 792, 793), (44, 2, 102, 798, 796, 797), (45, 2, 102, 812, 811, 27), (46, 2, 102, 816, 815, 28), (47, 2, 102, 820, 819, 29), (48, 2, 102, 750, 748, 749), (49, 2, 102, 754, 753, 26), (50, 2, 102, 828, 827, 30), (51, 2, 102, 836, 835, 31), (52, 2, 102, 840, 839, 32), (53, 2, 102, 678, 677, 25), (54, 2, 102, 767, 765, 766), (55, 4, 103, 298, 297, 0), (56, 2, 103, 671, 669, 670), (57, 2, 103, 746, 744, 745), (58, 2, 103, 783, 781, 782), (59, 2, 103, 824, 822, 823)]
def kT3 : List (Nat × Nat × Nat × Nat × Nat × Nat) := [(60, 2, 103, 805, 803, 804), (61, 2, 103, 832, 830, 831), (62, 0, 103, 674, 673, 0), (63, 3, 97, 139, 138, 0), (64, 2, 97, 391, 389, 390), (65, 2, 97, 395, 394, 0), (66, 2, 97, 406, 405, 2), (67, 2, 97, 415, 414, 3), (68, 2, 97, 482, 481, 5), (69, 2, 97, 488, 487, 6), (70, 2, 97, 438, 437, 4), (71, 2, 97, 399, 398, 1), (72, 0, 97, 402, 401, 0), (73, 0, 97, 411, 410, 0), (74, 0, 97, 421, 420, 0), (75, 0, 97, 418, 417, 0), (76, 3, 95, 125, 124, 0), (77, 2, 95, 869, 867, 868), (78, 2, 95, 940, 939, 35), (79, 2, 95, 948, 946, 947)]
def kT4 : List (Nat × Nat × Nat × Nat × Nat × Nat) := [(80, 2, 95, 383, 381, 382), (81, 2, 95, 682, 680, 681), (82, 2, 95, 686, 684, 685), (83, 2, 95, 690, 688, 689), (84, 2, 95, 694, 692, 693), (85, 2, 95, 698, 696, 697), (86, 2, 95, 702, 700, 701), (87, 2, 95, 706, 704, 705), (88, 2, 95, 714, 712, 713), (89, 2, 95, 718, 716, 717), (90, 2, 95, 722, 720, 721), (91, 2, 95, 972, 970, 971), (92, 2, 95, 999, 997, 998), (93, 2, 95, 1006, 1004, 1005), (94, 2, 95, 1013, 1011, 1012), (95, 2, 95, 1020, 1018, 1019), (96, 2, 95, 1027, 1025, 1026), (97, 2, 95, 1039, 1037, 1038), (98, 2, 95, 1046, 1044, 1045), (99, 2, 95, 1053, 1051, 1052)]
def kT5 : List (Nat × Nat × Nat × Nat × Nat × Nat) := [(100, 2, 95, 1061, 1059, 1060), (101, 2, 95, 1068, 1066, 1067), (102, 2, 95, 734, 732, 733), (103, 2, 95, 976, 975, 36), (104, 2, 95, 1031, 1030, 37), (105, 2, 95, 1075, 1073, 1074), (106, 2, 95, 1083, 1081, 1082), (107, 2, 95, 1095, 1093, 1094), (108, 2, 95, 1103, 1101, 1102), (109, 2, 95, 1111, 1109, 1110), (110, 2, 95, 1119, 1117, 1118), (111, 2, 95, 1127, 1125, 1126), (112, 2, 95, 1087, 1086, 38), (113, 2, 95, 1135, 1133, 1134), (114, 2, 95, 1146, 1144, 1145), (115, 2, 95, 1157, 1155, 1156), (116, 2, 95, 1164, 1162, 1163), (117, 2, 95, 1175, 1173, 1174), (118, 2, 95, 738, 736, 737), (119, 2, 95, 847, 845, 846)]
def kT6 : List (Nat × Nat × Nat × Nat × Nat × Nat) := [(120, 2, 95, 851, 849, 850), (121, 2, 95, 858, 857, 33), (122, 0, 95, 1138, 1137, 0), (123, 2, 95, 1150, 1149, 39), (124, 2, 95, 1168, 1167, 40), (125, 4, 105, 1186, 1185, 0), (126, 4, 106, 1259, 1258, 0), (127, 2, 106, 1825, 1824, 92), (128, 2, 106, 1821, 1819, 1820), (129, 2, 106, 1296, 1294, 1295), (130, 2, 106, 1300, 1299, 41), (131, 2, 106, 1655, 1653, 1654), (132, 2, 106, 1615, 1613, 1614), (133, 2, 106, 1721, 1719, 1720), (134, 2, 106, 1631, 1629, 1630), (135, 2, 106, 1695, 1693, 1694), (136, 2, 106, 1691, 1689, 1690), (137, 2, 106, 1707, 1706, 81), (138, 2, 106, 1703, 1701, 1702), (139, 2, 106, 1737, 1736, 83)]
def kT7 : List (Nat × Nat × Nat × Nat × Nat × Nat) := [(140, 2, 106, 1733, 1731, 1732), (141, 2, 106, 1749, 1748, 84), (142, 2, 106, 1743, 1741, 1742), (143, 2, 106, 1793, 1792, 88), (144, 2, 106, 1789, 1788, 87), (145, 2, 106, 1785, 1784, 86), (146, 2, 106, 1805, 1804, 89), (147, 2, 106, 1809, 1808, 90), (148, 2, 106, 1781, 1779, 1780), (149, 2, 106, 1840, 1838, 1839), (150, 3, 104, 1180, 1179, 0), (151, 2, 104, 1357, 1355, 1356), (152, 2, 104, 1365, 1364, 42), (153, 2, 104, 1587, 1586, 77), (154, 0, 104, 1372, 1371, 0), (155, 2, 104, 1817, 1816, 91), (156, 1, 104, 1798, 1797, 0), (157, 0, 104, 1395, 1394, 0), (158, 0, 104, 1398, 1397, 0), (159, 2, 104, 1388, 1387, 45)]
def kT8 : List (Nat × Nat × Nat × Nat × Nat × Nat) := [(160, 2, 104, 1392, 1391, 46), (161, 2, 104, 1402, 1401, 47), (162, 2, 104, 1384, 1383, 44), (163, 2, 104, 1474, 1473, 50), (164, 2, 104, 1515, 1514, 60), (165, 2, 104, 1470, 1469, 49), (166, 2, 104, 1482, 1481, 52), (167, 2, 104, 1478, 1477, 51), (168, 2, 104, 1511, 1510, 59), (169, 2, 104, 1466, 1465, 48), (170, 2, 104, 1486, 1485, 53), (171, 2, 104, 1490, 1489, 54), (172, 2, 104, 1495, 1494, 55), (173, 2, 104, 1499, 1498, 56), (174, 2, 104, 1507, 1506, 58), (175, 2, 104, 1523, 1522, 62), (176, 2, 104, 1519, 1518, 61), (177, 2, 104, 1503, 1502, 57), (178, 2, 104, 1527, 1526, 63), (179, 2, 104, 1531, 1530, 64)]
def kT9 : List (Nat × Nat × Nat × Nat × Nat × Nat) := [(180, 2, 104, 1543, 1542, 67), (181, 2, 104, 1535, 1534, 65), (182, 2, 104, 1539, 1538, 66), (183, 2, 104, 1563, 1562, 72), (184, 2, 104, 1559, 1558, 71), (185, 2, 104, 1575, 1574, 75), (186, 2, 104, 1555, 1554, 70), (187, 2, 104, 1579, 1578, 76), (188, 2, 104, 1551, 1550, 69), (189, 2, 104, 1567, 1566, 73), (190, 2, 104, 1571, 1570, 74), (191, 2, 104, 1547, 1546, 68), (192, 2, 104, 1380, 1379, 43), (193, 2, 104, 1361, 1359, 1360), (194, 2, 104, 1369, 1367, 1368), (195, 2, 104, 1376, 1374, 1375), (196, 2, 104, 1583, 1581, 1582), (197, 2, 104, 1591, 1589, 1590), (198, 2, 104, 1595, 1593, 1594), (199, 2, 104, 1599, 1597, 1598)]
def kT10 : List (Nat × Nat × Nat × Nat × Nat × Nat) := [(200, 2, 104, 1603, 1601, 1602), (201, 2, 104, 1607, 1605, 1606), (202, 2, 104, 1611, 1609, 1610), (203, 2, 104, 1619, 1617, 1618), (204, 2, 104, 1623, 1621, 1622), (205, 2, 104, 1627, 1625, 1626), (206, 2, 104, 1643, 1642, 79), (207, 2, 104, 1639, 1638, 78), (208, 2, 104, 1635, 1633, 1634), (209, 2, 104, 1647, 1645, 1646), (210, 2, 104, 1651, 1649, 1650), (211, 2, 104, 1659, 1657, 1658), (212, 2, 104, 1663, 1661, 1662), (213, 2, 104, 1671, 1670, 80), (214, 2, 104, 1667, 1665, 1666), (215, 2, 104, 1675, 1673, 1674), (216, 2, 104, 1679, 1677, 1678), (217, 2, 104, 1683, 1681, 1682), (218, 2, 104, 1687, 1685, 1686), (219, 2, 104, 1699, 1697, 1698)]
def kT11 : List (Nat × Nat × Nat × Nat × Nat × Nat) := [(220, 2, 104, 1713, 1711, 1712), (221, 2, 104, 1717, 1715, 1716), (222, 2, 104, 1729, 1728, 82), (223, 2, 104, 1725, 1723, 1724), (224, 2, 104, 1753, 1751, 1752), (225, 2, 104, 1757, 1755, 1756), (226, 2, 104, 1761, 1759, 1760), (227, 2, 104, 1765, 1763, 1764), (228, 2, 104, 1769, 1767, 1768), (229, 2, 104, 1777, 1776, 85), (230, 2, 104, 1773, 1771, 1772), (231, 2, 104, 1813, 1811, 1812), (232, 2, 104, 1832, 1830, 1831), (233, 2, 104, 1836, 1834, 1835), (234, 2, 104, 1845, 1843, 1844), (235, 2, 104, 1853, 1852, 93), (236, 2, 104, 1849, 1847, 1848), (237, 2, 104, 1857, 1855, 1856), (238, 2, 104, 1861, 1859, 1860), (239, 7, 94, 864, 863, 0)]
def kT12 : List (Nat × Nat × Nat × Nat × Nat × Nat) := [(240, 7, 94, 943, 942, 0), (241, 7, 94, 967, 966, 0), (242, 7, 94, 995, 994, 0), (243, 7, 94, 1002, 1001, 0), (244, 7, 94, 1009, 1008, 0), (245, 7, 94, 1016, 1015, 0), (246, 7, 94, 1023, 1022, 0), (247, 7, 94, 1035, 1034, 0), (248, 7, 94, 1042, 1041, 0), (249, 7, 94, 1049, 1048, 0), (250, 7, 94, 1057, 1056, 0), (251, 7, 94, 1064, 1063, 0), (252, 7, 94, 1071, 1070, 0), (253, 7, 94, 1079, 1078, 0), (254, 7, 94, 1091, 1090, 0), (255, 7, 94, 1099, 1098, 0), (256, 7, 94, 1107, 1106, 0), (257, 7, 94, 1115, 1114, 0), (258, 7, 94, 1123, 1122, 0), (259, 7, 94, 1131, 1130, 0)]
def kT13 : List (Nat × Nat × Nat × Nat × Nat × Nat) := [(260, 7, 94, 1142, 1141, 0), (261, 7, 94, 1153, 1152, 0), (262, 7, 94, 1160, 1159, 0), (263, 7, 94, 1171, 1170, 0), (265, 2, 112, 428, 426, 427), (266, 2, 112, 442, 440, 441), (267, 2, 112, 1411, 1409, 1410), (268, 2, 112, 1415, 1413, 1414), (269, 2, 112, 432, 430, 431), (270, 2, 112, 446, 444, 445), (271, 0, 112, 452, 451, 0), (272, 0, 113, 449, 448, 0), (273, 0, 113, 1422, 1421, 0), (274, 0, 113, 1419, 1418, 0), (275, 0, 113, 1427, 1426, 0), (276, 0, 114, 457, 456, 0), (277, 5, 98, 552, 551, 550)]
def kT : List (Nat × Nat × Nat × Nat × Nat × Nat) := kT0 ++ kT1 ++ kT2 ++ kT3 ++ kT4 ++ kT5 ++ kT6 ++ kT7 ++ kT8 ++ kT9 ++ kT10 ++ kT11 ++ kT12 ++ kT13
def nT : List ((Nat × Nat) × Nat × Nat) := [((0, 31), 2, 4), ((1, 15), 5, 7), ((1, 22), 0, 12), ((3, 27), 4, 6), ((6, 13), 1, 8), ((6, 20), 3, 6), ((6, 30), 0, 12), ((9, 32), 7, 15), ((9, 45), 8, 8), ((10, 8), 6, 7), ((10, 94), 9, 16)]
def nWs : List (Nat × Nat) := [(180, 183), (135, 136), (174, 175), (293, 295), (129, 130), (287, 288), (356, 175), (1182, 1183), (1255, 1256), (121, 122), (1176, 1177)]
def nR (c i : Nat) : Option (Nat × Nat) := nT.lookup (c, i)
def lT : List ((Nat × Nat) × Value × Nat) := [((5, 80), .long 37, 422), ((5, 101), .long 10, 483), ((6, 201), .long 1031, 852), ((6, 203), .long 31, 853), ((9, 93), .ref 105, 1407), ((9, 344), .long 1031, 1862), ((9, 346), .long 31, 1863)]
def lR (c i : Nat) : Option Value := (lT.lookup (c, i)).map (fun e => e.1)
def aT : List ((Nat × Nat) × Nat × Nat) := [((0, 31), 6, 180), ((0, 44), 4, 182), ((3, 27), 5, 293), ((5, 9), 4, 141)]
def aR (c i : Nat) : Option Nat := (aT.lookup (c, i)).map (fun e => e.1)
/-- where an exception is thrown: (method, place), which, and the indices of its class, its text and its constructor -/
def tT : List ((Nat × Nat) × Nat × Nat × Nat × Nat) := [((77, 13), 0, 44, 46, 48), ((79, 12), 1, 55, 57, 59), ((99, 14), 0, 44, 123, 48), ((103, 21), 2, 137, 139, 141), ((104, 14), 0, 44, 142, 48), ((105, 15), 2, 137, 144, 141), ((111, 11), 1, 55, 171, 59), ((112, 18), 0, 44, 177, 48), ((122, 11), 1, 55, 212, 59)]
def tR (k pc : Nat) : Option Nat := (tT.lookup (k, pc)).map (fun e => e.1)
/-- the sorts of the fields of the ten classes -/
def fsT : List (List Nat) := [[1, 1, 1, 4, 4, 1, 4, 1, 4, 4, 4, 4], [1, 4, 4, 1, 1, 4, 1, 2], [4, 1, 1, 1], [1, 1, 1, 1, 1, 4], [1, 1, 1, 1, 1, 1], [4, 4, 4, 1, 4, 1, 1], [4, 4, 4, 4, 4, 1, 1], [1, 1, 1, 4, 4, 1, 1, 4, 4, 4, 4, 4, 1, 4, 1], [1, 1, 1, 4, 4, 4, 4, 4], [1, 4, 1, 1, 4, 4, 4, 4, 4, 1, 1, 4, 4, 4, 4, 4]]
def fnum (ci : Nat) : Nat := (fsT.getD ci []).length
def k_len : List Nat := [6, 5, 5, 2, 5, 4, 4, 5, 2, 4, 5, 5, 4, 5, 4, 3, 4, 4, 6, 4, 2, 6, 6, 5, 3, 3, 2, 3, 3, 1, 1, 1, 1, 1, 1, 1, 1, 1, 1, 1, 1, 1, 2, 2, 0, 13]
def k_byt : List (List Int32) := [
  [104, 111, 117, 115, 101, 115],
  [99, 111, 105, 110, 115],
  [115, 116, 114, 97, 121],
  [105, 115],
  [99, 111, 109, 109, 97],
  [100, 97, 115, 104],
  [115, 116, 111, 112],
  [113, 117, 111, 116, 101],
  [111, 110],
  [102, 101, 101, 100],
  [116, 114, 97, 105, 110],
  [104, 111, 117, 115, 101],
  [102, 114, 101, 101],
  [111, 102, 102, 101, 114],
  [119, 104, 101, 110],
  [100, 97, 121],
  [104, 101, 114, 101],
  [114, 111, 111, 109],
  [104, 117, 110, 103, 101, 114],
  [119, 105, 108, 100],
  [111, 102],
  [104, 111, 117, 115, 101, 100],
  [112, 97, 105, 114, 101, 100],
  [114, 101, 97, 100, 121],
  [110, 111, 116],
  [97, 110, 100],
  [111, 114],
  [109, 105, 110],
  [109, 97, 120],
  [40],
  [41],
  [91],
  [93],
  [59],
  [44],
  [43],
  [45],
  [42],
  [47],
  [60],
  [62],
  [61],
  [60, 61],
  [62, 61],
  [],
  [40, 41, 91, 93, 59, 44, 43, 45, 42, 47, 60, 62, 61]]
def k_sign : List String := ["HOUSES", "COINS", "STRAY", "IS", "COMMA", "DASH", "STOP", "QUOTE", "ON", "FEED", "TRAIN", "HOUSE", "FREE", "OFFER", "WHEN", "DAY", "HERE", "ROOM", "HUNGER", "WILD", "OF", "HOUSED", "PAIRED", "READY", "NOT", "AND", "OR", "MIN", "MAX", "OPEN", "CLOSE", "OPEN_TEST", "CLOSE_TEST", "SEMICOLON", "SEPARATOR", "PLUS", "MINUS", "TIMES", "OVER", "LESS", "GREATER", "EQUAL", "AT_MOST", "AT_LEAST", "NAME", "NUMBER", "END", "BAD", "NEGATE"]
/-- the text of each enum constant, as a place among the texts -/
def k_text : List Nat := [0, 1, 2, 3, 4, 5, 6, 7, 8, 9, 10, 11, 12, 13, 14, 15, 16, 17, 18, 19, 20, 21, 22, 23, 24, 25, 26, 27, 28, 29, 30, 31, 32, 33, 34, 35, 36, 37, 38, 39, 40, 41, 42, 43, 44, 44, 44, 44, 44]
def k_switch : List Int32 := [0, 9, 0, 0, 17, 18, 19, 20, 0, 31, 32, 33, 34, 35, 0, 7, 8, 10, 11, 12, 0, 3, 4, 5, 1, 30, 0, 15, 16, 14, 0, 2, 0, 0, 0, 22, 13, 23, 24, 25, 26, 27, 28, 29, 0, 6, 0, 0, 21]
def k_wild : List Int32 := [3, 8, 2, 6]
end
section
/-! THE ABSTRACT MACHINE. Addresses below am_NC are constants (enum constants, static arrays, Strings and their bytes, the script), those from it on are cells made, in their order. A heap: kinds, ints, longs, references, how many cells are there (with the constants), what was counted of cells and slots. -/
abbrev AH : Type := (Nat → Nat × Nat) × (Nat → Nat → Int32) × (Nat → Nat → Int64) × (Nat → Nat → Option Nat) × Nat × Nat × Nat
def am_NC : Nat := 200
def kd (h : AH) (a : Nat) : Nat × Nat := h.1 a
def iv (h : AH) (a j : Nat) : Int32 := h.2.1 a j
def jv (h : AH) (a j : Nat) : Int64 := h.2.2.1 a j
def rv (h : AH) (a j : Nat) : Option Nat := h.2.2.2.1 a j
def nx (h : AH) : Nat := h.2.2.2.2.1
def nc (h : AH) : Nat := h.2.2.2.2.2.1
def ns (h : AH) : Nat := h.2.2.2.2.2.2
def u2 {α : Type} (f : Nat → Nat → α) (a j : Nat) (x : α) : Nat → Nat → α := fun b i => if b = a ∧ i = j then x else f b i
def setI (h : AH) (a j : Nat) (x : Int32) : AH := (h.1, u2 h.2.1 a j x, h.2.2)
def setJ (h : AH) (a j : Nat) (x : Int64) : AH := (h.1, h.2.1, u2 h.2.2.1 a j x, h.2.2.2)
def setR (h : AH) (a j : Nat) (x : Option Nat) : AH := (h.1, h.2.1, h.2.2.1, u2 h.2.2.2.1 a j x, h.2.2.2.2)
/-- a new cell of n slots -/
def mkA (h : AH) (k : Nat × Nat) (n : Nat) : AH := (fun b => if b = nx h then k else h.1 b, fun b i => if b = nx h then 0 else h.2.1 b i, fun b i => if b = nx h then 0 else h.2.2.1 b i, fun b i => if b = nx h then none else h.2.2.2.1 b i, nx h + 1, nc h + 1, ns h + n)
/-- cells that nobody keeps -/
def bump (h : AH) (c n : Nat) : AH := (h.1, h.2.1, h.2.2.1, h.2.2.2.1, nx h, nc h + c, ns h + n)
/-- System.arraycopy of ints -/
def cpyI (h : AH) (a sp b dp n : Nat) : AH := (h.1, fun x i => if x = b ∧ dp ≤ i ∧ i < dp + n then h.2.1 a (sp + (i - dp)) else h.2.1 x i, h.2.2)
/-- an outcome: what is returned, or which exception leaves (0 IllegalState, 1 IllegalArgument, 2 IndexOutOfBounds) -/
abbrev AO : Type := Option Value ⊕ Nat
abbrev AR : Type := Option (AO × AH)
abbrev ALs : Type := List (Option Value)
/-- locals: W are the slots where a long or double may lie -/
def clrW (W : List Nat) (L : ALs) (i : Nat) : ALs := match i with
  | 0 => L
  | j + 1 => if W.contains j then L.set j none else L
def st1 (W : List Nat) (L : ALs) (i : Nat) (v : Option Value) : ALs := (clrW W L i).set i v
def st2 (W : List Nat) (L : ALs) (i : Nat) (v : Value) : ALs := ((clrW W L i).set i (some v)).set (i + 1) none
def ldA (L : ALs) (i : Nat) : Option Value := match L[i]? with
  | some (some v) => some v
  | _ => none
/-- a method's locals at its entry -/
def mkL (W : List Nat) : Nat → List Value → ALs
  | _, [] => []
  | i, .long x :: vs => (if W.contains i then some (.long x) else none) :: none :: mkL W (i + 2) vs
  | i, .double x :: vs => (if W.contains i then some (.double x) else none) :: none :: mkL W (i + 2) vs
  | i, v :: vs => some v :: mkL W (i + 1) vs
def padL (n : Nat) (L : ALs) : ALs := L ++ List.replicate (n - L.length) none
/-- a branch' target -/
def am_tg (pc : Nat) (off : Int) : Option Nat := match (pc : Int) + off with
  | .ofNat t => some t
  | .negSucc _ => none
/-- what ireturn does to an int, by the method's type (1 int, 5 boolean, 6 char, 7 byte) -/
def am_nar (t : Nat) (v : Int32) : Option Int32 := if t = 1 then some v else if t = 5 then (if v = 0 ∨ v = 1 then some v else none) else if t = 6 then (if (v.toUInt32 % 65536).toInt32 = v then some v else none) else if t = 7 then (if v.toInt8.toInt32 = v then some v else none) else none
/-- an index in its row -/
def inR (i : Int32) (n : Nat) : Bool := decide (¬ i < 0) && decide (i.toNatClampNeg < n)
def isRf : Value → Bool
  | .ref _ => true
  | .null => true
  | .float _ => true
  | _ => false
/-- may this method write this field: it isn't final, or it is the class's own constructor -/
def pfOK (k ci j : Nat) : Bool := !((vwCl.getD ci ("", TX1, 0)).2.1 j).2.2.2 || ((mY k).name == "<init>" && ((vwCl.getD ci ("", TX1, 0)).2.1 j).1 == cNm (mC k))
end
section
/-! WHAT THE ABSTRACT MACHINE'S STATES SAY OF THE MACHINE'S. -/
def am_phi (ad : Nat → Nat) (as : List Nat) (n : Nat) : Nat := if n < am_NC then ad n else as.getD (n - am_NC) 0
def am_cv (ad : Nat → Nat) (zz : Value) (as : List Nat) : Value → Value
  | .ref n => .ref (am_phi ad as n)
  | .float _ => zz
  | v => v
def am_fv (ad : Nat → Nat) (as : List Nat) (h : AH) (n ci j : Nat) : Value := match (fsT.getD ci []).getD j 0 with
  | 1 => .int (iv h n j)
  | 2 => .long (jv h n j)
  | _ => va_rf ((rv h n j).map (am_phi ad as))
def am_arr (dA : Nat → ClassId) (ad : Nat → Nat) (as : List Nat) (h : AH) (n t z : Nat) : va_E := match t with
  | 1 => .inl (dA 1, z, .inl (fun i => iv h n i))
  | 2 => .inl (dA 2, z, .inr (.inl (fun i => jv h n i)))
  | 3 => .inl (dA 3, z, .inl (fun i => iv h n i))
  | t => .inl (dA t, z, .inr (.inr (.inr (.inr (fun i => (rv h n i).map (am_phi ad as))))))
def am_ob (dA : Nat → ClassId) (ad : Nat → Nat) (as : List Nat) (h : AH) (n : Nat) : va_E :=
  if (kd h n).1 = 0 then .inr ((kd h n).2, (List.range (fnum (kd h n).2)).map (am_fv ad as h n (kd h n).2)) else am_arr dA ad as h n (kd h n).1 (kd h n).2
def am_ws (dA : Nat → ClassId) (ad : Nat → Nat) (as : List Nat) (h : AH) : va_W := (List.range as.length).map (fun i => (am_phi ad as (am_NC + i), am_ob dA ad as h (am_NC + i)))
/-- what the constants hold -/
def k_kd (L n : Nat) : Nat × Nat := if n < 49 then (10, 0) else if n = 49 then (14, 49) else if n = 50 then (15, 29) else if n = 51 then (12, 4) else if n = 52 then (12, 49) else if n = 53 then (12, L) else if 60 ≤ n ∧ n < 106 then (11, 0) else if 110 ≤ n ∧ n < 156 then (13, k_len.getD (n - 110) 0) else (99, 0)
def k_iv (xs : Nat → Int32) (n j : Nat) : Int32 := if n < 49 then (if j = 1 then nI n else 0) else if n = 51 then k_wild.getD j 0 else if n = 52 then k_switch.getD j 0 else if n = 53 then xs j else if 110 ≤ n ∧ n < 156 then (k_byt.getD (n - 110) []).getD j 0 else 0
def k_rv (n j : Nat) : Option Nat := if n < 49 then (if j = 0 then some (60 + k_text.getD n 0) else none) else if n = 49 then (if j < 49 then some j else none) else if n = 50 then (if j < 29 then some (60 + j) else none) else if 60 ≤ n ∧ n < 106 then (if j = 0 then some (n + 50) else none) else none
def am_h0 (L : Nat) (xs : Nat → Int32) : AH := (k_kd L, k_iv xs, fun _ _ => 0, k_rv, am_NC, 0, 0)
/-- the constants are as they were -/
def am_CA (L : Nat) (xs : Nat → Int32) (h : AH) : Prop := ∀ n, n < am_NC → kd h n = k_kd L n ∧ ∀ j, iv h n j = k_iv xs n j ∧ rv h n j = k_rv n j
/-- references are to cells that are there; a made cell is an object of ours or an array -/
def am_VH (h : AH) : Prop := am_NC ≤ nx h ∧ (∀ a j b, rv h a j = some b → b < nx h) ∧ ∀ n, am_NC ≤ n → n < nx h → (kd h n).1 ≤ 6 ∧ ((kd h n).1 = 0 → (kd h n).2 < 10)
def am_V (n : Nat) : Value → Prop
  | .ref a => a < n
  | _ => True
def am_VS (n : Nat) (st : List Value) : Prop := ∀ v ∈ st, am_V n v
def am_VL (n : Nat) (L : ALs) : Prop := ∀ (i : Nat) (v : Value), L[i]? = some (some v) → am_V n v
/-- locals -/
def am_LR (W : List Nat) (f : Value → Value) (L : ALs) (ls : Array Slot) (nL : Nat) : Prop := ls.size = nL ∧ lv_wf ls ∧ (∀ (i : Nat) (v : Value), L[i]? = some (some v) → ls[i]? = some (.val (f v))) ∧ ∀ (i : Nat) (v : Value), L[i]? = some (some v) → v.category = 2 → i ∈ W
def am_al (f : Value → Value) : Nat → ALs → List (Nat × Value)
  | _, [] => []
  | i, none :: t => am_al f (i + 1) t
  | i, some v :: t => (i, f v) :: am_al f (i + 1) t
theorem am_al_mem {f : Value → Value} : ∀ {L : ALs} {i : Nat} {q : Nat × Value}, q ∈ am_al f i L ↔ ∃ (j : Nat) (v : Value), L[j]? = some (some v) ∧ q = (i + j, f v)
  | [], i, q => by simp [am_al]
  | none :: t, i, q => by
    rw [am_al, am_al_mem]
    constructor
    · rintro ⟨j, v, h1, h2⟩
      exact ⟨j + 1, v, by simpa using h1, by rw [h2]; congr 1; omega⟩
    · rintro ⟨j, v, h1, h2⟩
      cases j with
      | zero => simp at h1
      | succ j => exact ⟨j, v, by simpa using h1, by rw [h2]; congr 1; omega⟩
  | some w :: t, i, q => by
    rw [am_al, List.mem_cons, am_al_mem]
    constructor
    · rintro (h | ⟨j, v, h1, h2⟩)
      · exact ⟨0, w, by simp, by simpa using h⟩
      · exact ⟨j + 1, v, by simpa using h1, by rw [h2]; congr 1; omega⟩
    · rintro ⟨j, v, h1, h2⟩
      cases j with
      | zero =>
        left
        simp at h1
        rw [h2, h1]; rfl
      | succ j => exact Or.inr ⟨j, v, by simpa using h1, by rw [h2]; congr 1; omega⟩
theorem am_LR.has {W : List Nat} {f : Value → Value} {L : ALs} {ls : Array Slot} {nL : Nat} (h : am_LR W f L ls nL) : lv_has ls nL (am_al f 0 L) := by
  refine ⟨h.1, h.2.1, fun q hq => ?_⟩
  obtain ⟨j, v, h1, rfl⟩ := am_al_mem.mp hq
  simpa using h.2.2.1 j v h1
/-- the slots behind a store, out of the kit's list -/
theorem am_clr_get {W : List Nat} {L : ALs} {i j : Nat} {v : Value} (h : (clrW W L i)[j]? = some (some v)) : L[j]? = some (some v) ∧ (j + 1 = i → j ∉ W) := by
  unfold clrW at h
  cases i with
  | zero => exact ⟨h, fun e => by omega⟩
  | succ i =>
    dsimp only at h
    by_cases hc : W.contains i = true
    · rw [if_pos hc, List.getElem?_set] at h
      by_cases e : i = j
      · rw [if_pos e] at h
        split at h <;> simp at h
      · rw [if_neg e] at h
        exact ⟨h, fun q => absurd (by omega) e⟩
    · rw [if_neg hc] at h
      exact ⟨h, fun q hm => hc (by rw [show i = j by omega]; simpa using hm)⟩
theorem am_st1_key {W : List Nat} {L : ALs} {i j : Nat} {ov : Option Value} {v : Value} (hj : (st1 W L i ov)[j]? = some (some v)) : (j = i ∧ ov = some v) ∨ (j ≠ i ∧ L[j]? = some (some v) ∧ (j + 1 = i → j ∉ W)) := by
  unfold st1 at hj
  rw [List.getElem?_set] at hj
  by_cases e : i = j
  · rw [if_pos e] at hj
    left
    split at hj
    · exact ⟨e.symm, by simpa using hj⟩
    · simp at hj
  · rw [if_neg e] at hj
    obtain ⟨a, b⟩ := am_clr_get hj
    exact Or.inr ⟨fun q => e q.symm, a, b⟩
theorem am_st1 {W : List Nat} {f : Value → Value} {L : ALs} {ls ls' : Array Slot} {nL i : Nat} {ov : Option Value} {w : Value} (h : am_LR W f L ls nL) (hc : w.category = 1) (hv : ∀ v, ov = some v → f v = w) (hf : ∀ v, (f v).category = v.category)
    (h' : lv_has ls' nL ((i, w) :: (am_al f 0 L).filter (fun q => !(q.1 == i) && !(q.1 + 1 == i && q.2.category == 2)))) : am_LR W f (st1 W L i ov) ls' nL := by
  refine ⟨h'.1, h'.2.1, fun j v hj => ?_, fun j v hj h2 => ?_⟩
  · rcases am_st1_key hj with ⟨rfl, e⟩ | ⟨e, hl, hw⟩
    · rw [hv v e]
      exact h'.2.2 (j, w) List.mem_cons_self
    · refine h'.2.2 (j, f v) (List.mem_cons_of_mem _ (List.mem_filter.mpr ⟨am_al_mem.mpr ⟨j, v, hl, by simp⟩, ?_⟩))
      have e1 : (j == i) = false := by simpa using e
      dsimp only
      rw [e1]
      by_cases e2 : j + 1 = i
      · have h4 : ¬ (f v).category = 2 := fun q => hw e2 (h.2.2.2 j v hl (by rw [← hf]; exact q))
        simp [e2, h4]
      · have e3 : (j + 1 == i) = false := by simpa using e2
        simp [e3]
  · rcases am_st1_key hj with ⟨rfl, e⟩ | ⟨e, hl, hw⟩
    · have h3 := hf v
      rw [hv v e] at h3
      omega
    · exact h.2.2.2 j v hl h2
theorem am_st2_key {W : List Nat} {L : ALs} {i j : Nat} {x v : Value} (hj : (st2 W L i x)[j]? = some (some v)) : (j = i ∧ x = v) ∨ (j ≠ i ∧ j ≠ i + 1 ∧ L[j]? = some (some v) ∧ (j + 1 = i → j ∉ W)) := by
  unfold st2 at hj
  rw [List.getElem?_set] at hj
  by_cases e : i + 1 = j
  · rw [if_pos e] at hj
    split at hj <;> simp at hj
  · rw [if_neg e] at hj
    rcases am_st1_key (ov := some x) (by unfold st1; exact hj) with ⟨a, b⟩ | ⟨a, b, c⟩
    · exact Or.inl ⟨a, by simpa using b⟩
    · exact Or.inr ⟨a, fun q => e q.symm, b, c⟩
theorem am_st2 {W : List Nat} {f : Value → Value} {L : ALs} {ls ls' : Array Slot} {nL i : Nat} {x w : Value} (h : am_LR W f L ls nL) (hi : i ∈ W) (hv : f x = w) (hf : ∀ v, (f v).category = v.category)
    (h' : lv_has ls' nL ((i, w) :: (am_al f 0 L).filter (fun q => !(q.1 == i) && (!(q.1 == i + 1) && !(q.1 + 1 == i && q.2.category == 2))))) : am_LR W f (st2 W L i x) ls' nL := by
  refine ⟨h'.1, h'.2.1, fun j v hj => ?_, fun j v hj h2 => ?_⟩
  · rcases am_st2_key hj with ⟨rfl, e⟩ | ⟨e, e9, hl, hw⟩
    · rw [← e, hv]
      exact h'.2.2 (j, w) List.mem_cons_self
    · refine h'.2.2 (j, f v) (List.mem_cons_of_mem _ (List.mem_filter.mpr ⟨am_al_mem.mpr ⟨j, v, hl, by simp⟩, ?_⟩))
      have e1 : (j == i) = false := by simpa using e
      have e8 : (j == i + 1) = false := by simpa using e9
      dsimp only
      rw [e1, e8]
      by_cases e2 : j + 1 = i
      · have h4 : ¬ (f v).category = 2 := fun q => hw e2 (h.2.2.2 j v hl (by rw [← hf]; exact q))
        simp [e2, h4]
      · have e3 : (j + 1 == i) = false := by simpa using e2
        simp [e3]
  · rcases am_st2_key hj with ⟨rfl, e⟩ | ⟨e, e9, hl, hw⟩
    · exact hi
    · exact h.2.2.2 j v hl h2
theorem am_ldA {L : ALs} {i : Nat} {v : Value} (h : ldA L i = some v) : L[i]? = some (some v) := by
  unfold ldA at h
  split at h
  · rename_i w hw
    rw [hw]
    simpa using h
  · simp at h
theorem am_VL.ld {n : Nat} {L : ALs} {i : Nat} {v : Value} (h : am_VL n L) (hl : ldA L i = some v) : am_V n v := h i v (am_ldA hl)
theorem am_VL.st1 {n : Nat} {W : List Nat} {L : ALs} {i : Nat} {ov : Option Value} (h : am_VL n L) (hv : ∀ v, ov = some v → am_V n v) : am_VL n (st1 W L i ov) := by
  intro j v hj
  rcases am_st1_key hj with ⟨_, e⟩ | ⟨_, hl, _⟩
  · exact hv v e
  · exact h j v hl
theorem am_VL.st2 {n : Nat} {W : List Nat} {L : ALs} {i : Nat} {x : Value} (h : am_VL n L) (hv : am_V n x) : am_VL n (st2 W L i x) := by
  intro j v hj
  rcases am_st2_key hj with ⟨_, e⟩ | ⟨_, _, hl, _⟩
  · rw [← e]; exact hv
  · exact h j v hl
theorem am_V.mono {n m : Nat} (hnm : n ≤ m) {v : Value} (h : am_V n v) : am_V m v := by
  cases v <;> first | exact trivial | exact Nat.lt_of_lt_of_le h hnm
theorem am_VS.mono {n m : Nat} (hnm : n ≤ m) {st : List Value} (h : am_VS n st) : am_VS m st := fun v hv => (h v hv).mono hnm
theorem am_VL.mono {n m : Nat} (hnm : n ≤ m) {L : ALs} (h : am_VL n L) : am_VL m L := fun i v hv => (h i v hv).mono hnm
theorem am_VS.cons {n : Nat} {v : Value} {st : List Value} (hv : am_V n v) (h : am_VS n st) : am_VS n (v :: st) := fun w hw => (List.mem_cons.mp hw).elim (fun e => e ▸ hv) (h w)
theorem am_VS.tl {n : Nat} {v : Value} {st : List Value} (h : am_VS n (v :: st)) : am_VS n st := fun w hw => h w (List.mem_cons_of_mem _ hw)
theorem am_VS.hd {n : Nat} {v : Value} {st : List Value} (h : am_VS n (v :: st)) : am_V n v := h v List.mem_cons_self
/-- more cells: what was named keeps its place -/
theorem am_phi_app {ad : Nat → Nat} {as : List Nat} {q n : Nat} (h : n < am_NC + as.length) : am_phi ad (as ++ [q]) n = am_phi ad as n := by
  unfold am_phi
  by_cases e : n < am_NC
  · rw [if_pos e, if_pos e]
  · rw [if_neg e, if_neg e, List.getD_eq_getElem?_getD, List.getD_eq_getElem?_getD, List.getElem?_append_left (by omega)]
theorem am_cv_app {ad : Nat → Nat} {zz : Value} {as : List Nat} {q n : Nat} {v : Value} (h : am_V n v) (hn : n ≤ am_NC + as.length) : am_cv ad zz (as ++ [q]) v = am_cv ad zz as v := by
  cases v <;> first | rfl | (show Value.ref _ = Value.ref _; rw [am_phi_app (Nat.lt_of_lt_of_le h hn)])
theorem am_cat {ad : Nat → Nat} {zz : Value} {as : List Nat} (hz : zz.category = 1) (v : Value) : (am_cv ad zz as v).category = v.category := by
  cases v <;> first | rfl | exact hz
end
section
/-! THE TABLES' WORDS, and what else stands in the tables and the constants, and stays. -/
def am_isN : Cond → Bool
  | .fieldLinkNest .. => true
  | .methodLinkNest .. => true
  | .castable .. => true
  | .declares .. => true
  | _ => false
def am_GW : List Cond := lw_tbl.filter goodWord
def am_NW : List Cond := lw_tbl.filter am_isN
def am_tys (dA : Nat → ClassId) : List (ClassId × FieldType) := [(dA 1, .int), (dA 2, .long), (dA 3, .byte), (dA 4, .object "MarkShelter$Sign"), (dA 5, .object "MarkShelter$Stray"), (dA 6, .object "MarkShelter$Order")]
/-- the texts of exceptions: by the throw sites -/
def k_txt : List (String × Nat × String) := [("MarkShelter", 46, "the tape is full"), ("MarkShelter", 57, "not 0 to the bytes of the tape"), ("MarkShelter", 123, "in no house"), ("MarkShelter", 139, "no such stray"), ("MarkShelter", 142, "not here"), ("MarkShelter", 144, "no such house"), ("MarkShelter", 171, "not 1 to 99 coins"), ("MarkShelter", 177, "it cannot be done"), ("MarkShelter", 212, "not 1 to 30 days")]
def am_KV (ad : Nat → Nat) (U : State) : Prop :=
  (∀ w ∈ am_GW, w.before #[] U = true) ∧ (∀ w ∈ am_NW, va_Nw w U) ∧ (va_AO "MarkShelter$Sign" U ∧ va_AO "MarkShelter$Stray" U ∧ va_AO "MarkShelter$Order" U) ∧
  (∀ e ∈ k_txt, ∃ a, vk_R e.1 e.2.1 e.2.2 a U) ∧ vk_R "MarkShelterModel" 93 "()[];,+-*/<>=" (ad 105) U ∧ va_Nc "java/lang/IllegalStateException" "java/lang/IndexOutOfBoundsException" U
theorem am_gw {w : Cond} (hg : goodWord w = true) {args : Array Value} {U : State} (h : w.before #[] U = true) : w.before args U = true := word_at (State.WarmedH.refl U) (good_of_word hg) h
theorem am_gwf {w : Cond} (h : w ∈ am_GW) : goodWord w = true := (List.mem_filter.mp h).2
theorem am_warmD {y : MethodName} {s U : State} (hW : s.WarmedH U.vm) (hZ : va_Nw (.declares y) s) : va_Nw (.declares y) U := va_tabs rfl (rfl : (s.setVm U.vm).vm = U.vm) (by rw [Cond.declares_setVm hW.alike]; exact hZ)
theorem am_nw {w : Cond} (hw : am_isN w = true) {s U : State} (hW : s.WarmedH U.vm) (h : va_Nw w s) : va_Nw w U := by
  cases w <;> first | exact va_Nw.warmF hW h | exact va_Nw.warmM hW h | exact va_Nw.warmC hW h | exact am_warmD hW h | (exact absurd hw Bool.false_ne_true)
theorem am_KV.warm {ad : Nat → Nat} {s U : State} (hW : s.WarmedH U.vm) (h : am_KV ad s) : am_KV ad U := by
  obtain ⟨h1, h2, ⟨h3, h4, h5⟩, h6, h7, h8⟩ := h
  refine ⟨fun w hw => word_at hW (good_of_word (am_gwf hw)) (h1 w hw), fun w hw => am_nw (List.mem_filter.mp hw).2 hW (h2 w hw), ⟨h3.moved hW.alike, h4.moved hW.alike, h5.moved hW.alike⟩, fun e he => ?_, h7.warm hW, h8.moved hW.alike⟩
  obtain ⟨a, ha⟩ := h6 e he
  exact ⟨a, ha.warm hW⟩
/-- the constants, in the tables and the heap -/
def am_CF (ad : Nat → Nat) (zz : Value) (L : Nat) (xs : Nat → Int32) (A : Nat → Prop) (U : State) (H : Heap) : Prop :=
  (∀ i, i < 49 → va_O "MarkShelter$Sign" (ad i) A U H ∧ va_OF "java/lang/Enum" "ordinal" "I" (.int (nI i)) (ad i) A U H ∧ va_OF "MarkShelter$Sign" "text" "Ljava/lang/String;" (.ref (ad (60 + k_text.getD i 0))) (ad i) A U H) ∧
  (∀ i, i < 46 → va_O "java/lang/String" (ad (60 + i)) A U H ∧ va_OF "java/lang/String" "value" "[B" (.ref (ad (110 + i))) (ad (60 + i)) A U H ∧ va_OF "java/lang/String" "coder" "B" (.int 0) (ad (60 + i)) A U H ∧ va_T .byte (ad (110 + i)) (k_len.getD i 0) (fun j => .int ((k_byt.getD i []).getD j 0)) A U H) ∧
  (∀ (i : Nat) (e : (Nat × Nat) × Value) (w : String × String × String × String × Nat), sT[i]? = some e → sWs[i]? = some w → va_Z w.1 w.2.1 w.2.2.1 (am_cv ad zz [] e.2) A U H) ∧
  va_T (.object "MarkShelter$Sign") (ad 49) 49 (fun j => .ref (ad j)) A U H ∧ va_T (.object "java/lang/String") (ad 50) 29 (fun j => .ref (ad (60 + j))) A U H ∧
  va_T .int (ad 51) 4 (fun j => .int (k_wild.getD j 0)) A U H ∧ va_T .int (ad 52) 49 (fun j => .int (k_switch.getD j 0)) A U H ∧ va_T .int (ad 53) L (fun j => .int (xs j)) A U H
theorem am_CF.moved {ad : Nat → Nat} {zz : Value} {L : Nat} {xs : Nat → Int32} {A : Nat → Prop} {u U : State} {H : Heap} (hvm : u.vm.Alike U.vm) (h : am_CF ad zz L xs A u H) : am_CF ad zz L xs A U H := by
  obtain ⟨h1, h2, h3, h4, h5, h6, h7, h8⟩ := h
  exact ⟨fun i hi => ⟨(h1 i hi).1.moved hvm, (h1 i hi).2.1.moved hvm, (h1 i hi).2.2.moved hvm⟩, fun i hi => ⟨(h2 i hi).1.moved hvm, (h2 i hi).2.1.moved hvm, (h2 i hi).2.2.1.moved hvm, (h2 i hi).2.2.2.moved hvm⟩, fun i e w he hw => (h3 i e w he hw).moved hvm, h4.moved hvm, h5.moved hvm, h6.moved hvm, h7.moved hvm, h8.moved hvm⟩
theorem am_CF.kept {ad : Nat → Nat} {zz : Value} {L : Nat} {xs : Nat → Int32} {A : Nat → Prop} {U : State} {H H1 : Heap} (hq : ∀ a : Nat, a < H.size → ¬ A a → H1[a]? = H[a]?) (h : am_CF ad zz L xs A U H) : am_CF ad zz L xs A U H1 := by
  obtain ⟨h1, h2, h3, h4, h5, h6, h7, h8⟩ := h
  exact ⟨fun i hi => ⟨(h1 i hi).1.kept hq, (h1 i hi).2.1.kept hq, (h1 i hi).2.2.kept hq⟩, fun i hi => ⟨(h2 i hi).1.kept hq, (h2 i hi).2.1.kept hq, (h2 i hi).2.2.1.kept hq, (h2 i hi).2.2.2.kept hq⟩, fun i e w he hw => (h3 i e w he hw).kept hq, h4.kept hq, h5.kept hq, h6.kept hq, h7.kept hq, h8.kept hq⟩
/-! the tables' entries, each held to its words -/
/-- word i of the tables -/
def am_wd (i : Nat) (w : Cond) : Bool := decide (lw_tbl[i]? = some w) && goodWord w
theorem am_wd_mem {i : Nat} {w : Cond} (h : am_wd i w = true) : w ∈ am_GW := by
  unfold am_wd at h
  rw [Bool.and_eq_true, decide_eq_true_eq] at h
  exact List.mem_filter.mpr ⟨List.mem_of_getElem? h.1, h.2⟩
def am_wn (i : Nat) (w : Cond) : Bool := decide (lw_tbl[i]? = some w) && am_isN w
theorem am_wn_mem {i : Nat} {w : Cond} (h : am_wn i w = true) : w ∈ am_NW := by
  unfold am_wn at h
  rw [Bool.and_eq_true, decide_eq_true_eq] at h
  exact List.mem_filter.mpr ⟨List.mem_of_getElem? h.1, h.2⟩
theorem am_lays : vwCl.all (fun q => (u_ws q.1 q.2.1 q.2.2).all (fun w => decide (w ∈ lw_tbl) && goodWord w)) = true := by decide +kernel
theorem am_lays_in {ci : Nat} {q : vw_C} (h : vwCl[ci]? = some q) : ∀ w ∈ u_ws q.1 q.2.1 q.2.2, w ∈ am_GW := by
  intro w hw
  have h1 := List.all_eq_true.mp (List.all_eq_true.mp am_lays q (List.mem_of_getElem? h)) w hw
  rw [Bool.and_eq_true, decide_eq_true_eq] at h1
  exact List.mem_filter.mpr h1
end
section
/-! READS AND WRITES of the abstract heap, as the kit's rows see them. -/
theorem k_kd_tag (L n : Nat) : 10 ≤ (k_kd L n).1 := by
  unfold k_kd
  (repeat' split) <;> simp
def am_WS (D : va_G) (dA : Nat → ClassId) (ad : Nat → Nat) (bs L : Nat) (xs : Nat → Int32) (as : List Nat) (h : AH) (H : Heap) : Prop :=
  am_NC + as.length = nx h ∧ va_P D vwCl (am_ws dA ad as h) H ∧ va_D (fun q => bs ≤ q) (am_ws dA ad as h) ∧ am_VH h ∧ am_CA L xs h
theorem am_ws_len {dA : Nat → ClassId} {ad : Nat → Nat} {as : List Nat} {h : AH} : (am_ws dA ad as h).length = as.length := by simp [am_ws]
theorem am_ws_get {dA : Nat → ClassId} {ad : Nat → Nat} {as : List Nat} {h : AH} {i : Nat} (hi : i < as.length) : (am_ws dA ad as h)[i]? = some (am_phi ad as (am_NC + i), am_ob dA ad as h (am_NC + i)) := by
  simp [am_ws, hi]
theorem am_ws_at {dA : Nat → ClassId} {ad : Nat → Nat} {as : List Nat} {h : AH} {a : Nat} (h0 : am_NC ≤ a) (h1 : a < am_NC + as.length) : (am_ws dA ad as h)[a - am_NC]? = some (am_phi ad as a, am_ob dA ad as h a) := by
  rw [am_ws_get (by omega), show am_NC + (a - am_NC) = a by omega]
theorem am_ob_congr {dA : Nat → ClassId} {ad : Nat → Nat} {as : List Nat} {h h' : AH} {n : Nat} (h1 : kd h' n = kd h n) (h2 : ∀ j, iv h' n j = iv h n j) (h3 : ∀ j, jv h' n j = jv h n j) (h4 : ∀ j, rv h' n j = rv h n j) : am_ob dA ad as h' n = am_ob dA ad as h n := by
  have e : ∀ ci j, am_fv ad as h' n ci j = am_fv ad as h n ci j := fun ci j => by unfold am_fv; rw [h2, h3, h4]
  have ef : am_fv ad as h' n = am_fv ad as h n := by
    funext ci j
    exact e ci j
  unfold am_ob am_arr
  rw [h1, ef]
  simp only [h2, h3, h4]
theorem am_ws_set {dA : Nat → ClassId} {ad : Nat → Nat} {as : List Nat} {h h' : AH} {a : Nat} {x : va_E} (h0 : am_NC ≤ a) (h1 : a < am_NC + as.length) (he : am_ob dA ad as h' a = x) (ho : ∀ n, n ≠ a → am_ob dA ad as h' n = am_ob dA ad as h n) : (am_ws dA ad as h).set (a - am_NC) (am_phi ad as a, x) = am_ws dA ad as h' := by
  refine List.ext_getElem? fun i => ?_
  rw [List.getElem?_set, am_ws_len]
  by_cases e : a - am_NC = i
  · rw [if_pos e, if_pos (by omega), ← e, am_ws_at h0 h1, he]
  · rw [if_neg e]
    by_cases hi : i < as.length
    · rw [am_ws_get hi, am_ws_get hi, ho _ (by omega)]
    · rw [List.getElem?_eq_none (by rw [am_ws_len]; omega), List.getElem?_eq_none (by rw [am_ws_len]; omega)]
theorem am_fresh {L : Nat} {xs : Nat → Int32} {h : AH} {a : Nat} (hC : am_CA L xs h) (ht : (kd h a).1 < 10) : am_NC ≤ a := by
  by_cases e : a < am_NC
  · have h1 := (hC a e).1
    have h2 := k_kd_tag L a
    rw [h1] at ht
    omega
  · omega
/-- an object's row among the world's -/
theorem am_obj {D : va_G} {dA : Nat → ClassId} {ad : Nat → Nat} {bs L : Nat} {xs : Nat → Int32} {as : List Nat} {h : AH} {H : Heap} {a ci : Nat} (hW : am_WS D dA ad bs L xs as h H) (ha : a < nx h) (hk : kd h a = (0, ci)) :
    am_NC ≤ a ∧ a < am_NC + as.length ∧ ci < 10 ∧ (am_ws dA ad as h)[a - am_NC]? = some (am_phi ad as a, .inr (ci, (List.range (fnum ci)).map (am_fv ad as h a ci))) := by
  obtain ⟨h1, -, -, hV, hC⟩ := hW
  have h0 := am_fresh hC (a := a) (by simp [hk])
  have h2 : a < am_NC + as.length := by omega
  refine ⟨h0, h2, ?_, ?_⟩
  · have := (hV.2.2 a h0 ha).2 (by rw [hk])
    rwa [hk] at this
  · rw [am_ws_at h0 h2]
    unfold am_ob
    rw [hk]
    rfl
theorem am_arr_at {D : va_G} {dA : Nat → ClassId} {ad : Nat → Nat} {bs L : Nat} {xs : Nat → Int32} {as : List Nat} {h : AH} {H : Heap} {a : Nat} (hW : am_WS D dA ad bs L xs as h H) (ha : a < nx h) (h6 : (kd h a).1 < 10) (h7 : (kd h a).1 ≠ 0) :
    am_NC ≤ a ∧ a < am_NC + as.length ∧ (am_ws dA ad as h)[a - am_NC]? = some (am_phi ad as a, am_arr dA ad as h a (kd h a).1 (kd h a).2) := by
  obtain ⟨h1, -, -, hV, hC⟩ := hW
  have h0 := am_fresh hC h6
  have h2 : a < am_NC + as.length := by omega
  refine ⟨h0, h2, ?_⟩
  rw [am_ws_at h0 h2]
  unfold am_ob
  rw [if_neg h7]
/-! what a write leaves -/
theorem am_CA_set {L : Nat} {xs : Nat → Int32} {h h' : AH} {a : Nat} (hC : am_CA L xs h) (h0 : am_NC ≤ a) (h1 : ∀ n, n ≠ a → kd h' n = kd h n) (h2 : ∀ n j, n ≠ a → iv h' n j = iv h n j) (h3 : ∀ n j, n ≠ a → rv h' n j = rv h n j) : am_CA L xs h' := by
  intro n hn
  have e : n ≠ a := by omega
  rw [h1 n e]
  refine ⟨(hC n hn).1, fun j => ?_⟩
  rw [h2 n j e, h3 n j e]
  exact (hC n hn).2 j
theorem u2_ne {α : Type} {f : Nat → Nat → α} {a j : Nat} {x : α} {n i : Nat} (h : n ≠ a) : u2 f a j x n i = f n i := by unfold u2; rw [if_neg (fun q => h q.1)]
theorem u2_eq {α : Type} {f : Nat → Nat → α} {a j : Nat} {x : α} : u2 f a j x a j = x := by unfold u2; rw [if_pos ⟨rfl, rfl⟩]
theorem u2_ni {α : Type} {f : Nat → Nat → α} {a j : Nat} {x : α} {i : Nat} (h : i ≠ j) : u2 f a j x a i = f a i := by unfold u2; rw [if_neg (fun q => h q.2)]
theorem iv_setI {h : AH} {a j : Nat} {x : Int32} {b i : Nat} : iv (setI h a j x) b i = u2 (iv h) a j x b i := rfl
theorem jv_setJ {h : AH} {a j : Nat} {x : Int64} {b i : Nat} : jv (setJ h a j x) b i = u2 (jv h) a j x b i := rfl
theorem rv_setR {h : AH} {a j : Nat} {x : Option Nat} {b i : Nat} : rv (setR h a j x) b i = u2 (rv h) a j x b i := rfl
/-- the fields of an object with one written -/
theorem am_fv_set {ad : Nat → Nat} {as : List Nat} {h h' : AH} {a ci j : Nat} {v : Value} (hj : j < fnum ci) (h1 : am_fv ad as h' a ci j = v) (h2 : ∀ i, i ≠ j → am_fv ad as h' a ci i = am_fv ad as h a ci i) : ((List.range (fnum ci)).map (am_fv ad as h a ci)).set j v = (List.range (fnum ci)).map (am_fv ad as h' a ci) := by
  refine List.ext_getElem? fun i => ?_
  rw [List.getElem?_set]
  by_cases e : j = i
  · rw [if_pos e]
    subst e
    simp [hj, h1]
  · rw [if_neg e]
    by_cases hi : i < fnum ci
    · simp [hi, h2 i (fun q => e q.symm)]
    · simp [hi]
theorem am_fv_get {ad : Nat → Nat} {as : List Nat} {h : AH} {a ci j : Nat} (hj : j < fnum ci) : ((List.range (fnum ci)).map (am_fv ad as h a ci))[j]? = some (am_fv ad as h a ci j) := by simp [hj]
end
section
/-! A METHOD'S WALK: the context in which it runs, and what it means that the machine goes on from a place as the abstract one does. -/
def am_A (bs : Nat) : Nat → Prop := fun q => bs ≤ q
def am_Cx (l : Launch) (D : va_G) (dA : Nat → ClassId) (ad : Nat → Nat) (zz : Value) (bs Ln : Nat) (xs : Nat → Int32) (d k : Nat) (p : Program) (R : Room) (s : State) (m : MethodId) (args : Array Value) (meth : Method) (c : Code) : Prop :=
  p.tables.exec = Jvm.exec ∧ c.code = mB k ∧ c.maxLocals = mL k ∧ meth.sig.returnType = mRT k ∧ meth.locks = false ∧ s.vm.findClass (cNm (mC k)) = some m.cls ∧ l.stackTraces = false ∧ ((mY k).name = "<init>" → meth.name = "<init>") ∧
  ((mY k).name = "law" ∨ c.exceptionTable.toList = tableOf (mH k)) ∧ (d ≤ R.frames ∧ 40 * d ≤ R.locals) ∧ am_KV ad s ∧ va_K D vwCl (am_tys dA) s ∧ am_CF ad zz Ln xs (am_A bs) s s.heap ∧ (bs ≤ s.heap.size ∧ Ln < 2 ^ 31) ∧ (zz = .null ∨ ∃ a, zz = .ref a) ∧ (∀ i j, i < 49 → j < 49 → ad i = ad j → i = j) ∧ (∀ n, n < am_NC → ad n < bs) ∧ (vx_Zq Bundle.tN "UNASSIGNED_STACK" Bundle.steD (am_A bs) s s.heap ∧ vx_Zq Bundle.tN "SUPPRESSED_SENTINEL" Bundle.listD (am_A bs) s s.heap)
def am_Sim (D : va_G) (dA : Nat → ClassId) (ad : Nat → Nat) (zz : Value) (bs Ln : Nat) (xs : Nat → Int32) (k : Nat) (p : Program) (l : Launch) (e : Env) (R : Room) (s : State) (m : MethodId) (args : Array Value) (below : List Frame) (meth : Method) (c : Code) (as0 : List Nat) (c0 s0 : Nat) (Q : State → Prop) (pc : Nat) (Lo : ALs) (st : List Value) (h : AH) : Prop :=
  ∀ (as : List Nat) (H : Heap) (locs : List Loc) (ls : Array Slot), (∃ t9, as = as0 ++ t9) → am_WS D dA ad bs Ln xs as h H → va_S (am_A bs) s.heap H locs → am_LR (mW k) (am_cv ad zz as) Lo ls (mL k) → am_VL (nx h) Lo → am_VS (nx h) st → c0 ≤ nc h → s0 ≤ ns h →
    W p l e R s m args below meth c H locs (nc h - c0) (ns h - s0) Q (F0 m pc ls (st.map (am_cv ad zz as)))
theorem am_zcat {zz : Value} (h : zz = .null ∨ ∃ a, zz = .ref a) : zz.category = 1 := by
  rcases h with rfl | ⟨a, rfl⟩ <;> rfl
section SIM
variable {l : Launch} {D : va_G} {dA : Nat → ClassId} {ad : Nat → Nat} {zz : Value} {bs Ln : Nat} {xs : Nat → Int32} {d k : Nat} {p : Program} {e : Env} {R : Room} {s : State} {m : MethodId} {args : Array Value} {below : List Frame} {meth : Method} {c : Code} {as0 : List Nat} {c0 s0 : Nat} {Q : State → Prop} {pc : Nat} {Lo : ALs} {st : List Value} {h : AH}
theorem sm_iconst {z : Int} (C : am_Cx l D dA ad zz bs Ln xs d k p R s m args meth c) (hd : decode (mB k) pc = .ok (.iconst z, 1)) (K : am_Sim D dA ad zz bs Ln xs k p l e R s m args below meth c as0 c0 s0 Q (pc + 1) Lo (.int (Int32.ofInt z) :: st) h) : am_Sim D dA ad zz bs Ln xs k p l e R s m args below meth c as0 c0 s0 Q pc Lo st h := by
  obtain ⟨hx, hb, hml, hr, hlk, hown, htr, hnm, hHH, ⟨hfr, hlo⟩, hKV, hK, hCF, ⟨hbs, hLn⟩, hzz, hinj, hadb, hU1, hU2⟩ := C
  intro as H locs ls hX hW hS hL hVL hVS hc hs
  exact lv_iconst hx hb hd rfl (K as H locs ls hX hW hS hL hVL (am_VS.cons trivial (hVS)) hc hs)
theorem sm_bipush {z : Int} (C : am_Cx l D dA ad zz bs Ln xs d k p R s m args meth c) (hd : decode (mB k) pc = .ok (.bipush z, 2)) (K : am_Sim D dA ad zz bs Ln xs k p l e R s m args below meth c as0 c0 s0 Q (pc + 2) Lo (.int (Int8.ofInt z).toInt32 :: st) h) : am_Sim D dA ad zz bs Ln xs k p l e R s m args below meth c as0 c0 s0 Q pc Lo st h := by
  obtain ⟨hx, hb, hml, hr, hlk, hown, htr, hnm, hHH, ⟨hfr, hlo⟩, hKV, hK, hCF, ⟨hbs, hLn⟩, hzz, hinj, hadb, hU1, hU2⟩ := C
  intro as H locs ls hX hW hS hL hVL hVS hc hs
  exact lv_bipush hx hb hd rfl (K as H locs ls hX hW hS hL hVL (am_VS.cons trivial (hVS)) hc hs)
theorem sm_sipush {z : Int} (C : am_Cx l D dA ad zz bs Ln xs d k p R s m args meth c) (hd : decode (mB k) pc = .ok (.sipush z, 3)) (K : am_Sim D dA ad zz bs Ln xs k p l e R s m args below meth c as0 c0 s0 Q (pc + 3) Lo (.int (Int16.ofInt z).toInt32 :: st) h) : am_Sim D dA ad zz bs Ln xs k p l e R s m args below meth c as0 c0 s0 Q pc Lo st h := by
  obtain ⟨hx, hb, hml, hr, hlk, hown, htr, hnm, hHH, ⟨hfr, hlo⟩, hKV, hK, hCF, ⟨hbs, hLn⟩, hzz, hinj, hadb, hU1, hU2⟩ := C
  intro as H locs ls hX hW hS hL hVL hVS hc hs
  exact lv_sipush hx hb hd rfl (K as H locs ls hX hW hS hL hVL (am_VS.cons trivial (hVS)) hc hs)
theorem sm_lconst {z : Fin 2} (C : am_Cx l D dA ad zz bs Ln xs d k p R s m args meth c) (hd : decode (mB k) pc = .ok (.lconst z, 1)) (K : am_Sim D dA ad zz bs Ln xs k p l e R s m args below meth c as0 c0 s0 Q (pc + 1) Lo (.long (Int64.ofNat (z : Nat)) :: st) h) : am_Sim D dA ad zz bs Ln xs k p l e R s m args below meth c as0 c0 s0 Q pc Lo st h := by
  obtain ⟨hx, hb, hml, hr, hlk, hown, htr, hnm, hHH, ⟨hfr, hlo⟩, hKV, hK, hCF, ⟨hbs, hLn⟩, hzz, hinj, hadb, hU1, hU2⟩ := C
  intro as H locs ls hX hW hS hL hVL hVS hc hs
  exact lv_lconst hx hb hd rfl (K as H locs ls hX hW hS hL hVL (am_VS.cons trivial (hVS)) hc hs)
theorem sm_dconst0 (C : am_Cx l D dA ad zz bs Ln xs d k p R s m args meth c) (hd : decode (mB k) pc = .ok (.dconst 0, 1)) (K : am_Sim D dA ad zz bs Ln xs k p l e R s m args below meth c as0 c0 s0 Q (pc + 1) Lo (.double 0 :: st) h) : am_Sim D dA ad zz bs Ln xs k p l e R s m args below meth c as0 c0 s0 Q pc Lo st h := by
  obtain ⟨hx, hb, hml, hr, hlk, hown, htr, hnm, hHH, ⟨hfr, hlo⟩, hKV, hK, hCF, ⟨hbs, hLn⟩, hzz, hinj, hadb, hU1, hU2⟩ := C
  intro as H locs ls hX hW hS hL hVL hVS hc hs
  exact lv_dconst0 hx hb hd (K as H locs ls hX hW hS hL hVL (am_VS.cons trivial (hVS)) hc hs)
theorem sm_null (C : am_Cx l D dA ad zz bs Ln xs d k p R s m args meth c) (hd : decode (mB k) pc = .ok (.aconst_null, 1)) (K : am_Sim D dA ad zz bs Ln xs k p l e R s m args below meth c as0 c0 s0 Q (pc + 1) Lo (.null :: st) h) : am_Sim D dA ad zz bs Ln xs k p l e R s m args below meth c as0 c0 s0 Q pc Lo st h := by
  obtain ⟨hx, hb, hml, hr, hlk, hown, htr, hnm, hHH, ⟨hfr, hlo⟩, hKV, hK, hCF, ⟨hbs, hLn⟩, hzz, hinj, hadb, hU1, hU2⟩ := C
  intro as H locs ls hX hW hS hL hVL hVS hc hs
  exact lv_null hx hb hd (K as H locs ls hX hW hS hL hVL (am_VS.cons trivial (hVS)) hc hs)
theorem sm_iadd {x y : Int32} (C : am_Cx l D dA ad zz bs Ln xs d k p R s m args meth c) (hd : decode (mB k) pc = .ok (.iadd, 1)) (K : am_Sim D dA ad zz bs Ln xs k p l e R s m args below meth c as0 c0 s0 Q (pc + 1) Lo (.int (x + y) :: st) h) : am_Sim D dA ad zz bs Ln xs k p l e R s m args below meth c as0 c0 s0 Q pc Lo (.int y :: .int x :: st) h := by
  obtain ⟨hx, hb, hml, hr, hlk, hown, htr, hnm, hHH, ⟨hfr, hlo⟩, hKV, hK, hCF, ⟨hbs, hLn⟩, hzz, hinj, hadb, hU1, hU2⟩ := C
  intro as H locs ls hX hW hS hL hVL hVS hc hs
  exact lv_iadd hx hb hd (K as H locs ls hX hW hS hL hVL (am_VS.cons trivial (hVS.tl.tl)) hc hs)
theorem sm_isub {x y : Int32} (C : am_Cx l D dA ad zz bs Ln xs d k p R s m args meth c) (hd : decode (mB k) pc = .ok (.isub, 1)) (K : am_Sim D dA ad zz bs Ln xs k p l e R s m args below meth c as0 c0 s0 Q (pc + 1) Lo (.int (x - y) :: st) h) : am_Sim D dA ad zz bs Ln xs k p l e R s m args below meth c as0 c0 s0 Q pc Lo (.int y :: .int x :: st) h := by
  obtain ⟨hx, hb, hml, hr, hlk, hown, htr, hnm, hHH, ⟨hfr, hlo⟩, hKV, hK, hCF, ⟨hbs, hLn⟩, hzz, hinj, hadb, hU1, hU2⟩ := C
  intro as H locs ls hX hW hS hL hVL hVS hc hs
  exact lv_isub hx hb hd (K as H locs ls hX hW hS hL hVL (am_VS.cons trivial (hVS.tl.tl)) hc hs)
theorem sm_imul {x y : Int32} (C : am_Cx l D dA ad zz bs Ln xs d k p R s m args meth c) (hd : decode (mB k) pc = .ok (.imul, 1)) (K : am_Sim D dA ad zz bs Ln xs k p l e R s m args below meth c as0 c0 s0 Q (pc + 1) Lo (.int (x * y) :: st) h) : am_Sim D dA ad zz bs Ln xs k p l e R s m args below meth c as0 c0 s0 Q pc Lo (.int y :: .int x :: st) h := by
  obtain ⟨hx, hb, hml, hr, hlk, hown, htr, hnm, hHH, ⟨hfr, hlo⟩, hKV, hK, hCF, ⟨hbs, hLn⟩, hzz, hinj, hadb, hU1, hU2⟩ := C
  intro as H locs ls hX hW hS hL hVL hVS hc hs
  exact lv_imul hx hb hd (K as H locs ls hX hW hS hL hVL (am_VS.cons trivial (hVS.tl.tl)) hc hs)
theorem sm_iand {x y : Int32} (C : am_Cx l D dA ad zz bs Ln xs d k p R s m args meth c) (hd : decode (mB k) pc = .ok (.iand, 1)) (K : am_Sim D dA ad zz bs Ln xs k p l e R s m args below meth c as0 c0 s0 Q (pc + 1) Lo (.int (x &&& y) :: st) h) : am_Sim D dA ad zz bs Ln xs k p l e R s m args below meth c as0 c0 s0 Q pc Lo (.int y :: .int x :: st) h := by
  obtain ⟨hx, hb, hml, hr, hlk, hown, htr, hnm, hHH, ⟨hfr, hlo⟩, hKV, hK, hCF, ⟨hbs, hLn⟩, hzz, hinj, hadb, hU1, hU2⟩ := C
  intro as H locs ls hX hW hS hL hVL hVS hc hs
  exact lv_iand hx hb hd (K as H locs ls hX hW hS hL hVL (am_VS.cons trivial (hVS.tl.tl)) hc hs)
theorem sm_ior {x y : Int32} (C : am_Cx l D dA ad zz bs Ln xs d k p R s m args meth c) (hd : decode (mB k) pc = .ok (.ior, 1)) (K : am_Sim D dA ad zz bs Ln xs k p l e R s m args below meth c as0 c0 s0 Q (pc + 1) Lo (.int (x ||| y) :: st) h) : am_Sim D dA ad zz bs Ln xs k p l e R s m args below meth c as0 c0 s0 Q pc Lo (.int y :: .int x :: st) h := by
  obtain ⟨hx, hb, hml, hr, hlk, hown, htr, hnm, hHH, ⟨hfr, hlo⟩, hKV, hK, hCF, ⟨hbs, hLn⟩, hzz, hinj, hadb, hU1, hU2⟩ := C
  intro as H locs ls hX hW hS hL hVL hVS hc hs
  exact lv_ior hx hb hd (K as H locs ls hX hW hS hL hVL (am_VS.cons trivial (hVS.tl.tl)) hc hs)
theorem sm_ishr {x y : Int32} (C : am_Cx l D dA ad zz bs Ln xs d k p R s m args meth c) (hd : decode (mB k) pc = .ok (.ishr, 1)) (K : am_Sim D dA ad zz bs Ln xs k p l e R s m args below meth c as0 c0 s0 Q (pc + 1) Lo (.int (x >>> (y &&& 31)) :: st) h) : am_Sim D dA ad zz bs Ln xs k p l e R s m args below meth c as0 c0 s0 Q pc Lo (.int y :: .int x :: st) h := by
  obtain ⟨hx, hb, hml, hr, hlk, hown, htr, hnm, hHH, ⟨hfr, hlo⟩, hKV, hK, hCF, ⟨hbs, hLn⟩, hzz, hinj, hadb, hU1, hU2⟩ := C
  intro as H locs ls hX hW hS hL hVL hVS hc hs
  exact lv_ishr hx hb hd (K as H locs ls hX hW hS hL hVL (am_VS.cons trivial (hVS.tl.tl)) hc hs)
theorem sm_iushr {x y : Int32} (C : am_Cx l D dA ad zz bs Ln xs d k p R s m args meth c) (hd : decode (mB k) pc = .ok (.iushr, 1)) (K : am_Sim D dA ad zz bs Ln xs k p l e R s m args below meth c as0 c0 s0 Q (pc + 1) Lo (.int (x.toUInt32 >>> (y.toUInt32 &&& Int32.toUInt32 31)).toInt32 :: st) h) : am_Sim D dA ad zz bs Ln xs k p l e R s m args below meth c as0 c0 s0 Q pc Lo (.int y :: .int x :: st) h := by
  obtain ⟨hx, hb, hml, hr, hlk, hown, htr, hnm, hHH, ⟨hfr, hlo⟩, hKV, hK, hCF, ⟨hbs, hLn⟩, hzz, hinj, hadb, hU1, hU2⟩ := C
  intro as H locs ls hX hW hS hL hVL hVS hc hs
  exact lv_iushr hx hb hd rfl (K as H locs ls hX hW hS hL hVL (am_VS.cons trivial (hVS.tl.tl)) hc hs)
theorem sm_idiv {x y : Int32} (C : am_Cx l D dA ad zz bs Ln xs d k p R s m args meth c) (hd : decode (mB k) pc = .ok (.idiv, 1)) (hy : ¬ y = 0) (K : am_Sim D dA ad zz bs Ln xs k p l e R s m args below meth c as0 c0 s0 Q (pc + 1) Lo (.int (x / y) :: st) h) : am_Sim D dA ad zz bs Ln xs k p l e R s m args below meth c as0 c0 s0 Q pc Lo (.int y :: .int x :: st) h := by
  obtain ⟨hx, hb, hml, hr, hlk, hown, htr, hnm, hHH, ⟨hfr, hlo⟩, hKV, hK, hCF, ⟨hbs, hLn⟩, hzz, hinj, hadb, hU1, hU2⟩ := C
  intro as H locs ls hX hW hS hL hVL hVS hc hs
  exact lv_idiv hx hb hd hy (K as H locs ls hX hW hS hL hVL (am_VS.cons trivial (hVS.tl.tl)) hc hs)
theorem sm_irem {x y : Int32} (C : am_Cx l D dA ad zz bs Ln xs d k p R s m args meth c) (hd : decode (mB k) pc = .ok (.irem, 1)) (hy : ¬ y = 0) (K : am_Sim D dA ad zz bs Ln xs k p l e R s m args below meth c as0 c0 s0 Q (pc + 1) Lo (.int (x - x / y * y) :: st) h) : am_Sim D dA ad zz bs Ln xs k p l e R s m args below meth c as0 c0 s0 Q pc Lo (.int y :: .int x :: st) h := by
  obtain ⟨hx, hb, hml, hr, hlk, hown, htr, hnm, hHH, ⟨hfr, hlo⟩, hKV, hK, hCF, ⟨hbs, hLn⟩, hzz, hinj, hadb, hU1, hU2⟩ := C
  intro as H locs ls hX hW hS hL hVL hVS hc hs
  exact lv_irem hx hb hd hy (K as H locs ls hX hW hS hL hVL (am_VS.cons trivial (hVS.tl.tl)) hc hs)
theorem sm_ineg {x : Int32} (C : am_Cx l D dA ad zz bs Ln xs d k p R s m args meth c) (hd : decode (mB k) pc = .ok (.ineg, 1)) (K : am_Sim D dA ad zz bs Ln xs k p l e R s m args below meth c as0 c0 s0 Q (pc + 1) Lo (.int (-x) :: st) h) : am_Sim D dA ad zz bs Ln xs k p l e R s m args below meth c as0 c0 s0 Q pc Lo (.int x :: st) h := by
  obtain ⟨hx, hb, hml, hr, hlk, hown, htr, hnm, hHH, ⟨hfr, hlo⟩, hKV, hK, hCF, ⟨hbs, hLn⟩, hzz, hinj, hadb, hU1, hU2⟩ := C
  intro as H locs ls hX hW hS hL hVL hVS hc hs
  exact lv_ineg hx hb hd (K as H locs ls hX hW hS hL hVL (am_VS.cons trivial (hVS.tl)) hc hs)
theorem sm_ladd {x y : Int64} (C : am_Cx l D dA ad zz bs Ln xs d k p R s m args meth c) (hd : decode (mB k) pc = .ok (.ladd, 1)) (K : am_Sim D dA ad zz bs Ln xs k p l e R s m args below meth c as0 c0 s0 Q (pc + 1) Lo (.long (x + y) :: st) h) : am_Sim D dA ad zz bs Ln xs k p l e R s m args below meth c as0 c0 s0 Q pc Lo (.long y :: .long x :: st) h := by
  obtain ⟨hx, hb, hml, hr, hlk, hown, htr, hnm, hHH, ⟨hfr, hlo⟩, hKV, hK, hCF, ⟨hbs, hLn⟩, hzz, hinj, hadb, hU1, hU2⟩ := C
  intro as H locs ls hX hW hS hL hVL hVS hc hs
  exact lv_ladd hx hb hd (K as H locs ls hX hW hS hL hVL (am_VS.cons trivial (hVS.tl.tl)) hc hs)
theorem sm_lmul {x y : Int64} (C : am_Cx l D dA ad zz bs Ln xs d k p R s m args meth c) (hd : decode (mB k) pc = .ok (.lmul, 1)) (K : am_Sim D dA ad zz bs Ln xs k p l e R s m args below meth c as0 c0 s0 Q (pc + 1) Lo (.long (x * y) :: st) h) : am_Sim D dA ad zz bs Ln xs k p l e R s m args below meth c as0 c0 s0 Q pc Lo (.long y :: .long x :: st) h := by
  obtain ⟨hx, hb, hml, hr, hlk, hown, htr, hnm, hHH, ⟨hfr, hlo⟩, hKV, hK, hCF, ⟨hbs, hLn⟩, hzz, hinj, hadb, hU1, hU2⟩ := C
  intro as H locs ls hX hW hS hL hVL hVS hc hs
  exact lv_lmul hx hb hd (K as H locs ls hX hW hS hL hVL (am_VS.cons trivial (hVS.tl.tl)) hc hs)
theorem sm_lcmp {x y : Int64} (C : am_Cx l D dA ad zz bs Ln xs d k p R s m args meth c) (hd : decode (mB k) pc = .ok (.lcmp, 1)) (K : am_Sim D dA ad zz bs Ln xs k p l e R s m args below meth c as0 c0 s0 Q (pc + 1) Lo (.int (lg_cmp x y) :: st) h) : am_Sim D dA ad zz bs Ln xs k p l e R s m args below meth c as0 c0 s0 Q pc Lo (.long y :: .long x :: st) h := by
  obtain ⟨hx, hb, hml, hr, hlk, hown, htr, hnm, hHH, ⟨hfr, hlo⟩, hKV, hK, hCF, ⟨hbs, hLn⟩, hzz, hinj, hadb, hU1, hU2⟩ := C
  intro as H locs ls hX hW hS hL hVL hVS hc hs
  exact W.lcmp hx hb hd (K as H locs ls hX hW hS hL hVL (am_VS.cons trivial (hVS.tl.tl)) hc hs)
theorem sm_i2l {x : Int32} (C : am_Cx l D dA ad zz bs Ln xs d k p R s m args meth c) (hd : decode (mB k) pc = .ok (.i2l, 1)) (K : am_Sim D dA ad zz bs Ln xs k p l e R s m args below meth c as0 c0 s0 Q (pc + 1) Lo (.long x.toInt64 :: st) h) : am_Sim D dA ad zz bs Ln xs k p l e R s m args below meth c as0 c0 s0 Q pc Lo (.int x :: st) h := by
  obtain ⟨hx, hb, hml, hr, hlk, hown, htr, hnm, hHH, ⟨hfr, hlo⟩, hKV, hK, hCF, ⟨hbs, hLn⟩, hzz, hinj, hadb, hU1, hU2⟩ := C
  intro as H locs ls hX hW hS hL hVL hVS hc hs
  exact lv_i2l hx hb hd rfl (K as H locs ls hX hW hS hL hVL (am_VS.cons trivial (hVS.tl)) hc hs)
theorem sm_l2i {x : Int64} (C : am_Cx l D dA ad zz bs Ln xs d k p R s m args meth c) (hd : decode (mB k) pc = .ok (.l2i, 1)) (K : am_Sim D dA ad zz bs Ln xs k p l e R s m args below meth c as0 c0 s0 Q (pc + 1) Lo (.int x.toInt32 :: st) h) : am_Sim D dA ad zz bs Ln xs k p l e R s m args below meth c as0 c0 s0 Q pc Lo (.long x :: st) h := by
  obtain ⟨hx, hb, hml, hr, hlk, hown, htr, hnm, hHH, ⟨hfr, hlo⟩, hKV, hK, hCF, ⟨hbs, hLn⟩, hzz, hinj, hadb, hU1, hU2⟩ := C
  intro as H locs ls hX hW hS hL hVL hVS hc hs
  exact lv_l2i hx hb hd rfl (K as H locs ls hX hW hS hL hVL (am_VS.cons trivial (hVS.tl)) hc hs)
theorem sm_i2b {x : Int32} (C : am_Cx l D dA ad zz bs Ln xs d k p R s m args meth c) (hd : decode (mB k) pc = .ok (.i2b, 1)) (K : am_Sim D dA ad zz bs Ln xs k p l e R s m args below meth c as0 c0 s0 Q (pc + 1) Lo (.int x.toInt8.toInt32 :: st) h) : am_Sim D dA ad zz bs Ln xs k p l e R s m args below meth c as0 c0 s0 Q pc Lo (.int x :: st) h := by
  obtain ⟨hx, hb, hml, hr, hlk, hown, htr, hnm, hHH, ⟨hfr, hlo⟩, hKV, hK, hCF, ⟨hbs, hLn⟩, hzz, hinj, hadb, hU1, hU2⟩ := C
  intro as H locs ls hX hW hS hL hVL hVS hc hs
  exact lv_i2b hx hb hd rfl (K as H locs ls hX hW hS hL hVL (am_VS.cons trivial (hVS.tl)) hc hs)
theorem sm_i2c {x : Int32} (C : am_Cx l D dA ad zz bs Ln xs d k p R s m args meth c) (hd : decode (mB k) pc = .ok (.i2c, 1)) (K : am_Sim D dA ad zz bs Ln xs k p l e R s m args below meth c as0 c0 s0 Q (pc + 1) Lo (.int (x.toUInt32 % 65536).toInt32 :: st) h) : am_Sim D dA ad zz bs Ln xs k p l e R s m args below meth c as0 c0 s0 Q pc Lo (.int x :: st) h := by
  obtain ⟨hx, hb, hml, hr, hlk, hown, htr, hnm, hHH, ⟨hfr, hlo⟩, hKV, hK, hCF, ⟨hbs, hLn⟩, hzz, hinj, hadb, hU1, hU2⟩ := C
  intro as H locs ls hX hW hS hL hVL hVS hc hs
  exact lv_i2c hx hb hd rfl (K as H locs ls hX hW hS hL hVL (am_VS.cons trivial (hVS.tl)) hc hs)
theorem sm_i2d {x : Int32} (C : am_Cx l D dA ad zz bs Ln xs d k p R s m args meth c) (hd : decode (mB k) pc = .ok (.i2d, 1)) (K : am_Sim D dA ad zz bs Ln xs k p l e R s m args below meth c as0 c0 s0 Q (pc + 1) Lo (.double (FP.i2d x) :: st) h) : am_Sim D dA ad zz bs Ln xs k p l e R s m args below meth c as0 c0 s0 Q pc Lo (.int x :: st) h := by
  obtain ⟨hx, hb, hml, hr, hlk, hown, htr, hnm, hHH, ⟨hfr, hlo⟩, hKV, hK, hCF, ⟨hbs, hLn⟩, hzz, hinj, hadb, hU1, hU2⟩ := C
  intro as H locs ls hX hW hS hL hVL hVS hc hs
  exact lv_i2d hx hb hd (K as H locs ls hX hW hS hL hVL (am_VS.cons trivial (hVS.tl)) hc hs)
theorem sm_ddiv {x y : UInt64} (C : am_Cx l D dA ad zz bs Ln xs d k p R s m args meth c) (hd : decode (mB k) pc = .ok (.ddiv, 1)) (hn : FP.ddiv x y &&& 0x7fffffffffffffff ≤ 0x7ff0000000000000) (K : am_Sim D dA ad zz bs Ln xs k p l e R s m args below meth c as0 c0 s0 Q (pc + 1) Lo (.double (FP.ddiv x y) :: st) h) : am_Sim D dA ad zz bs Ln xs k p l e R s m args below meth c as0 c0 s0 Q pc Lo (.double y :: .double x :: st) h := by
  obtain ⟨hx, hb, hml, hr, hlk, hown, htr, hnm, hHH, ⟨hfr, hlo⟩, hKV, hK, hCF, ⟨hbs, hLn⟩, hzz, hinj, hadb, hU1, hU2⟩ := C
  intro as H locs ls hX hW hS hL hVL hVS hc hs
  exact lv_ddiv hx hb hd hn (K as H locs ls hX hW hS hL hVL (am_VS.cons trivial (hVS.tl.tl)) hc hs)
theorem sm_dcmp {x y : UInt64} {op : CmpOp} (C : am_Cx l D dA ad zz bs Ln xs d k p R s m args meth c) (hd : decode (mB k) pc = .ok (.dcmp op, 1)) (K : am_Sim D dA ad zz bs Ln xs k p l e R s m args below meth c as0 c0 s0 Q (pc + 1) Lo (.int (Op.cmpValue (FP.dcmp x y) op) :: st) h) : am_Sim D dA ad zz bs Ln xs k p l e R s m args below meth c as0 c0 s0 Q pc Lo (.double y :: .double x :: st) h := by
  obtain ⟨hx, hb, hml, hr, hlk, hown, htr, hnm, hHH, ⟨hfr, hlo⟩, hKV, hK, hCF, ⟨hbs, hLn⟩, hzz, hinj, hadb, hU1, hU2⟩ := C
  intro as H locs ls hX hW hS hL hVL hVS hc hs
  exact lv_dcmp hx hb hd (K as H locs ls hX hW hS hL hVL (am_VS.cons trivial (hVS.tl.tl)) hc hs)
theorem sm_popi {x : Int32} (C : am_Cx l D dA ad zz bs Ln xs d k p R s m args meth c) (hd : decode (mB k) pc = .ok (.pop, 1)) (K : am_Sim D dA ad zz bs Ln xs k p l e R s m args below meth c as0 c0 s0 Q (pc + 1) Lo st h) : am_Sim D dA ad zz bs Ln xs k p l e R s m args below meth c as0 c0 s0 Q pc Lo (.int x :: st) h := by
  obtain ⟨hx, hb, hml, hr, hlk, hown, htr, hnm, hHH, ⟨hfr, hlo⟩, hKV, hK, hCF, ⟨hbs, hLn⟩, hzz, hinj, hadb, hU1, hU2⟩ := C
  intro as H locs ls hX hW hS hL hVL hVS hc hs
  exact lv_pop hx hb hd rfl (K as H locs ls hX hW hS hL hVL (hVS.tl) hc hs)
theorem sm_popr {x : Nat} (C : am_Cx l D dA ad zz bs Ln xs d k p R s m args meth c) (hd : decode (mB k) pc = .ok (.pop, 1)) (K : am_Sim D dA ad zz bs Ln xs k p l e R s m args below meth c as0 c0 s0 Q (pc + 1) Lo st h) : am_Sim D dA ad zz bs Ln xs k p l e R s m args below meth c as0 c0 s0 Q pc Lo (.ref x :: st) h := by
  obtain ⟨hx, hb, hml, hr, hlk, hown, htr, hnm, hHH, ⟨hfr, hlo⟩, hKV, hK, hCF, ⟨hbs, hLn⟩, hzz, hinj, hadb, hU1, hU2⟩ := C
  intro as H locs ls hX hW hS hL hVL hVS hc hs
  exact lv_pop hx hb hd rfl (K as H locs ls hX hW hS hL hVL (hVS.tl) hc hs)
theorem sm_dupi {x : Int32} (C : am_Cx l D dA ad zz bs Ln xs d k p R s m args meth c) (hd : decode (mB k) pc = .ok (.dup, 1)) (K : am_Sim D dA ad zz bs Ln xs k p l e R s m args below meth c as0 c0 s0 Q (pc + 1) Lo (.int x :: .int x :: st) h) : am_Sim D dA ad zz bs Ln xs k p l e R s m args below meth c as0 c0 s0 Q pc Lo (.int x :: st) h := by
  obtain ⟨hx, hb, hml, hr, hlk, hown, htr, hnm, hHH, ⟨hfr, hlo⟩, hKV, hK, hCF, ⟨hbs, hLn⟩, hzz, hinj, hadb, hU1, hU2⟩ := C
  intro as H locs ls hX hW hS hL hVL hVS hc hs
  exact lv_dup hx hb hd rfl (K as H locs ls hX hW hS hL hVL (am_VS.cons trivial (am_VS.cons trivial (hVS.tl))) hc hs)
theorem sm_dupr {x : Nat} (C : am_Cx l D dA ad zz bs Ln xs d k p R s m args meth c) (hd : decode (mB k) pc = .ok (.dup, 1)) (K : am_Sim D dA ad zz bs Ln xs k p l e R s m args below meth c as0 c0 s0 Q (pc + 1) Lo (.ref x :: .ref x :: st) h) : am_Sim D dA ad zz bs Ln xs k p l e R s m args below meth c as0 c0 s0 Q pc Lo (.ref x :: st) h := by
  obtain ⟨hx, hb, hml, hr, hlk, hown, htr, hnm, hHH, ⟨hfr, hlo⟩, hKV, hK, hCF, ⟨hbs, hLn⟩, hzz, hinj, hadb, hU1, hU2⟩ := C
  intro as H locs ls hX hW hS hL hVL hVS hc hs
  exact lv_dup hx hb hd rfl (K as H locs ls hX hW hS hL hVL (am_VS.cons hVS.hd hVS) hc hs)
theorem sm_iload_n {j : Fin 4} {x : Int32} (C : am_Cx l D dA ad zz bs Ln xs d k p R s m args meth c) (hd : decode (mB k) pc = .ok (.iload_n j, 1)) (hl : ldA Lo j = some (.int x)) (K : am_Sim D dA ad zz bs Ln xs k p l e R s m args below meth c as0 c0 s0 Q (pc + 1) Lo (.int x :: st) h) : am_Sim D dA ad zz bs Ln xs k p l e R s m args below meth c as0 c0 s0 Q pc Lo st h := by
  obtain ⟨hx, hb, hml, hr, hlk, hown, htr, hnm, hHH, ⟨hfr, hlo⟩, hKV, hK, hCF, ⟨hbs, hLn⟩, hzz, hinj, hadb, hU1, hU2⟩ := C
  intro as H locs ls hX hW hS hL hVL hVS hc hs
  exact lv_iload_n hx hb hd rfl (hL.2.2.1 _ _ (am_ldA hl)) (K as H locs ls hX hW hS hL hVL (am_VS.cons trivial hVS) hc hs)
theorem sm_iload {j : Nat} {x : Int32} (C : am_Cx l D dA ad zz bs Ln xs d k p R s m args meth c) (hd : decode (mB k) pc = .ok (.iload j, 2)) (hl : ldA Lo j = some (.int x)) (K : am_Sim D dA ad zz bs Ln xs k p l e R s m args below meth c as0 c0 s0 Q (pc + 2) Lo (.int x :: st) h) : am_Sim D dA ad zz bs Ln xs k p l e R s m args below meth c as0 c0 s0 Q pc Lo st h := by
  obtain ⟨hx, hb, hml, hr, hlk, hown, htr, hnm, hHH, ⟨hfr, hlo⟩, hKV, hK, hCF, ⟨hbs, hLn⟩, hzz, hinj, hadb, hU1, hU2⟩ := C
  intro as H locs ls hX hW hS hL hVL hVS hc hs
  exact lv_iload hx hb hd (hL.2.2.1 _ _ (am_ldA hl)) (K as H locs ls hX hW hS hL hVL (am_VS.cons trivial hVS) hc hs)
theorem sm_lload_n {j : Fin 4} {x : Int64} (C : am_Cx l D dA ad zz bs Ln xs d k p R s m args meth c) (hd : decode (mB k) pc = .ok (.lload_n j, 1)) (hl : ldA Lo j = some (.long x)) (K : am_Sim D dA ad zz bs Ln xs k p l e R s m args below meth c as0 c0 s0 Q (pc + 1) Lo (.long x :: st) h) : am_Sim D dA ad zz bs Ln xs k p l e R s m args below meth c as0 c0 s0 Q pc Lo st h := by
  obtain ⟨hx, hb, hml, hr, hlk, hown, htr, hnm, hHH, ⟨hfr, hlo⟩, hKV, hK, hCF, ⟨hbs, hLn⟩, hzz, hinj, hadb, hU1, hU2⟩ := C
  intro as H locs ls hX hW hS hL hVL hVS hc hs
  exact lv_lload_n hx hb hd rfl (hL.2.2.1 _ _ (am_ldA hl)) (K as H locs ls hX hW hS hL hVL (am_VS.cons trivial hVS) hc hs)
theorem sm_lload {j : Nat} {x : Int64} (C : am_Cx l D dA ad zz bs Ln xs d k p R s m args meth c) (hd : decode (mB k) pc = .ok (.lload j, 2)) (hl : ldA Lo j = some (.long x)) (K : am_Sim D dA ad zz bs Ln xs k p l e R s m args below meth c as0 c0 s0 Q (pc + 2) Lo (.long x :: st) h) : am_Sim D dA ad zz bs Ln xs k p l e R s m args below meth c as0 c0 s0 Q pc Lo st h := by
  obtain ⟨hx, hb, hml, hr, hlk, hown, htr, hnm, hHH, ⟨hfr, hlo⟩, hKV, hK, hCF, ⟨hbs, hLn⟩, hzz, hinj, hadb, hU1, hU2⟩ := C
  intro as H locs ls hX hW hS hL hVL hVS hc hs
  exact lv_lload hx hb hd (hL.2.2.1 _ _ (am_ldA hl)) (K as H locs ls hX hW hS hL hVL (am_VS.cons trivial hVS) hc hs)
theorem sm_dload {j : Nat} {x : UInt64} (C : am_Cx l D dA ad zz bs Ln xs d k p R s m args meth c) (hd : decode (mB k) pc = .ok (.dload j, 2)) (hl : ldA Lo j = some (.double x)) (K : am_Sim D dA ad zz bs Ln xs k p l e R s m args below meth c as0 c0 s0 Q (pc + 2) Lo (.double x :: st) h) : am_Sim D dA ad zz bs Ln xs k p l e R s m args below meth c as0 c0 s0 Q pc Lo st h := by
  obtain ⟨hx, hb, hml, hr, hlk, hown, htr, hnm, hHH, ⟨hfr, hlo⟩, hKV, hK, hCF, ⟨hbs, hLn⟩, hzz, hinj, hadb, hU1, hU2⟩ := C
  intro as H locs ls hX hW hS hL hVL hVS hc hs
  exact lv_dload hx hb hd (hL.2.2.1 _ _ (am_ldA hl)) (K as H locs ls hX hW hS hL hVL (am_VS.cons trivial hVS) hc hs)
theorem sm_aload_n {j : Fin 4} {v : Value} (C : am_Cx l D dA ad zz bs Ln xs d k p R s m args meth c) (hd : decode (mB k) pc = .ok (.aload_n j, 1)) (hl : ldA Lo j = some v) (hv : isRf v = true) (K : am_Sim D dA ad zz bs Ln xs k p l e R s m args below meth c as0 c0 s0 Q (pc + 1) Lo (v :: st) h) : am_Sim D dA ad zz bs Ln xs k p l e R s m args below meth c as0 c0 s0 Q pc Lo st h := by
  obtain ⟨hx, hb, hml, hr, hlk, hown, htr, hnm, hHH, ⟨hfr, hlo⟩, hKV, hK, hCF, ⟨hbs, hLn⟩, hzz, hinj, hadb, hU1, hU2⟩ := C
  intro as H locs ls hX hW hS hL hVL hVS hc hs
  have hg := hL.2.2.1 _ _ (am_ldA hl)
  have hK9 := K as H locs ls hX hW hS hL hVL (am_VS.cons (hVL.ld hl) hVS) hc hs
  cases v with
  | ref a => exact lv_aload_n hx hb hd rfl hg hK9
  | null => exact lv_aload_nN hx hb hd rfl hg hK9
  | float w =>
    rcases hzz with rfl | ⟨a, rfl⟩
    · exact lv_aload_nN hx hb hd rfl hg hK9
    · exact lv_aload_n hx hb hd rfl hg hK9
  | _ => cases hv
theorem sm_aload {j : Nat} {v : Value} (C : am_Cx l D dA ad zz bs Ln xs d k p R s m args meth c) (hd : decode (mB k) pc = .ok (.aload j, 2)) (hl : ldA Lo j = some v) (hv : isRf v = true) (K : am_Sim D dA ad zz bs Ln xs k p l e R s m args below meth c as0 c0 s0 Q (pc + 2) Lo (v :: st) h) : am_Sim D dA ad zz bs Ln xs k p l e R s m args below meth c as0 c0 s0 Q pc Lo st h := by
  obtain ⟨hx, hb, hml, hr, hlk, hown, htr, hnm, hHH, ⟨hfr, hlo⟩, hKV, hK, hCF, ⟨hbs, hLn⟩, hzz, hinj, hadb, hU1, hU2⟩ := C
  intro as H locs ls hX hW hS hL hVL hVS hc hs
  have hg := hL.2.2.1 _ _ (am_ldA hl)
  have hK9 := K as H locs ls hX hW hS hL hVL (am_VS.cons (hVL.ld hl) hVS) hc hs
  cases v with
  | ref a => exact lv_aload hx hb hd hg hK9
  | null => exact lv_aloadN hx hb hd hg hK9
  | float w =>
    rcases hzz with rfl | ⟨a, rfl⟩
    · exact lv_aloadN hx hb hd hg hK9
    · exact lv_aload hx hb hd hg hK9
  | _ => cases hv
theorem sm_istore_n {j : Fin 4} {x : Int32} (C : am_Cx l D dA ad zz bs Ln xs d k p R s m args meth c) (hd : decode (mB k) pc = .ok (.istore_n j, 1)) (hj : (j : Nat) < mL k) (K : am_Sim D dA ad zz bs Ln xs k p l e R s m args below meth c as0 c0 s0 Q (pc + 1) (st1 (mW k) Lo (j : Nat) (some (.int x))) st h) : am_Sim D dA ad zz bs Ln xs k p l e R s m args below meth c as0 c0 s0 Q pc Lo (.int x :: st) h := by
  obtain ⟨hx, hb, hml, hr, hlk, hown, htr, hnm, hHH, ⟨hfr, hlo⟩, hKV, hK, hCF, ⟨hbs, hLn⟩, hzz, hinj, hadb, hU1, hU2⟩ := C
  intro as H locs ls hX hW hS hL hVL hVS hc hs
  exact lv_istore_n hx hb hd rfl hL.has hj rfl (fun ls1 h1 => K as H locs ls1 hX hW hS (am_st1 hL rfl (fun v hv => by cases hv; rfl) (am_cat (am_zcat hzz)) h1) (hVL.st1 (fun v hv => by cases hv; trivial)) hVS.tl hc hs)
theorem sm_istore {j : Nat} {x : Int32} (C : am_Cx l D dA ad zz bs Ln xs d k p R s m args meth c) (hd : decode (mB k) pc = .ok (.istore j, 2)) (hj : j < mL k) (K : am_Sim D dA ad zz bs Ln xs k p l e R s m args below meth c as0 c0 s0 Q (pc + 2) (st1 (mW k) Lo j (some (.int x))) st h) : am_Sim D dA ad zz bs Ln xs k p l e R s m args below meth c as0 c0 s0 Q pc Lo (.int x :: st) h := by
  obtain ⟨hx, hb, hml, hr, hlk, hown, htr, hnm, hHH, ⟨hfr, hlo⟩, hKV, hK, hCF, ⟨hbs, hLn⟩, hzz, hinj, hadb, hU1, hU2⟩ := C
  intro as H locs ls hX hW hS hL hVL hVS hc hs
  exact lv_istore hx hb hd hL.has hj rfl (fun ls1 h1 => K as H locs ls1 hX hW hS (am_st1 hL rfl (fun v hv => by cases hv; rfl) (am_cat (am_zcat hzz)) h1) (hVL.st1 (fun v hv => by cases hv; trivial)) hVS.tl hc hs)
theorem sm_lstore_n {j : Fin 4} {x : Int64} (C : am_Cx l D dA ad zz bs Ln xs d k p R s m args meth c) (hd : decode (mB k) pc = .ok (.lstore_n j, 1)) (hj : (j : Nat) + 1 < mL k) (hw : (mW k).contains (j : Nat) = true) (K : am_Sim D dA ad zz bs Ln xs k p l e R s m args below meth c as0 c0 s0 Q (pc + 1) (st2 (mW k) Lo (j : Nat) (.long x)) st h) : am_Sim D dA ad zz bs Ln xs k p l e R s m args below meth c as0 c0 s0 Q pc Lo (.long x :: st) h := by
  obtain ⟨hx, hb, hml, hr, hlk, hown, htr, hnm, hHH, ⟨hfr, hlo⟩, hKV, hK, hCF, ⟨hbs, hLn⟩, hzz, hinj, hadb, hU1, hU2⟩ := C
  intro as H locs ls hX hW hS hL hVL hVS hc hs
  exact lv_lstore_n hx hb hd rfl hL.has hj rfl (fun ls1 h1 => K as H locs ls1 hX hW hS (am_st2 hL (by simpa using hw) rfl (am_cat (am_zcat hzz)) h1) (hVL.st2 trivial) hVS.tl hc hs)
theorem sm_lstore {j : Nat} {x : Int64} (C : am_Cx l D dA ad zz bs Ln xs d k p R s m args meth c) (hd : decode (mB k) pc = .ok (.lstore j, 2)) (hj : j + 1 < mL k) (hw : (mW k).contains j = true) (K : am_Sim D dA ad zz bs Ln xs k p l e R s m args below meth c as0 c0 s0 Q (pc + 2) (st2 (mW k) Lo j (.long x)) st h) : am_Sim D dA ad zz bs Ln xs k p l e R s m args below meth c as0 c0 s0 Q pc Lo (.long x :: st) h := by
  obtain ⟨hx, hb, hml, hr, hlk, hown, htr, hnm, hHH, ⟨hfr, hlo⟩, hKV, hK, hCF, ⟨hbs, hLn⟩, hzz, hinj, hadb, hU1, hU2⟩ := C
  intro as H locs ls hX hW hS hL hVL hVS hc hs
  exact lv_lstore hx hb hd hL.has hj rfl (fun ls1 h1 => K as H locs ls1 hX hW hS (am_st2 hL (by simpa using hw) rfl (am_cat (am_zcat hzz)) h1) (hVL.st2 trivial) hVS.tl hc hs)
theorem sm_dstore {j : Nat} {x : UInt64} (C : am_Cx l D dA ad zz bs Ln xs d k p R s m args meth c) (hd : decode (mB k) pc = .ok (.dstore j, 2)) (hj : j + 1 < mL k) (hw : (mW k).contains j = true) (K : am_Sim D dA ad zz bs Ln xs k p l e R s m args below meth c as0 c0 s0 Q (pc + 2) (st2 (mW k) Lo j (.double x)) st h) : am_Sim D dA ad zz bs Ln xs k p l e R s m args below meth c as0 c0 s0 Q pc Lo (.double x :: st) h := by
  obtain ⟨hx, hb, hml, hr, hlk, hown, htr, hnm, hHH, ⟨hfr, hlo⟩, hKV, hK, hCF, ⟨hbs, hLn⟩, hzz, hinj, hadb, hU1, hU2⟩ := C
  intro as H locs ls hX hW hS hL hVL hVS hc hs
  exact lv_dstore hx hb hd hL.has hj rfl (fun ls1 h1 => K as H locs ls1 hX hW hS (am_st2 hL (by simpa using hw) rfl (am_cat (am_zcat hzz)) h1) (hVL.st2 trivial) hVS.tl hc hs)
theorem sm_astore_n {j : Fin 4} {v : Value} (C : am_Cx l D dA ad zz bs Ln xs d k p R s m args meth c) (hd : decode (mB k) pc = .ok (.astore_n j, 1)) (hv : isRf v = true) (hj : (j : Nat) < mL k) (K : am_Sim D dA ad zz bs Ln xs k p l e R s m args below meth c as0 c0 s0 Q (pc + 1) (st1 (mW k) Lo (j : Nat) (some v)) st h) : am_Sim D dA ad zz bs Ln xs k p l e R s m args below meth c as0 c0 s0 Q pc Lo (v :: st) h := by
  obtain ⟨hx, hb, hml, hr, hlk, hown, htr, hnm, hHH, ⟨hfr, hlo⟩, hKV, hK, hCF, ⟨hbs, hLn⟩, hzz, hinj, hadb, hU1, hU2⟩ := C
  intro as H locs ls hX hW hS hL hVL hVS hc hs
  have hst : ∀ (w : Value), w.category = 1 → am_cv ad zz as v = w → ∀ ls1, lv_has ls1 (mL k) (((j : Nat), w) :: (am_al (am_cv ad zz as) 0 Lo).filter (fun q => !(q.1 == (j : Nat)) && !(q.1 + 1 == (j : Nat) && q.2.category == 2))) → W p l e R s m args below meth c H locs (nc h - c0) (ns h - s0) Q (F0 m (pc + 1) ls1 (st.map (am_cv ad zz as))) := fun w hw e1 ls1 h1 => K as H locs ls1 hX hW hS (am_st1 hL hw (fun v9 hv9 => by cases hv9; exact e1) (am_cat (am_zcat hzz)) h1) (hVL.st1 (fun v9 hv9 => by cases hv9; exact hVS.hd)) hVS.tl hc hs
  cases v with
  | ref a => exact lv_astore_n hx hb hd rfl hL.has hj rfl (hst _ rfl rfl)
  | null => exact lv_astore_nN hx hb hd rfl hL.has hj rfl (hst _ rfl rfl)
  | float w =>
    rcases hzz with rfl | ⟨a, rfl⟩
    · exact lv_astore_nN hx hb hd rfl hL.has hj rfl (hst _ rfl rfl)
    · exact lv_astore_n hx hb hd rfl hL.has hj rfl (hst _ rfl rfl)
  | _ => cases hv
theorem sm_astore {j : Nat} {v : Value} (C : am_Cx l D dA ad zz bs Ln xs d k p R s m args meth c) (hd : decode (mB k) pc = .ok (.astore j, 2)) (hv : isRf v = true) (hj : j < mL k) (K : am_Sim D dA ad zz bs Ln xs k p l e R s m args below meth c as0 c0 s0 Q (pc + 2) (st1 (mW k) Lo j (some v)) st h) : am_Sim D dA ad zz bs Ln xs k p l e R s m args below meth c as0 c0 s0 Q pc Lo (v :: st) h := by
  obtain ⟨hx, hb, hml, hr, hlk, hown, htr, hnm, hHH, ⟨hfr, hlo⟩, hKV, hK, hCF, ⟨hbs, hLn⟩, hzz, hinj, hadb, hU1, hU2⟩ := C
  intro as H locs ls hX hW hS hL hVL hVS hc hs
  have hst : ∀ (w : Value), w.category = 1 → am_cv ad zz as v = w → ∀ ls1, lv_has ls1 (mL k) ((j, w) :: (am_al (am_cv ad zz as) 0 Lo).filter (fun q => !(q.1 == j) && !(q.1 + 1 == j && q.2.category == 2))) → W p l e R s m args below meth c H locs (nc h - c0) (ns h - s0) Q (F0 m (pc + 2) ls1 (st.map (am_cv ad zz as))) := fun w hw e1 ls1 h1 => K as H locs ls1 hX hW hS (am_st1 hL hw (fun v9 hv9 => by cases hv9; exact e1) (am_cat (am_zcat hzz)) h1) (hVL.st1 (fun v9 hv9 => by cases hv9; exact hVS.hd)) hVS.tl hc hs
  cases v with
  | ref a => exact lv_astore hx hb hd hL.has hj rfl (hst _ rfl rfl)
  | null => exact lv_astoreN hx hb hd hL.has hj rfl (hst _ rfl rfl)
  | float w =>
    rcases hzz with rfl | ⟨a, rfl⟩
    · exact lv_astoreN hx hb hd hL.has hj rfl (hst _ rfl rfl)
    · exact lv_astore hx hb hd hL.has hj rfl (hst _ rfl rfl)
  | _ => cases hv
theorem sm_iinc {j : Nat} {z : Int} {x : Int32} (C : am_Cx l D dA ad zz bs Ln xs d k p R s m args meth c) (hd : decode (mB k) pc = .ok (.iinc j z, 3)) (hl : ldA Lo j = some (.int x)) (hj : j < mL k) (K : am_Sim D dA ad zz bs Ln xs k p l e R s m args below meth c as0 c0 s0 Q (pc + 3) (st1 (mW k) Lo j (some (.int (x + Int32.ofInt z)))) st h) : am_Sim D dA ad zz bs Ln xs k p l e R s m args below meth c as0 c0 s0 Q pc Lo st h := by
  obtain ⟨hx, hb, hml, hr, hlk, hown, htr, hnm, hHH, ⟨hfr, hlo⟩, hKV, hK, hCF, ⟨hbs, hLn⟩, hzz, hinj, hadb, hU1, hU2⟩ := C
  intro as H locs ls hX hW hS hL hVL hVS hc hs
  obtain ⟨i9, hi9⟩ := List.getElem?_of_mem ((am_al_mem (f := am_cv ad zz as) (L := Lo) (i := 0) (q := (0 + j, am_cv ad zz as (.int x)))).mpr ⟨j, _, am_ldA hl, rfl⟩)
  rw [Nat.zero_add] at hi9
  exact lv_iinc hx hb hd hL.has hi9 rfl hj rfl (fun ls1 h1 => K as H locs ls1 hX hW hS (am_st1 hL rfl (fun v hv => by cases hv; rfl) (am_cat (am_zcat hzz)) h1) (hVL.st1 (fun v hv => by cases hv; trivial)) hVS hc hs)
theorem am_tg_spec {pc t : Nat} {off : Int} (h : am_tg pc off = some t) : (pc : Int) + off = (t : Int) := by
  unfold am_tg at h
  split at h
  · rename_i u hu
    rw [hu]
    cases h
    rfl
  · cases h
theorem sm_if_eq {x : Int32} {off : Int} {t : Nat} (C : am_Cx l D dA ad zz bs Ln xs d k p R s m args meth c) (hd : decode (mB k) pc = .ok (.ifCond .eq off, 3)) (ht : am_tg pc off = some t) (K1 : (x = 0) → am_Sim D dA ad zz bs Ln xs k p l e R s m args below meth c as0 c0 s0 Q t Lo st h) (K2 : ¬ (x = 0) → am_Sim D dA ad zz bs Ln xs k p l e R s m args below meth c as0 c0 s0 Q (pc + 3) Lo st h) : am_Sim D dA ad zz bs Ln xs k p l e R s m args below meth c as0 c0 s0 Q pc Lo (.int x :: st) h := by
  obtain ⟨hx, hb, hml, hr, hlk, hown, htr, hnm, hHH, ⟨hfr, hlo⟩, hKV, hK, hCF, ⟨hbs, hLn⟩, hzz, hinj, hadb, hU1, hU2⟩ := C
  intro as H locs ls hX hW hS hL hVL hVS hc hs
  exact lv_if_eq hx hb hd (am_tg_spec ht) (fun q => K1 q as H locs ls hX hW hS hL hVL hVS.tl hc hs) (fun q => K2 q as H locs ls hX hW hS hL hVL hVS.tl hc hs)
theorem sm_icmp_eq {x y : Int32} {off : Int} {t : Nat} (C : am_Cx l D dA ad zz bs Ln xs d k p R s m args meth c) (hd : decode (mB k) pc = .ok (.if_icmp .eq off, 3)) (ht : am_tg pc off = some t) (K1 : (x = y) → am_Sim D dA ad zz bs Ln xs k p l e R s m args below meth c as0 c0 s0 Q t Lo st h) (K2 : ¬ (x = y) → am_Sim D dA ad zz bs Ln xs k p l e R s m args below meth c as0 c0 s0 Q (pc + 3) Lo st h) : am_Sim D dA ad zz bs Ln xs k p l e R s m args below meth c as0 c0 s0 Q pc Lo (.int y :: .int x :: st) h := by
  obtain ⟨hx, hb, hml, hr, hlk, hown, htr, hnm, hHH, ⟨hfr, hlo⟩, hKV, hK, hCF, ⟨hbs, hLn⟩, hzz, hinj, hadb, hU1, hU2⟩ := C
  intro as H locs ls hX hW hS hL hVL hVS hc hs
  exact lv_icmp_eq hx hb hd (am_tg_spec ht) (fun q => K1 q as H locs ls hX hW hS hL hVL hVS.tl.tl hc hs) (fun q => K2 q as H locs ls hX hW hS hL hVL hVS.tl.tl hc hs)
theorem sm_if_ne {x : Int32} {off : Int} {t : Nat} (C : am_Cx l D dA ad zz bs Ln xs d k p R s m args meth c) (hd : decode (mB k) pc = .ok (.ifCond .ne off, 3)) (ht : am_tg pc off = some t) (K1 : (¬ x = 0) → am_Sim D dA ad zz bs Ln xs k p l e R s m args below meth c as0 c0 s0 Q t Lo st h) (K2 : ¬ (¬ x = 0) → am_Sim D dA ad zz bs Ln xs k p l e R s m args below meth c as0 c0 s0 Q (pc + 3) Lo st h) : am_Sim D dA ad zz bs Ln xs k p l e R s m args below meth c as0 c0 s0 Q pc Lo (.int x :: st) h := by
  obtain ⟨hx, hb, hml, hr, hlk, hown, htr, hnm, hHH, ⟨hfr, hlo⟩, hKV, hK, hCF, ⟨hbs, hLn⟩, hzz, hinj, hadb, hU1, hU2⟩ := C
  intro as H locs ls hX hW hS hL hVL hVS hc hs
  exact lv_if_ne hx hb hd (am_tg_spec ht) (fun q => K1 q as H locs ls hX hW hS hL hVL hVS.tl hc hs) (fun q => K2 (fun z => z q) as H locs ls hX hW hS hL hVL hVS.tl hc hs)
theorem sm_icmp_ne {x y : Int32} {off : Int} {t : Nat} (C : am_Cx l D dA ad zz bs Ln xs d k p R s m args meth c) (hd : decode (mB k) pc = .ok (.if_icmp .ne off, 3)) (ht : am_tg pc off = some t) (K1 : (¬ x = y) → am_Sim D dA ad zz bs Ln xs k p l e R s m args below meth c as0 c0 s0 Q t Lo st h) (K2 : ¬ (¬ x = y) → am_Sim D dA ad zz bs Ln xs k p l e R s m args below meth c as0 c0 s0 Q (pc + 3) Lo st h) : am_Sim D dA ad zz bs Ln xs k p l e R s m args below meth c as0 c0 s0 Q pc Lo (.int y :: .int x :: st) h := by
  obtain ⟨hx, hb, hml, hr, hlk, hown, htr, hnm, hHH, ⟨hfr, hlo⟩, hKV, hK, hCF, ⟨hbs, hLn⟩, hzz, hinj, hadb, hU1, hU2⟩ := C
  intro as H locs ls hX hW hS hL hVL hVS hc hs
  exact lv_icmp_ne hx hb hd (am_tg_spec ht) (fun q => K1 q as H locs ls hX hW hS hL hVL hVS.tl.tl hc hs) (fun q => K2 (fun z => z q) as H locs ls hX hW hS hL hVL hVS.tl.tl hc hs)
theorem sm_if_lt {x : Int32} {off : Int} {t : Nat} (C : am_Cx l D dA ad zz bs Ln xs d k p R s m args meth c) (hd : decode (mB k) pc = .ok (.ifCond .lt off, 3)) (ht : am_tg pc off = some t) (K1 : (x < 0) → am_Sim D dA ad zz bs Ln xs k p l e R s m args below meth c as0 c0 s0 Q t Lo st h) (K2 : ¬ (x < 0) → am_Sim D dA ad zz bs Ln xs k p l e R s m args below meth c as0 c0 s0 Q (pc + 3) Lo st h) : am_Sim D dA ad zz bs Ln xs k p l e R s m args below meth c as0 c0 s0 Q pc Lo (.int x :: st) h := by
  obtain ⟨hx, hb, hml, hr, hlk, hown, htr, hnm, hHH, ⟨hfr, hlo⟩, hKV, hK, hCF, ⟨hbs, hLn⟩, hzz, hinj, hadb, hU1, hU2⟩ := C
  intro as H locs ls hX hW hS hL hVL hVS hc hs
  exact lv_if_lt hx hb hd (am_tg_spec ht) (fun q => K1 q as H locs ls hX hW hS hL hVL hVS.tl hc hs) (fun q => K2 q as H locs ls hX hW hS hL hVL hVS.tl hc hs)
theorem sm_icmp_lt {x y : Int32} {off : Int} {t : Nat} (C : am_Cx l D dA ad zz bs Ln xs d k p R s m args meth c) (hd : decode (mB k) pc = .ok (.if_icmp .lt off, 3)) (ht : am_tg pc off = some t) (K1 : (x < y) → am_Sim D dA ad zz bs Ln xs k p l e R s m args below meth c as0 c0 s0 Q t Lo st h) (K2 : ¬ (x < y) → am_Sim D dA ad zz bs Ln xs k p l e R s m args below meth c as0 c0 s0 Q (pc + 3) Lo st h) : am_Sim D dA ad zz bs Ln xs k p l e R s m args below meth c as0 c0 s0 Q pc Lo (.int y :: .int x :: st) h := by
  obtain ⟨hx, hb, hml, hr, hlk, hown, htr, hnm, hHH, ⟨hfr, hlo⟩, hKV, hK, hCF, ⟨hbs, hLn⟩, hzz, hinj, hadb, hU1, hU2⟩ := C
  intro as H locs ls hX hW hS hL hVL hVS hc hs
  exact lv_icmp_lt hx hb hd (am_tg_spec ht) (fun q => K1 q as H locs ls hX hW hS hL hVL hVS.tl.tl hc hs) (fun q => K2 q as H locs ls hX hW hS hL hVL hVS.tl.tl hc hs)
theorem sm_if_ge {x : Int32} {off : Int} {t : Nat} (C : am_Cx l D dA ad zz bs Ln xs d k p R s m args meth c) (hd : decode (mB k) pc = .ok (.ifCond .ge off, 3)) (ht : am_tg pc off = some t) (K1 : (0 ≤ x) → am_Sim D dA ad zz bs Ln xs k p l e R s m args below meth c as0 c0 s0 Q t Lo st h) (K2 : ¬ (0 ≤ x) → am_Sim D dA ad zz bs Ln xs k p l e R s m args below meth c as0 c0 s0 Q (pc + 3) Lo st h) : am_Sim D dA ad zz bs Ln xs k p l e R s m args below meth c as0 c0 s0 Q pc Lo (.int x :: st) h := by
  obtain ⟨hx, hb, hml, hr, hlk, hown, htr, hnm, hHH, ⟨hfr, hlo⟩, hKV, hK, hCF, ⟨hbs, hLn⟩, hzz, hinj, hadb, hU1, hU2⟩ := C
  intro as H locs ls hX hW hS hL hVL hVS hc hs
  exact lv_if_ge hx hb hd (am_tg_spec ht) (fun q => K1 q as H locs ls hX hW hS hL hVL hVS.tl hc hs) (fun q => K2 q as H locs ls hX hW hS hL hVL hVS.tl hc hs)
theorem sm_icmp_ge {x y : Int32} {off : Int} {t : Nat} (C : am_Cx l D dA ad zz bs Ln xs d k p R s m args meth c) (hd : decode (mB k) pc = .ok (.if_icmp .ge off, 3)) (ht : am_tg pc off = some t) (K1 : (y ≤ x) → am_Sim D dA ad zz bs Ln xs k p l e R s m args below meth c as0 c0 s0 Q t Lo st h) (K2 : ¬ (y ≤ x) → am_Sim D dA ad zz bs Ln xs k p l e R s m args below meth c as0 c0 s0 Q (pc + 3) Lo st h) : am_Sim D dA ad zz bs Ln xs k p l e R s m args below meth c as0 c0 s0 Q pc Lo (.int y :: .int x :: st) h := by
  obtain ⟨hx, hb, hml, hr, hlk, hown, htr, hnm, hHH, ⟨hfr, hlo⟩, hKV, hK, hCF, ⟨hbs, hLn⟩, hzz, hinj, hadb, hU1, hU2⟩ := C
  intro as H locs ls hX hW hS hL hVL hVS hc hs
  exact lv_icmp_ge hx hb hd (am_tg_spec ht) (fun q => K1 q as H locs ls hX hW hS hL hVL hVS.tl.tl hc hs) (fun q => K2 q as H locs ls hX hW hS hL hVL hVS.tl.tl hc hs)
theorem sm_if_gt {x : Int32} {off : Int} {t : Nat} (C : am_Cx l D dA ad zz bs Ln xs d k p R s m args meth c) (hd : decode (mB k) pc = .ok (.ifCond .gt off, 3)) (ht : am_tg pc off = some t) (K1 : (0 < x) → am_Sim D dA ad zz bs Ln xs k p l e R s m args below meth c as0 c0 s0 Q t Lo st h) (K2 : ¬ (0 < x) → am_Sim D dA ad zz bs Ln xs k p l e R s m args below meth c as0 c0 s0 Q (pc + 3) Lo st h) : am_Sim D dA ad zz bs Ln xs k p l e R s m args below meth c as0 c0 s0 Q pc Lo (.int x :: st) h := by
  obtain ⟨hx, hb, hml, hr, hlk, hown, htr, hnm, hHH, ⟨hfr, hlo⟩, hKV, hK, hCF, ⟨hbs, hLn⟩, hzz, hinj, hadb, hU1, hU2⟩ := C
  intro as H locs ls hX hW hS hL hVL hVS hc hs
  exact lv_if_gt hx hb hd (am_tg_spec ht) (fun q => K1 q as H locs ls hX hW hS hL hVL hVS.tl hc hs) (fun q => K2 q as H locs ls hX hW hS hL hVL hVS.tl hc hs)
theorem sm_icmp_gt {x y : Int32} {off : Int} {t : Nat} (C : am_Cx l D dA ad zz bs Ln xs d k p R s m args meth c) (hd : decode (mB k) pc = .ok (.if_icmp .gt off, 3)) (ht : am_tg pc off = some t) (K1 : (y < x) → am_Sim D dA ad zz bs Ln xs k p l e R s m args below meth c as0 c0 s0 Q t Lo st h) (K2 : ¬ (y < x) → am_Sim D dA ad zz bs Ln xs k p l e R s m args below meth c as0 c0 s0 Q (pc + 3) Lo st h) : am_Sim D dA ad zz bs Ln xs k p l e R s m args below meth c as0 c0 s0 Q pc Lo (.int y :: .int x :: st) h := by
  obtain ⟨hx, hb, hml, hr, hlk, hown, htr, hnm, hHH, ⟨hfr, hlo⟩, hKV, hK, hCF, ⟨hbs, hLn⟩, hzz, hinj, hadb, hU1, hU2⟩ := C
  intro as H locs ls hX hW hS hL hVL hVS hc hs
  exact lv_icmp_gt hx hb hd (am_tg_spec ht) (fun q => K1 q as H locs ls hX hW hS hL hVL hVS.tl.tl hc hs) (fun q => K2 q as H locs ls hX hW hS hL hVL hVS.tl.tl hc hs)
theorem sm_if_le {x : Int32} {off : Int} {t : Nat} (C : am_Cx l D dA ad zz bs Ln xs d k p R s m args meth c) (hd : decode (mB k) pc = .ok (.ifCond .le off, 3)) (ht : am_tg pc off = some t) (K1 : (x ≤ 0) → am_Sim D dA ad zz bs Ln xs k p l e R s m args below meth c as0 c0 s0 Q t Lo st h) (K2 : ¬ (x ≤ 0) → am_Sim D dA ad zz bs Ln xs k p l e R s m args below meth c as0 c0 s0 Q (pc + 3) Lo st h) : am_Sim D dA ad zz bs Ln xs k p l e R s m args below meth c as0 c0 s0 Q pc Lo (.int x :: st) h := by
  obtain ⟨hx, hb, hml, hr, hlk, hown, htr, hnm, hHH, ⟨hfr, hlo⟩, hKV, hK, hCF, ⟨hbs, hLn⟩, hzz, hinj, hadb, hU1, hU2⟩ := C
  intro as H locs ls hX hW hS hL hVL hVS hc hs
  exact lv_if_le hx hb hd (am_tg_spec ht) (fun q => K1 q as H locs ls hX hW hS hL hVL hVS.tl hc hs) (fun q => K2 q as H locs ls hX hW hS hL hVL hVS.tl hc hs)
theorem sm_icmp_le {x y : Int32} {off : Int} {t : Nat} (C : am_Cx l D dA ad zz bs Ln xs d k p R s m args meth c) (hd : decode (mB k) pc = .ok (.if_icmp .le off, 3)) (ht : am_tg pc off = some t) (K1 : (x ≤ y) → am_Sim D dA ad zz bs Ln xs k p l e R s m args below meth c as0 c0 s0 Q t Lo st h) (K2 : ¬ (x ≤ y) → am_Sim D dA ad zz bs Ln xs k p l e R s m args below meth c as0 c0 s0 Q (pc + 3) Lo st h) : am_Sim D dA ad zz bs Ln xs k p l e R s m args below meth c as0 c0 s0 Q pc Lo (.int y :: .int x :: st) h := by
  obtain ⟨hx, hb, hml, hr, hlk, hown, htr, hnm, hHH, ⟨hfr, hlo⟩, hKV, hK, hCF, ⟨hbs, hLn⟩, hzz, hinj, hadb, hU1, hU2⟩ := C
  intro as H locs ls hX hW hS hL hVL hVS hc hs
  exact lv_icmp_le hx hb hd (am_tg_spec ht) (fun q => K1 q as H locs ls hX hW hS hL hVL hVS.tl.tl hc hs) (fun q => K2 q as H locs ls hX hW hS hL hVL hVS.tl.tl hc hs)
theorem sm_goto {off : Int} {t : Nat} (C : am_Cx l D dA ad zz bs Ln xs d k p R s m args meth c) (hd : decode (mB k) pc = .ok (.goto off, 3)) (ht : am_tg pc off = some t) (K : am_Sim D dA ad zz bs Ln xs k p l e R s m args below meth c as0 c0 s0 Q t Lo st h) : am_Sim D dA ad zz bs Ln xs k p l e R s m args below meth c as0 c0 s0 Q pc Lo st h := by
  obtain ⟨hx, hb, hml, hr, hlk, hown, htr, hnm, hHH, ⟨hfr, hlo⟩, hKV, hK, hCF, ⟨hbs, hLn⟩, hzz, hinj, hadb, hU1, hU2⟩ := C
  intro as H locs ls hX hW hS hL hVL hVS hc hs
  exact lv_goto hx hb hd (am_tg_spec ht) (K as H locs ls hX hW hS hL hVL hVS hc hs)
theorem sm_ifnullN {a : Nat} {off : Int} {t : Nat} (C : am_Cx l D dA ad zz bs Ln xs d k p R s m args meth c) (hd : decode (mB k) pc = .ok (.ifnull off, 3)) (ht : am_tg pc off = some t) (K : am_Sim D dA ad zz bs Ln xs k p l e R s m args below meth c as0 c0 s0 Q t Lo st h) : am_Sim D dA ad zz bs Ln xs k p l e R s m args below meth c as0 c0 s0 Q pc Lo (.null :: st) h := by
  obtain ⟨hx, hb, hml, hr, hlk, hown, htr, hnm, hHH, ⟨hfr, hlo⟩, hKV, hK, hCF, ⟨hbs, hLn⟩, hzz, hinj, hadb, hU1, hU2⟩ := C
  intro as H locs ls hX hW hS hL hVL hVS hc hs
  exact lv_ifnullN hx hb hd (am_tg_spec ht) (K as H locs ls hX hW hS hL hVL hVS.tl hc hs)
theorem sm_ifnonnullR {a : Nat} {off : Int} {t : Nat} (C : am_Cx l D dA ad zz bs Ln xs d k p R s m args meth c) (hd : decode (mB k) pc = .ok (.ifnonnull off, 3)) (ht : am_tg pc off = some t) (K : am_Sim D dA ad zz bs Ln xs k p l e R s m args below meth c as0 c0 s0 Q t Lo st h) : am_Sim D dA ad zz bs Ln xs k p l e R s m args below meth c as0 c0 s0 Q pc Lo (.ref a :: st) h := by
  obtain ⟨hx, hb, hml, hr, hlk, hown, htr, hnm, hHH, ⟨hfr, hlo⟩, hKV, hK, hCF, ⟨hbs, hLn⟩, hzz, hinj, hadb, hU1, hU2⟩ := C
  intro as H locs ls hX hW hS hL hVL hVS hc hs
  exact lv_ifnonnull hx hb hd (am_tg_spec ht) (K as H locs ls hX hW hS hL hVL hVS.tl hc hs)
theorem sm_ifnullR {a : Nat} {off : Int} (C : am_Cx l D dA ad zz bs Ln xs d k p R s m args meth c) (hd : decode (mB k) pc = .ok (.ifnull off, 3)) (K : am_Sim D dA ad zz bs Ln xs k p l e R s m args below meth c as0 c0 s0 Q (pc + 3) Lo st h) : am_Sim D dA ad zz bs Ln xs k p l e R s m args below meth c as0 c0 s0 Q pc Lo (.ref a :: st) h := by
  obtain ⟨hx, hb, hml, hr, hlk, hown, htr, hnm, hHH, ⟨hfr, hlo⟩, hKV, hK, hCF, ⟨hbs, hLn⟩, hzz, hinj, hadb, hU1, hU2⟩ := C
  intro as H locs ls hX hW hS hL hVL hVS hc hs
  exact lv_ifnull hx hb hd (K as H locs ls hX hW hS hL hVL hVS.tl hc hs)
theorem sm_ifnonnullN {a : Nat} {off : Int} (C : am_Cx l D dA ad zz bs Ln xs d k p R s m args meth c) (hd : decode (mB k) pc = .ok (.ifnonnull off, 3)) (K : am_Sim D dA ad zz bs Ln xs k p l e R s m args below meth c as0 c0 s0 Q (pc + 3) Lo st h) : am_Sim D dA ad zz bs Ln xs k p l e R s m args below meth c as0 c0 s0 Q pc Lo (.null :: st) h := by
  obtain ⟨hx, hb, hml, hr, hlk, hown, htr, hnm, hHH, ⟨hfr, hlo⟩, hKV, hK, hCF, ⟨hbs, hLn⟩, hzz, hinj, hadb, hU1, hU2⟩ := C
  intro as H locs ls hX hW hS hL hVL hVS hc hs
  exact lv_ifnonnullN hx hb hd (K as H locs ls hX hW hS hL hVL hVS.tl hc hs)
theorem sm_tableOut {x : Int32} {df lo hi : Int} {offs : Array Int} {len t : Nat} (C : am_Cx l D dA ad zz bs Ln xs d k p R s m args meth c) (hd : decode (mB k) pc = .ok (.tableswitch df lo hi offs, len)) (hq : x.toInt < lo ∨ hi < x.toInt) (ht : am_tg pc df = some t) (K : am_Sim D dA ad zz bs Ln xs k p l e R s m args below meth c as0 c0 s0 Q t Lo st h) : am_Sim D dA ad zz bs Ln xs k p l e R s m args below meth c as0 c0 s0 Q pc Lo (.int x :: st) h := by
  obtain ⟨hx, hb, hml, hr, hlk, hown, htr, hnm, hHH, ⟨hfr, hlo⟩, hKV, hK, hCF, ⟨hbs, hLn⟩, hzz, hinj, hadb, hU1, hU2⟩ := C
  intro as H locs ls hX hW hS hL hVL hVS hc hs
  exact lv_tableOut hx hb hd hq (am_tg_spec ht) (K as H locs ls hX hW hS hL hVL hVS.tl hc hs)
theorem sm_tableIn {x : Int32} {df lo hi off : Int} {offs : Array Int} {len t : Nat} (C : am_Cx l D dA ad zz bs Ln xs d k p R s m args meth c) (hd : decode (mB k) pc = .ok (.tableswitch df lo hi offs, len)) (hq : ¬ (x.toInt < lo ∨ hi < x.toInt)) (ho : offs[(x.toInt - lo).toNat]? = some off) (ht : am_tg pc off = some t) (K : am_Sim D dA ad zz bs Ln xs k p l e R s m args below meth c as0 c0 s0 Q t Lo st h) : am_Sim D dA ad zz bs Ln xs k p l e R s m args below meth c as0 c0 s0 Q pc Lo (.int x :: st) h := by
  obtain ⟨hx, hb, hml, hr, hlk, hown, htr, hnm, hHH, ⟨hfr, hlo⟩, hKV, hK, hCF, ⟨hbs, hLn⟩, hzz, hinj, hadb, hU1, hU2⟩ := C
  intro as H locs ls hX hW hS hL hVL hVS hc hs
  exact lv_tableIn hx hb hd (fun q => hq (Or.inl q)) (fun q => hq (Or.inr q)) ho (am_tg_spec ht) (K as H locs ls hX hW hS hL hVL hVS.tl hc hs)
end SIM
end
section
/-! FIELDS. -/
def am_cl (ci : Nat) : vw_C := vwCl.getD ci ("", TX1, 0)
def am_fok (e : (Nat × Nat) × (Nat × Nat) × Nat × Nat) (w : String × String × Nat) : Bool :=
  if e.2.1.1 = 0 then
    decide (e.2.1.2 < 10) && decide (e.2.2.1 < (am_cl e.2.1.2).2.2) && decide ((am_cl e.2.1.2).2.2 = fnum e.2.1.2) && decide ((fsT.getD e.2.1.2 []).getD e.2.2.1 0 = e.2.2.2) && decide (w.1 = ((am_cl e.2.1.2).2.1 e.2.2.1).1) &&
    (if w.2.1 = "" then am_wd w.2.2 (.fieldLink (cNm e.1.1) e.1.2 w.1 ((am_cl e.2.1.2).2.1 e.2.2.1).2.1 ((am_cl e.2.1.2).2.1 e.2.2.1).2.2.1)
     else am_wn w.2.2 (.fieldLinkNest (cNm e.1.1) e.1.2 w.1 ((am_cl e.2.1.2).2.1 e.2.2.1).2.1 ((am_cl e.2.1.2).2.1 e.2.2.1).2.2.1 w.2.1) && decide (((am_cl e.2.1.2).2.1 e.2.2.1).1 ≠ cNm e.1.1))
  else if e.2.1 = (10, 0) then
    (if e.2.2.1 = 0 then decide (e.2.2.2 = 4) && am_wd w.2.2 (.fieldLink (cNm e.1.1) e.1.2 "MarkShelter$Sign" "text" "Ljava/lang/String;")
     else decide (e.2.2.1 = 1) && decide (e.2.2.2 = 1) && am_wd w.2.2 (.fieldLink (cNm e.1.1) e.1.2 "java/lang/Enum" "ordinal" "I"))
  else decide (e.2.1 = (11, 0)) &&
    (if e.2.2.1 = 0 then decide (e.2.2.2 = 4) && am_wd w.2.2 (.fieldLink (cNm e.1.1) e.1.2 "java/lang/String" "value" "[B")
     else decide (e.2.2.1 = 1) && decide (e.2.2.2 = 1) && am_wd w.2.2 (.fieldLink (cNm e.1.1) e.1.2 "java/lang/String" "coder" "B"))
theorem am_fck : (fT.zip fWs).all (fun q => am_fok q.1 q.2) = true := by decide +kernel
theorem am_fln : fT.length = fWs.length := by decide +kernel
theorem am_lookup {α β : Type} [BEq α] [LawfulBEq α] {a : α} {b : β} : ∀ {l : List (α × β)}, l.lookup a = some b → (a, b) ∈ l
  | [], h => by simp at h
  | (x, y) :: l, h => by
    rw [List.lookup_cons] at h
    split at h
    · rename_i hx
      have e : a = x := by simpa using hx
      have e2 : y = b := by simpa using h
      rw [e, ← e2]
      exact List.mem_cons_self
    · exact List.mem_cons_of_mem _ (am_lookup h)
theorem am_zip {α β : Type} {l : List α} {r : List β} (hl : l.length = r.length) {a : α} (h : a ∈ l) : ∃ b, (a, b) ∈ l.zip r := by
  obtain ⟨i, hi, rfl⟩ := List.getElem_of_mem h
  refine ⟨r[i]'(by omega), ?_⟩
  rw [← List.getElem_zip (h := by rw [List.length_zip]; omega)]
  exact List.getElem_mem _
theorem am_f_at {c i : Nat} {r : (Nat × Nat) × Nat × Nat} (h : fR c i = some r) : ∃ w, am_fok ((c, i), r) w = true := by
  obtain ⟨w, hw⟩ := am_zip am_fln (am_lookup h)
  exact ⟨w, List.all_eq_true.mp am_fck _ hw⟩
theorem am_cl_at {ci : Nat} (h : ci < 10) : vwCl[ci]? = some (am_cl ci) := by
  unfold am_cl
  rw [List.getD_eq_getElem?_getD]
  have : ci < vwCl.length := h
  rw [List.getElem?_eq_getElem this]
  rfl
theorem k_kd_10 {L n : Nat} (h : k_kd L n = (10, 0)) : n < 49 := by
  unfold k_kd at h
  (repeat' split at h) <;> first | assumption | (simp at h)
theorem k_kd_11 {L n : Nat} (h : k_kd L n = (11, 0)) : 60 ≤ n ∧ n < 106 := by
  unfold k_kd at h
  (repeat' split at h) <;> first | assumption | (simp at h)
/-- a constant by its kind -/
theorem am_const {D : va_G} {dA : Nat → ClassId} {ad : Nat → Nat} {bs L : Nat} {xs : Nat → Int32} {as : List Nat} {h : AH} {H : Heap} {a : Nat} (hW : am_WS D dA ad bs L xs as h H) (ha : a < nx h) (ht : 7 ≤ (kd h a).1) : a < am_NC ∧ kd h a = k_kd L a ∧ ∀ j, iv h a j = k_iv xs a j ∧ rv h a j = k_rv a j := by
  obtain ⟨h1, -, -, hV, hC⟩ := hW
  have h0 : a < am_NC := by
    rcases Nat.lt_or_ge a am_NC with q | q
    · exact q
    · have := (hV.2.2 a q ha).1
      omega
  exact ⟨h0, hC a h0⟩
theorem am_phi_c {ad : Nat → Nat} {as : List Nat} {a : Nat} (h : a < am_NC) : am_phi ad as a = ad a := by unfold am_phi; rw [if_pos h]
theorem am_cv_rf {ad : Nat → Nat} {zz : Value} {as : List Nat} {r : Option Nat} : am_cv ad zz as (va_rf r) = va_rf (r.map (am_phi ad as)) := by cases r <;> rfl
def am_rd (h : AH) (a j t : Nat) : Value := if t = 1 then .int (iv h a j) else if t = 2 then .long (jv h a j) else va_rf (rv h a j)
theorem am_fv_rd {ad : Nat → Nat} {zz : Value} {as : List Nat} {h : AH} {a ci j t : Nat} (hs : (fsT.getD ci []).getD j 0 = t) : am_fv ad as h a ci j = am_cv ad zz as (am_rd h a j t) := by
  unfold am_fv am_rd
  rw [hs]
  by_cases h1 : t = 1
  · subst h1; rfl
  · by_cases h2 : t = 2
    · subst h2; rfl
    · rw [if_neg h1, if_neg h2, am_cv_rf]
      split
      · exact absurd rfl h1
      · exact absurd rfl h2
      · rfl
section FLD
variable {l : Launch} {D : va_G} {dA : Nat → ClassId} {ad : Nat → Nat} {zz : Value} {bs Ln : Nat} {xs : Nat → Int32} {d k : Nat} {p : Program} {e : Env} {R : Room} {s : State} {m : MethodId} {args : Array Value} {below : List Frame} {meth : Method} {c : Code} {c0 s0 : Nat} {Q : State → Prop} {pc : Nat} {Lo : ALs} {st : List Value} {h : AH}
variable {as : List Nat} {H : Heap} {locs : List Loc} {ls : Array Slot} {cells slots : Nat} {rest : List Value}
theorem am_hts (hKV : am_KV ad s) : ∀ w ∈ am_GW, w.before args s = true := fun w hw => am_gw (am_gwf hw) (hKV.1 w hw)
set_option maxHeartbeats 1000000 in
theorem am_getf {ix j t a : Nat} {kk : Nat × Nat} (C : am_Cx l D dA ad zz bs Ln xs d k p R s m args meth c) (hd : decode (mB k) pc = .ok (.getfield ix, 3)) (hf : fR (mC k) ix = some (kk, j, t)) (hk : kd h a = kk) (hW : am_WS D dA ad bs Ln xs as h H) (hS : va_S (am_A bs) s.heap H locs) (ha : a < nx h)
    (K : W p l e R s m args below meth c H locs cells slots Q (F0 m (pc + 3) ls (am_cv ad zz as (am_rd h a j t) :: rest))) : W p l e R s m args below meth c H locs cells slots Q (F0 m pc ls (.ref (am_phi ad as a) :: rest)) := by
  obtain ⟨hx, hb, hml, hr, hlk, hown, htr, hnm, hHH, ⟨hfr, hlo⟩, hKV, hK, hCF, ⟨hbs, hLn⟩, hzz, hinj, hadb, hU1, hU2⟩ := C
  obtain ⟨w, hok⟩ := am_f_at hf
  have hts := am_hts (args := args) hKV
  obtain ⟨k1, k2⟩ := kk
  unfold am_fok at hok
  dsimp only at hok
  by_cases e0 : k1 = 0
  · subst e0
    rw [if_pos rfl] at hok
    simp only [Bool.and_eq_true, decide_eq_true_eq] at hok
    obtain ⟨⟨⟨⟨⟨hci, hj⟩, hN⟩, hso⟩, hrf⟩, hlk9⟩ := hok
    obtain ⟨h0, h1, -, he⟩ := am_obj hW ha hk
    have hc := am_cl_at hci
    rw [am_fv_rd (ad := ad) (zz := zz) (as := as) hso |>.symm] at K
    have hv := am_fv_get (ad := ad) (as := as) (h := h) (a := a) (ci := k2) (j := j) (by rw [← hN]; exact hj)
    split at hlk9
    · exact va_get hx hb hts (am_lays_in hc) hown hK hW.2.1 (a - am_NC) he hc j hj (hts _ (am_wd_mem hlk9)) (fun x hx9 => by rw [hrf]; exact hx9) hv hd K
    · rw [Bool.and_eq_true] at hlk9
      exact va_getN hx hb hts (am_lays_in hc) hown hK hW.2.1 (a - am_NC) he hc j hj (va_Nw.use rfl (hKV.2.1 _ (am_wn_mem hlk9.1))) (fun x hx9 => by rw [hrf]; exact hx9) hv hd K
  · rw [if_neg e0] at hok
    split at hok
    · rename_i e1
      rw [e1] at hk
      obtain ⟨g0, g1, g2⟩ := am_const hW ha (by rw [hk]; decide)
      have hi : a < 49 := k_kd_10 (g1.symm.trans hk)
      obtain ⟨c1, c2, c3⟩ := hCF.1 a hi
      rw [am_phi_c g0]
      split at hok
      · rename_i e2
        simp only [Bool.and_eq_true, decide_eq_true_eq] at hok
        obtain ⟨rfl, hlk9⟩ := hok
        subst e2
        have e3 : am_rd h a 0 4 = .ref (60 + k_text.getD a 0) := by
          unfold am_rd
          rw [(g2 0).2]
          unfold k_rv
          rw [if_pos hi]
          rfl
        rw [e3] at K
        refine vk_getf hx hb c3 hS hown (hts _ (am_wd_mem hlk9)) (fun _ q => q) hd ?_
        have e4 : am_cv ad zz as (.ref (60 + k_text.getD a 0)) = .ref (ad (60 + k_text.getD a 0)) := by
          show Value.ref _ = _
          rw [am_phi_c (show 60 + k_text.getD a 0 < am_NC by
            have : ∀ i, i < 49 → 60 + k_text.getD i 0 < am_NC := by decide +kernel
            exact this a hi)]
        rw [← e4]
        exact K
      · simp only [Bool.and_eq_true, decide_eq_true_eq] at hok
        obtain ⟨⟨rfl, rfl⟩, hlk9⟩ := hok
        have e3 : am_rd h a 1 1 = .int (nI a) := by
          unfold am_rd
          rw [if_pos rfl, (g2 1).1]
          unfold k_iv
          rw [if_pos hi, if_pos rfl]
        rw [e3] at K
        exact vk_getf hx hb c2 hS hown (hts _ (am_wd_mem hlk9)) (fun _ q => q) hd K
    · simp only [Bool.and_eq_true, decide_eq_true_eq] at hok
      obtain ⟨e1, hok⟩ := hok
      rw [e1] at hk
      obtain ⟨g0, g1, g2⟩ := am_const hW ha (by rw [hk]; decide)
      have hi := k_kd_11 (g1.symm.trans hk)
      obtain ⟨c1, c2, c3, c4⟩ := hCF.2.1 (a - 60) (by omega)
      rw [show 60 + (a - 60) = a by omega] at c1 c2 c3
      rw [am_phi_c g0]
      have n49 : ¬ a < 49 := by omega
      split at hok
      · rename_i e2
        simp only [Bool.and_eq_true, decide_eq_true_eq] at hok
        obtain ⟨rfl, hlk9⟩ := hok
        subst e2
        have e3 : am_rd h a 0 4 = .ref (a + 50) := by
          have e5 : k_rv a 0 = some (a + 50) := by
            unfold k_rv
            rw [if_neg n49, if_neg (by omega), if_neg (by omega), if_pos hi, if_pos rfl]
          show va_rf (rv h a 0) = _
          rw [(g2 0).2, e5]
          rfl
        rw [e3] at K
        refine vk_getf hx hb c2 hS hown (hts _ (am_wd_mem hlk9)) (fun _ q => q) hd ?_
        have e4 : am_cv ad zz as (.ref (a + 50)) = .ref (ad (110 + (a - 60))) := by
          show Value.ref _ = _
          rw [am_phi_c (show a + 50 < am_NC by unfold am_NC; omega), show 110 + (a - 60) = a + 50 by omega]
        rw [← e4]
        exact K
      · simp only [Bool.and_eq_true, decide_eq_true_eq] at hok
        obtain ⟨⟨rfl, rfl⟩, hlk9⟩ := hok
        have e3 : am_rd h a 1 1 = .int 0 := by
          unfold am_rd
          rw [if_pos rfl, (g2 1).1]
          unfold k_iv
          rw [if_neg n49, if_neg (by omega), if_neg (by omega), if_neg (by omega), if_neg (by omega)]
        rw [e3] at K
        exact vk_getf hx hb c3 hS hown (hts _ (am_wd_mem hlk9)) (fun _ q => q) hd K
end FLD
end
section
/-! WRITES OF FIELDS; ARRAYS. -/
def am_ty (ci j : Nat) : FieldType := (parseFieldDescriptor ((am_cl ci).2.1 j).2.2.1).getD .int
def am_tyok (t : Nat) : FieldType → Bool
  | .int => t == 1
  | .long => t == 2
  | .object _ => t == 4
  | .array _ => t == 4
  | _ => false
theorem am_tyck : (List.range 10).all (fun ci => (List.range (am_cl ci).2.2).all (fun j => decide (parseFieldDescriptor ((am_cl ci).2.1 j).2.2.1 = some (am_ty ci j)) && am_tyok ((fsT.getD ci []).getD j 0) (am_ty ci j))) = true := by decide +kernel
theorem am_nmck : (List.range 10).all (fun ci => (List.range (am_cl ci).2.2).all (fun a => (List.range (am_cl ci).2.2).all (fun b => decide (a = b) || decide (((am_cl ci).2.1 a).2.1 ≠ ((am_cl ci).2.1 b).2.1)))) = true := by decide +kernel
theorem am_all {n : Nat} {f : Nat → Bool} (h : (List.range n).all f = true) {i : Nat} (hi : i < n) : f i = true := List.all_eq_true.mp h i (List.mem_range.mpr hi)
theorem am_ty_ok {ci j : Nat} (hci : ci < 10) (hj : j < (am_cl ci).2.2) : parseFieldDescriptor ((am_cl ci).2.1 j).2.2.1 = some (am_ty ci j) ∧ am_tyok ((fsT.getD ci []).getD j 0) (am_ty ci j) = true := by
  have := am_all (am_all am_tyck hci) hj
  simpa using this
theorem am_nm_ok {ci : Nat} (hci : ci < 10) : ∀ a, a < (am_cl ci).2.2 → ∀ b, b < (am_cl ci).2.2 → a ≠ b → ((am_cl ci).2.1 a).2.1 ≠ ((am_cl ci).2.1 b).2.1 := by
  intro a ha b hb hab
  have := am_all (am_all (am_all am_nmck hci) ha) hb
  simpa [hab] using this
theorem am_fit {t : Nat} {ty : FieldType} {v : Value} (h : am_tyok t ty = true) (hv : (t = 1 ∧ ∃ x, v = .int x) ∨ (t = 2 ∧ ∃ x, v = .long x) ∨ (t = 4 ∧ ∃ x, v = .ref x)) : narrow ty v = v ∧ fits ty v = true := by
  rcases hv with ⟨rfl, x, rfl⟩ | ⟨rfl, x, rfl⟩ | ⟨rfl, x, rfl⟩ <;> cases ty <;> first | exact ⟨rfl, rfl⟩ | (exact absurd h (by decide)) | (exact absurd h Bool.false_ne_true)
section PUT
variable {l : Launch} {D : va_G} {dA : Nat → ClassId} {ad : Nat → Nat} {zz : Value} {bs Ln : Nat} {xs : Nat → Int32} {d k : Nat} {p : Program} {e : Env} {R : Room} {s : State} {m : MethodId} {args : Array Value} {below : List Frame} {meth : Method} {c : Code} {c0 s0 : Nat} {Q : State → Prop} {pc : Nat} {Lo : ALs} {st : List Value} {h h' : AH}
variable {as : List Nat} {H : Heap} {locs : List Loc} {ls : Array Slot} {cells slots : Nat} {rest : List Value}
theorem am_put_ws {dA : Nat → ClassId} {ad : Nat → Nat} {as : List Nat} {h h' : AH} {a : Nat} {x : va_E} (h0 : am_NC ≤ a) (h1 : a < am_NC + as.length) (he : am_ob dA ad as h' a = x) (hkd : ∀ n, kd h' n = kd h n) (hiv : ∀ n i, n ≠ a → iv h' n i = iv h n i) (hjv : ∀ n i, n ≠ a → jv h' n i = jv h n i) (hrv : ∀ n i, n ≠ a → rv h' n i = rv h n i) : (am_ws dA ad as h).set (a - am_NC) (am_phi ad as a, x) = am_ws dA ad as h' :=
  am_ws_set h0 h1 he fun n hn => am_ob_congr (hkd n) (fun j => hiv n j hn) (fun j => hjv n j hn) (fun j => hrv n j hn)
set_option maxHeartbeats 1000000 in
theorem am_putf {ix j t a k2 : Nat} {v : Value} (C : am_Cx l D dA ad zz bs Ln xs d k p R s m args meth c) (hd : decode (mB k) pc = .ok (.putfield ix, 3)) (hf : fR (mC k) ix = some ((0, k2), j, t)) (hk : kd h a = (0, k2)) (hpf : pfOK k k2 j = true) (hW : am_WS D dA ad bs Ln xs as h H) (hS : va_S (am_A bs) s.heap H locs) (ha : a < nx h)
    (hfit : (t = 1 ∧ ∃ x, v = .int x) ∨ (t = 2 ∧ ∃ x, v = .long x) ∨ (t = 4 ∧ ∃ x, v = .ref x)) (hkd : ∀ n, kd h' n = kd h n) (hiv : ∀ n i, n ≠ a ∨ i ≠ j → iv h' n i = iv h n i) (hjv : ∀ n i, n ≠ a ∨ i ≠ j → jv h' n i = jv h n i) (hrv : ∀ n i, n ≠ a ∨ i ≠ j → rv h' n i = rv h n i) (hrd : am_rd h' a j t = v) (hnx : nx h' = nx h) (hVH : am_VH h')
    (K : ∀ (H1 : Heap) (locs1 : List Loc), am_WS D dA ad bs Ln xs as h' H1 → va_S (am_A bs) s.heap H1 locs1 → W p l e R s m args below meth c H1 locs1 cells slots Q (F0 m (pc + 3) ls rest)) : W p l e R s m args below meth c H locs cells slots Q (F0 m pc ls (am_cv ad zz as v :: .ref (am_phi ad as a) :: rest)) := by
  obtain ⟨hx, hb, hml, hr, hlk, hown, htr, hnm, hHH, ⟨hfr, hlo⟩, hKV, hK, hCF, ⟨hbs, hLn⟩, hzz, hinj, hadb, hU1, hU2⟩ := C
  obtain ⟨w, hok⟩ := am_f_at hf
  have hts := am_hts (args := args) hKV
  unfold am_fok at hok
  dsimp only at hok
  rw [if_pos rfl] at hok
  simp only [Bool.and_eq_true, decide_eq_true_eq] at hok
  obtain ⟨⟨⟨⟨⟨hci, hj⟩, hN⟩, hso⟩, hrf⟩, hlk9⟩ := hok
  obtain ⟨h0, h1, -, he⟩ := am_obj hW ha hk
  have hc := am_cl_at hci
  have hty := fun j hj => (am_ty_ok hci (j := j) hj).1
  obtain ⟨e1, e2⟩ := am_ty_ok hci hj
  rw [hso] at e2
  have hcv : (t = 1 ∧ ∃ x, am_cv ad zz as v = .int x) ∨ (t = 2 ∧ ∃ x, am_cv ad zz as v = .long x) ∨ (t = 4 ∧ ∃ x, am_cv ad zz as v = .ref x) := by
    rcases hfit with ⟨q, x, rfl⟩ | ⟨q, x, rfl⟩ | ⟨q, x, rfl⟩
    · exact Or.inl ⟨q, x, rfl⟩
    · exact Or.inr (Or.inl ⟨q, x, rfl⟩)
    · exact Or.inr (Or.inr ⟨q, _, rfl⟩)
  obtain ⟨f1, f2⟩ := am_fit e2 hcv
  have hjn : j < fnum k2 := by rw [← hN]; exact hj
  have hl9 : j < ((List.range (fnum k2)).map (am_fv ad as h a k2)).length := by simpa using hjn
  have hset : ((List.range (fnum k2)).map (am_fv ad as h a k2)).set j (am_cv ad zz as v) = (List.range (fnum k2)).map (am_fv ad as h' a k2) :=
    am_fv_set hjn (by rw [am_fv_rd (zz := zz) hso, hrd]) (fun i hi => by unfold am_fv; rw [hiv a i (Or.inr hi), hjv a i (Or.inr hi), hrv a i (Or.inr hi)])
  have hws : (am_ws dA ad as h).set (a - am_NC) (am_phi ad as a, .inr (k2, ((List.range (fnum k2)).map (am_fv ad as h a k2)).set j (am_cv ad zz as v))) = am_ws dA ad as h' := by
    refine am_put_ws h0 h1 ?_ hkd (fun n i hn => hiv n i (Or.inl hn)) (fun n i hn => hjv n i (Or.inl hn)) (fun n i hn => hrv n i (Or.inl hn))
    unfold am_ob
    rw [hkd, hk, hset]
    rfl
  have hCA : am_CA Ln xs h' := am_CA_set hW.2.2.2.2 h0 (fun n _ => hkd n) (fun n i hn => hiv n i (Or.inl hn)) (fun n i hn => hrv n i (Or.inl hn))
  have key : ∀ (H1 : Heap) (locs1 : List Loc), va_P D vwCl ((am_ws dA ad as h).set (a - am_NC) (am_phi ad as a, .inr (k2, ((List.range (fnum k2)).map (am_fv ad as h a k2)).set j (am_cv ad zz as v)))) H1 → va_D (am_A bs) ((am_ws dA ad as h).set (a - am_NC) (am_phi ad as a, .inr (k2, ((List.range (fnum k2)).map (am_fv ad as h a k2)).set j (am_cv ad zz as v)))) → va_S (am_A bs) s.heap H1 locs1 → W p l e R s m args below meth c H1 locs1 cells slots Q (F0 m (pc + 3) ls rest) := by
    intro H1 locs1 a1 a2 a3
    rw [hws] at a1 a2
    exact K H1 locs1 ⟨by rw [hnx]; exact hW.1, a1, a2, hVH, hCA⟩ a3
  unfold pfOK at hpf
  rw [show vwCl.getD k2 ("", TX1, 0) = am_cl k2 from rfl] at hpf
  by_cases hfin : (((am_cl k2).2.1 j).2.2.2) = true
  · rw [hfin] at hpf
    simp only [Bool.not_true, Bool.false_or, Bool.and_eq_true, beq_iff_eq] at hpf
    split at hlk9
    · exact va_putF hx hb hts (am_lays_in hc) (am_ty k2) hty (am_nm_ok hci) hown hK hW.2.1 hW.2.2.1 hS (a - am_NC) he hc j hj (hts _ (am_wd_mem hlk9)) (fun x hx9 => by rw [hrf]; exact hx9) hfin (hnm hpf.1) hpf.2 e1 f1 f2 hl9 hd key
    · simp only [Bool.and_eq_true, decide_eq_true_eq] at hlk9
      exact absurd hpf.2 hlk9.2
  · have hfin : ((am_cl k2).2.1 j).2.2.2 = false := by simpa using hfin
    split at hlk9
    · exact va_put hx hb hts (am_lays_in hc) (am_ty k2) hty (am_nm_ok hci) hown hK hW.2.1 hW.2.2.1 hS (a - am_NC) he hc j hj (hts _ (am_wd_mem hlk9)) (fun x hx9 => by rw [hrf]; exact hx9) hfin e1 f1 f2 hl9 hd key
    · simp only [Bool.and_eq_true, decide_eq_true_eq] at hlk9
      exact va_putN hx hb hts (am_lays_in hc) (am_ty k2) hty (am_nm_ok hci) hown hK hW.2.1 hW.2.2.1 hS (a - am_NC) he hc j hj (va_Nw.use rfl (hKV.2.1 _ (am_wn_mem hlk9.1))) (fun x hx9 => by rw [hrf]; exact hx9) hfin e1 f1 f2 hl9 hd key
end PUT
end
section
/-! ARRAYS, NEW CELLS, STATICS, CONSTANTS. -/
theorem k_kd_12 {L n z : Nat} (h : k_kd L n = (12, z)) : (n = 51 ∧ z = 4) ∨ (n = 52 ∧ z = 49) ∨ (n = 53 ∧ z = L) := by
  unfold k_kd at h
  (repeat' split at h) <;> simp_all
theorem k_kd_13 {L n z : Nat} (h : k_kd L n = (13, z)) : 110 ≤ n ∧ n < 156 ∧ z = k_len.getD (n - 110) 0 := by
  unfold k_kd at h
  (repeat' split at h) <;> simp_all
theorem k_kd_14 {L n z : Nat} (h : k_kd L n = (14, z)) : n = 49 ∧ z = 49 := by
  unfold k_kd at h
  (repeat' split at h) <;> simp_all
theorem k_kd_15 {L n z : Nat} (h : k_kd L n = (15, z)) : n = 50 ∧ z = 29 := by
  unfold k_kd at h
  (repeat' split at h) <;> simp_all
theorem inR_vp {i : Int32} {n : Nat} (h : inR i n = true) : vp_in i n := by
  unfold inR at h
  simp only [Bool.and_eq_true, decide_eq_true_eq] at h
  unfold vp_in
  rintro (q | q)
  · exact h.1 q
  · omega
theorem inR_lt {i : Int32} {n : Nat} (h : inR i n = true) : i.toNatClampNeg < n := by
  unfold inR at h
  simp only [Bool.and_eq_true, decide_eq_true_eq] at h
  exact h.2
section ARR
variable {l : Launch} {D : va_G} {dA : Nat → ClassId} {ad : Nat → Nat} {zz : Value} {bs Ln : Nat} {xs : Nat → Int32} {d k : Nat} {p : Program} {e : Env} {R : Room} {s : State} {m : MethodId} {args : Array Value} {below : List Frame} {meth : Method} {c : Code} {c0 s0 : Nat} {Q : State → Prop} {pc : Nat} {Lo : ALs} {st : List Value} {h h' : AH}
variable {as : List Nat} {H : Heap} {locs : List Loc} {ls : Array Slot} {cells slots : Nat} {rest : List Value}
theorem am_iald {a : Nat} {i : Int32} (C : am_Cx l D dA ad zz bs Ln xs d k p R s m args meth c) (hd : decode (mB k) pc = .ok (.iaload, 1)) (hk : (kd h a).1 = 1 ∨ (kd h a).1 = 12) (hi : inR i (kd h a).2 = true) (hW : am_WS D dA ad bs Ln xs as h H) (hS : va_S (am_A bs) s.heap H locs) (ha : a < nx h)
    (K : W p l e R s m args below meth c H locs cells slots Q (F0 m (pc + 1) ls (.int (iv h a i.toNatClampNeg) :: rest))) : W p l e R s m args below meth c H locs cells slots Q (F0 m pc ls (.int i :: .ref (am_phi ad as a) :: rest)) := by
  obtain ⟨hx, hb, hml, hr, hlk, hown, htr, hnm, hHH, ⟨hfr, hlo⟩, hKV, hK, hCF, ⟨hbs, hLn⟩, hzz, hinj, hadb, hU1, hU2⟩ := C
  rcases hk with hk | hk
  · obtain ⟨h0, h1, he⟩ := am_arr_at hW ha (by omega) (by omega)
    rw [hk] at he
    exact va_iald hx hb hK hW.2.1 (a - am_NC) 0 he rfl (inR_vp hi) hd K
  · obtain ⟨g0, g1, g2⟩ := am_const hW ha (by omega)
    rw [am_phi_c g0]
    rw [(g2 _).1] at K
    have e1 : kd h a = (12, (kd h a).2) := by rw [← hk]
    rw [e1] at g1
    rcases k_kd_12 g1.symm with ⟨q, z⟩ | ⟨q, z⟩ | ⟨q, z⟩ <;> rw [z] at hi <;> subst q
    · exact va_ti hx hb hCF.2.2.2.2.2.1 hS (inR_vp hi) rfl hd K
    · exact va_ti hx hb hCF.2.2.2.2.2.2.1 hS (inR_vp hi) rfl hd K
    · exact va_ti hx hb hCF.2.2.2.2.2.2.2 hS (inR_vp hi) rfl hd K
theorem am_bald {a : Nat} {i : Int32} (C : am_Cx l D dA ad zz bs Ln xs d k p R s m args meth c) (hd : decode (mB k) pc = .ok (.baload, 1)) (hk : (kd h a).1 = 3 ∨ (kd h a).1 = 13) (hi : inR i (kd h a).2 = true) (hW : am_WS D dA ad bs Ln xs as h H) (hS : va_S (am_A bs) s.heap H locs) (ha : a < nx h)
    (K : W p l e R s m args below meth c H locs cells slots Q (F0 m (pc + 1) ls (.int (iv h a i.toNatClampNeg) :: rest))) : W p l e R s m args below meth c H locs cells slots Q (F0 m pc ls (.int i :: .ref (am_phi ad as a) :: rest)) := by
  obtain ⟨hx, hb, hml, hr, hlk, hown, htr, hnm, hHH, ⟨hfr, hlo⟩, hKV, hK, hCF, ⟨hbs, hLn⟩, hzz, hinj, hadb, hU1, hU2⟩ := C
  rcases hk with hk | hk
  · obtain ⟨h0, h1, he⟩ := am_arr_at hW ha (by omega) (by omega)
    rw [hk] at he
    exact va_bald hx hb hK hW.2.1 (a - am_NC) 2 he rfl (inR_vp hi) hd K
  · obtain ⟨g0, g1, g2⟩ := am_const hW ha (by omega)
    rw [am_phi_c g0]
    rw [(g2 _).1] at K
    have e1 : kd h a = (13, (kd h a).2) := by rw [← hk]
    rw [e1] at g1
    obtain ⟨q1, q2, z⟩ := k_kd_13 g1.symm
    rw [z] at hi
    have hT := (hCF.2.1 (a - 110) (by omega)).2.2.2
    rw [show 110 + (a - 110) = a by omega] at hT
    refine va_tb hx hb hT hS (inR_vp hi) ?_ hd K
    unfold k_iv
    rw [if_neg (by omega), if_neg (by omega), if_neg (by omega), if_neg (by omega), if_pos ⟨q1, q2⟩]
theorem am_lald {a : Nat} {i : Int32} (C : am_Cx l D dA ad zz bs Ln xs d k p R s m args meth c) (hd : decode (mB k) pc = .ok (.laload, 1)) (hk : (kd h a).1 = 2) (hi : inR i (kd h a).2 = true) (hW : am_WS D dA ad bs Ln xs as h H) (hS : va_S (am_A bs) s.heap H locs) (ha : a < nx h)
    (K : W p l e R s m args below meth c H locs cells slots Q (F0 m (pc + 1) ls (.long (jv h a i.toNatClampNeg) :: rest))) : W p l e R s m args below meth c H locs cells slots Q (F0 m pc ls (.int i :: .ref (am_phi ad as a) :: rest)) := by
  obtain ⟨hx, hb, hml, hr, hlk, hown, htr, hnm, hHH, ⟨hfr, hlo⟩, hKV, hK, hCF, ⟨hbs, hLn⟩, hzz, hinj, hadb, hU1, hU2⟩ := C
  obtain ⟨h0, h1, he⟩ := am_arr_at hW ha (by omega) (by omega)
  rw [hk] at he
  exact va_lald hx hb hK hW.2.1 (a - am_NC) 1 he rfl (inR_vp hi) hd K
theorem am_aald {a : Nat} {i : Int32} (C : am_Cx l D dA ad zz bs Ln xs d k p R s m args meth c) (hd : decode (mB k) pc = .ok (.aaload, 1)) (hk : (4 ≤ (kd h a).1 ∧ (kd h a).1 ≤ 6) ∨ (kd h a).1 = 14 ∨ (kd h a).1 = 15) (hi : inR i (kd h a).2 = true) (hW : am_WS D dA ad bs Ln xs as h H) (hS : va_S (am_A bs) s.heap H locs) (ha : a < nx h)
    (K : W p l e R s m args below meth c H locs cells slots Q (F0 m (pc + 1) ls (am_cv ad zz as (va_rf (rv h a i.toNatClampNeg)) :: rest))) : W p l e R s m args below meth c H locs cells slots Q (F0 m pc ls (.int i :: .ref (am_phi ad as a) :: rest)) := by
  obtain ⟨hx, hb, hml, hr, hlk, hown, htr, hnm, hHH, ⟨hfr, hlo⟩, hKV, hK, hCF, ⟨hbs, hLn⟩, hzz, hinj, hadb, hU1, hU2⟩ := C
  rcases hk with hk | hk | hk
  · obtain ⟨h0, h1, he⟩ := am_arr_at hW ha (by omega) (by omega)
    rw [am_cv_rf] at K
    rcases (show (kd h a).1 = 4 ∨ (kd h a).1 = 5 ∨ (kd h a).1 = 6 by omega) with q | q | q <;> rw [q] at he
    · exact va_aldq hx hb hK hW.2.1 (a - am_NC) 3 he rfl (inR_vp hi) hd K
    · exact va_aldq hx hb hK hW.2.1 (a - am_NC) 4 he rfl (inR_vp hi) hd K
    · exact va_aldq hx hb hK hW.2.1 (a - am_NC) 5 he rfl (inR_vp hi) hd K
  · obtain ⟨g0, g1, g2⟩ := am_const hW ha (by omega)
    rw [am_phi_c g0]
    rw [(g2 _).2] at K
    have e1 : kd h a = (14, (kd h a).2) := by rw [← hk]
    rw [e1] at g1
    obtain ⟨q, z⟩ := k_kd_14 g1.symm
    rw [z] at hi
    subst q
    refine vb_tq hx hb hCF.2.2.2.1 hS (inR_vp hi) ?_ hd K
    have h9 := inR_lt hi
    have e2 : k_rv 49 i.toNatClampNeg = some i.toNatClampNeg := by
      unfold k_rv
      rw [if_neg (by omega), if_pos rfl, if_pos h9]
    rw [e2]
    show Value.ref _ = Value.ref _
    rw [am_phi_c (show i.toNatClampNeg < am_NC by unfold am_NC; omega)]
  · obtain ⟨g0, g1, g2⟩ := am_const hW ha (by omega)
    rw [am_phi_c g0]
    rw [(g2 _).2] at K
    have e1 : kd h a = (15, (kd h a).2) := by rw [← hk]
    rw [e1] at g1
    obtain ⟨q, z⟩ := k_kd_15 g1.symm
    rw [z] at hi
    subst q
    refine vb_tq hx hb hCF.2.2.2.2.1 hS (inR_vp hi) ?_ hd K
    have h9 := inR_lt hi
    have e2 : k_rv 50 i.toNatClampNeg = some (60 + i.toNatClampNeg) := by
      unfold k_rv
      rw [if_neg (by omega), if_neg (by omega), if_pos rfl, if_pos h9]
    rw [e2]
    show Value.ref _ = Value.ref _
    rw [am_phi_c (show 60 + i.toNatClampNeg < am_NC by unfold am_NC; omega)]
theorem am_alen {a : Nat} (C : am_Cx l D dA ad zz bs Ln xs d k p R s m args meth c) (hd : decode (mB k) pc = .ok (.arraylength, 1)) (hk : (1 ≤ (kd h a).1 ∧ (kd h a).1 ≤ 6) ∨ (12 ≤ (kd h a).1 ∧ (kd h a).1 ≤ 15)) (hW : am_WS D dA ad bs Ln xs as h H) (hS : va_S (am_A bs) s.heap H locs) (ha : a < nx h)
    (K : W p l e R s m args below meth c H locs cells slots Q (F0 m (pc + 1) ls (.int (nI (kd h a).2) :: rest))) : W p l e R s m args below meth c H locs cells slots Q (F0 m pc ls (.ref (am_phi ad as a) :: rest)) := by
  obtain ⟨hx, hb, hml, hr, hlk, hown, htr, hnm, hHH, ⟨hfr, hlo⟩, hKV, hK, hCF, ⟨hbs, hLn⟩, hzz, hinj, hadb, hU1, hU2⟩ := C
  rcases hk with hk | hk
  · obtain ⟨h0, h1, he⟩ := am_arr_at hW ha (by omega) (by omega)
    rcases (show (kd h a).1 = 1 ∨ (kd h a).1 = 2 ∨ (kd h a).1 = 3 ∨ (kd h a).1 = 4 ∨ (kd h a).1 = 5 ∨ (kd h a).1 = 6 by omega) with q | q | q | q | q | q <;> rw [q] at he
    · exact va_alen hx hb hK hW.2.1 (a - am_NC) 0 he rfl rfl hd K
    · exact va_alen hx hb hK hW.2.1 (a - am_NC) 1 he rfl rfl hd K
    · exact va_alen hx hb hK hW.2.1 (a - am_NC) 2 he rfl rfl hd K
    · exact va_alen hx hb hK hW.2.1 (a - am_NC) 3 he rfl rfl hd K
    · exact va_alen hx hb hK hW.2.1 (a - am_NC) 4 he rfl rfl hd K
    · exact va_alen hx hb hK hW.2.1 (a - am_NC) 5 he rfl rfl hd K
  · obtain ⟨g0, g1, g2⟩ := am_const hW ha (by omega)
    rw [am_phi_c g0]
    rcases (show (kd h a).1 = 12 ∨ (kd h a).1 = 13 ∨ (kd h a).1 = 14 ∨ (kd h a).1 = 15 by omega) with q | q | q | q
    · have e1 : kd h a = (12, (kd h a).2) := by rw [← q]
      rw [e1] at g1
      rcases k_kd_12 g1.symm with ⟨w, z⟩ | ⟨w, z⟩ | ⟨w, z⟩ <;> rw [z] at K <;> subst w
      · exact va_tlen hx hb hCF.2.2.2.2.2.1 hS rfl hd K
      · exact va_tlen hx hb hCF.2.2.2.2.2.2.1 hS rfl hd K
      · exact va_tlen hx hb hCF.2.2.2.2.2.2.2 hS rfl hd K
    · have e1 : kd h a = (13, (kd h a).2) := by rw [← q]
      rw [e1] at g1
      obtain ⟨q1, q2, z⟩ := k_kd_13 g1.symm
      rw [z] at K
      have hT := (hCF.2.1 (a - 110) (by omega)).2.2.2
      rw [show 110 + (a - 110) = a by omega] at hT
      exact va_tlen hx hb hT hS rfl hd K
    · have e1 : kd h a = (14, (kd h a).2) := by rw [← q]
      rw [e1] at g1
      obtain ⟨w, z⟩ := k_kd_14 g1.symm
      rw [z] at K
      subst w
      exact va_tlen hx hb hCF.2.2.2.1 hS rfl hd K
    · have e1 : kd h a = (15, (kd h a).2) := by rw [← q]
      rw [e1] at g1
      obtain ⟨w, z⟩ := k_kd_15 g1.symm
      rw [z] at K
      subst w
      exact va_tlen hx hb hCF.2.2.2.2.1 hS rfl hd K
/-- a write into a made array -/
theorem am_put_arr {a i t : Nat} {x : va_E} (hW : am_WS D dA ad bs Ln xs as h H) (ha : a < nx h) (h7 : (kd h a).1 ≠ 0) (h0 : am_NC ≤ a) (hx : am_arr dA ad as h' a (kd h a).1 (kd h a).2 = x) (hkd : ∀ n, kd h' n = kd h n) (hiv : ∀ n i, n ≠ a → iv h' n i = iv h n i) (hjv : ∀ n i, n ≠ a → jv h' n i = jv h n i) (hrv : ∀ n i, n ≠ a → rv h' n i = rv h n i) (hnx : nx h' = nx h) (hVH : am_VH h')
    (H1 : Heap) (a1 : va_P D vwCl ((am_ws dA ad as h).set (a - am_NC) (am_phi ad as a, x)) H1) (a2 : va_D (am_A bs) ((am_ws dA ad as h).set (a - am_NC) (am_phi ad as a, x))) : am_WS D dA ad bs Ln xs as h' H1 := by
  have h1 : a < am_NC + as.length := by rw [hW.1]; exact ha
  have hws : (am_ws dA ad as h).set (a - am_NC) (am_phi ad as a, x) = am_ws dA ad as h' := by
    refine am_put_ws h0 h1 ?_ hkd hiv hjv hrv
    unfold am_ob
    rw [hkd, if_neg h7, hx]
  rw [hws] at a1 a2
  exact ⟨by rw [hnx]; exact hW.1, a1, a2, hVH, am_CA_set hW.2.2.2.2 h0 (fun n _ => hkd n) hiv hrv⟩
theorem am_VH_I {a j : Nat} {x : Int32} (hV : am_VH h) : am_VH (setI h a j x) := hV
theorem am_VH_J {a j : Nat} {x : Int64} (hV : am_VH h) : am_VH (setJ h a j x) := hV
theorem am_VH_R {a j b : Nat} (hV : am_VH h) (hb : b < nx h) : am_VH (setR h a j (some b)) := by
  refine ⟨hV.1, fun a1 j1 b1 h1 => ?_, hV.2.2⟩
  rw [rv_setR] at h1
  unfold u2 at h1
  split at h1
  · cases h1; exact hb
  · exact hV.2.1 a1 j1 b1 h1
theorem u2_self {α : Type} {f : Nat → Nat → α} {a q : Nat} {x : α} {j : Nat} : u2 f a q x a j = if j = q then x else f a j := by unfold u2; simp
theorem am_iast {a : Nat} {i : Int32} {x : Int32} (C : am_Cx l D dA ad zz bs Ln xs d k p R s m args meth c) (hd : decode (mB k) pc = .ok (.iastore, 1)) (hk : (kd h a).1 = 1) (hi : inR i (kd h a).2 = true) (hW : am_WS D dA ad bs Ln xs as h H) (hS : va_S (am_A bs) s.heap H locs) (ha : a < nx h)
    (K : ∀ (H1 : Heap) (locs1 : List Loc), am_WS D dA ad bs Ln xs as (setI h a i.toNatClampNeg x) H1 → va_S (am_A bs) s.heap H1 locs1 → W p l e R s m args below meth c H1 locs1 cells slots Q (F0 m (pc + 1) ls rest)) : W p l e R s m args below meth c H locs cells slots Q (F0 m pc ls (.int x :: .int i :: .ref (am_phi ad as a) :: rest)) := by
  obtain ⟨hx, hb, hml, hr, hlk, hown, htr, hnm, hHH, ⟨hfr, hlo⟩, hKV, hK, hCF, ⟨hbs, hLn⟩, hzz, hinj, hadb, hU1, hU2⟩ := C
  obtain ⟨h0, h1, he⟩ := am_arr_at hW ha (by omega) (by omega)
  rw [hk] at he
  have e9 : (fun j => iv (setI h a i.toNatClampNeg x) a j) = upd (fun j => iv h a j) i.toNatClampNeg x := by
    funext j
    show u2 _ _ _ _ _ j = if j = i.toNatClampNeg then x else iv h a j
    rw [u2_self]
    rfl
  refine va_iast hx hb hK hW.2.1 hW.2.2.1 hS (a - am_NC) 0 he rfl (inR_vp hi) hd (fun H1 locs1 a1 a2 a3 => K H1 locs1 (am_put_arr (i := 0) (t := 0) (h' := setI h a i.toNatClampNeg x) hW ha (by omega) h0 ?_ (fun _ => rfl) (fun n i hn => u2_ne hn) (fun _ _ _ => rfl) (fun _ _ _ => rfl) rfl (am_VH_I hW.2.2.2.1) H1 a1 a2) a3)
  rw [hk]
  show (Sum.inl (dA 1, (kd h a).2, Sum.inl (fun j => iv (setI h a i.toNatClampNeg x) a j)) : va_E) = _
  rw [e9]
theorem am_bast {a : Nat} {i : Int32} {x : Int32} (C : am_Cx l D dA ad zz bs Ln xs d k p R s m args meth c) (hd : decode (mB k) pc = .ok (.bastore, 1)) (hk : (kd h a).1 = 3) (hi : inR i (kd h a).2 = true) (hW : am_WS D dA ad bs Ln xs as h H) (hS : va_S (am_A bs) s.heap H locs) (ha : a < nx h)
    (K : ∀ (H1 : Heap) (locs1 : List Loc), am_WS D dA ad bs Ln xs as (setI h a i.toNatClampNeg x.toInt8.toInt32) H1 → va_S (am_A bs) s.heap H1 locs1 → W p l e R s m args below meth c H1 locs1 cells slots Q (F0 m (pc + 1) ls rest)) : W p l e R s m args below meth c H locs cells slots Q (F0 m pc ls (.int x :: .int i :: .ref (am_phi ad as a) :: rest)) := by
  obtain ⟨hx, hb, hml, hr, hlk, hown, htr, hnm, hHH, ⟨hfr, hlo⟩, hKV, hK, hCF, ⟨hbs, hLn⟩, hzz, hinj, hadb, hU1, hU2⟩ := C
  obtain ⟨h0, h1, he⟩ := am_arr_at hW ha (by omega) (by omega)
  rw [hk] at he
  have e9 : (fun j => iv (setI h a i.toNatClampNeg x.toInt8.toInt32) a j) = upd (fun j => iv h a j) i.toNatClampNeg (vp_nar .byte x) := by
    funext j
    show u2 _ _ _ _ _ j = if j = i.toNatClampNeg then x.toInt8.toInt32 else iv h a j
    rw [u2_self]
    rfl
  refine va_bast hx hb hK hW.2.1 hW.2.2.1 hS (a - am_NC) 2 he rfl (inR_vp hi) hd (fun H1 locs1 a1 a2 a3 => K H1 locs1 (am_put_arr (i := 0) (t := 0) (h' := setI h a i.toNatClampNeg x.toInt8.toInt32) hW ha (by omega) h0 ?_ (fun _ => rfl) (fun n i hn => u2_ne hn) (fun _ _ _ => rfl) (fun _ _ _ => rfl) rfl (am_VH_I hW.2.2.2.1) H1 a1 a2) a3)
  rw [hk]
  show (Sum.inl (dA 3, (kd h a).2, Sum.inl (fun j => iv (setI h a i.toNatClampNeg x.toInt8.toInt32) a j)) : va_E) = _
  rw [e9]
theorem am_last {a : Nat} {i : Int32} {x : Int64} (C : am_Cx l D dA ad zz bs Ln xs d k p R s m args meth c) (hd : decode (mB k) pc = .ok (.lastore, 1)) (hk : (kd h a).1 = 2) (hi : inR i (kd h a).2 = true) (hW : am_WS D dA ad bs Ln xs as h H) (hS : va_S (am_A bs) s.heap H locs) (ha : a < nx h)
    (K : ∀ (H1 : Heap) (locs1 : List Loc), am_WS D dA ad bs Ln xs as (setJ h a i.toNatClampNeg x) H1 → va_S (am_A bs) s.heap H1 locs1 → W p l e R s m args below meth c H1 locs1 cells slots Q (F0 m (pc + 1) ls rest)) : W p l e R s m args below meth c H locs cells slots Q (F0 m pc ls (.long x :: .int i :: .ref (am_phi ad as a) :: rest)) := by
  obtain ⟨hx, hb, hml, hr, hlk, hown, htr, hnm, hHH, ⟨hfr, hlo⟩, hKV, hK, hCF, ⟨hbs, hLn⟩, hzz, hinj, hadb, hU1, hU2⟩ := C
  obtain ⟨h0, h1, he⟩ := am_arr_at hW ha (by omega) (by omega)
  rw [hk] at he
  have e9 : (fun j => jv (setJ h a i.toNatClampNeg x) a j) = vp_updL (fun j => jv h a j) i.toNatClampNeg x := by
    funext j
    show u2 _ _ _ _ _ j = if j = i.toNatClampNeg then x else jv h a j
    rw [u2_self]
    rfl
  refine va_last hx hb hK hW.2.1 hW.2.2.1 hS (a - am_NC) 1 he rfl (inR_vp hi) hd (fun H1 locs1 a1 a2 a3 => K H1 locs1 (am_put_arr (i := 0) (t := 0) (h' := setJ h a i.toNatClampNeg x) hW ha (by omega) h0 ?_ (fun _ => rfl) (fun _ _ _ => rfl) (fun n i hn => u2_ne hn) (fun _ _ _ => rfl) rfl (am_VH_J hW.2.2.2.1) H1 a1 a2) a3)
  rw [hk]
  show (Sum.inl (dA 2, (kd h a).2, Sum.inr (Sum.inl (fun j => jv (setJ h a i.toNatClampNeg x) a j))) : va_E) = _
  rw [e9]
theorem am_anyS {x : Nat} (hCF : am_CF ad zz Ln xs (am_A bs) s s.heap) (hS : va_S (am_A bs) s.heap H locs) (hi : x < 49) : va_Any "MarkShelter$Sign" s H (ad x) := by
  obtain ⟨cell, g1, g2, g3, -⟩ := (hCF.1 x hi).1.kept hS.2.1
  obtain ⟨kC, hkC, -⟩ := Vm.findClass_spec g3
  refine ⟨cell, g1, g2, ⟨kC, hkC⟩, fun comp hcomp => ?_⟩
  cases g3.symm.trans hcomp
  exact Vm.assignable_self _ _
theorem am_aast {a x : Nat} {i : Int32} (C : am_Cx l D dA ad zz bs Ln xs d k p R s m args meth c) (hd : decode (mB k) pc = .ok (.aastore, 1)) (hk : ((kd h a).1 = 4 ∧ kd h x = (10, 0)) ∨ ((kd h a).1 = 5 ∧ kd h x = (0, 4)) ∨ ((kd h a).1 = 6 ∧ kd h x = (0, 2))) (hi : inR i (kd h a).2 = true) (hW : am_WS D dA ad bs Ln xs as h H) (hS : va_S (am_A bs) s.heap H locs) (ha : a < nx h) (hxn : x < nx h)
    (K : ∀ (H1 : Heap) (locs1 : List Loc), am_WS D dA ad bs Ln xs as (setR h a i.toNatClampNeg (some x)) H1 → va_S (am_A bs) s.heap H1 locs1 → W p l e R s m args below meth c H1 locs1 cells slots Q (F0 m (pc + 1) ls rest)) : W p l e R s m args below meth c H locs cells slots Q (F0 m pc ls (.ref (am_phi ad as x) :: .int i :: .ref (am_phi ad as a) :: rest)) := by
  obtain ⟨hx, hb, hml, hr, hlk, hown, htr, hnm, hHH, ⟨hfr, hlo⟩, hKV, hK, hCF, ⟨hbs, hLn⟩, hzz, hinj, hadb, hU1, hU2⟩ := C
  obtain ⟨h0, h1, he⟩ := am_arr_at hW ha (by omega) (by omega)
  have e9 : (fun j => (rv (setR h a i.toNatClampNeg (some x)) a j).map (am_phi ad as)) = va_up (fun j => (rv h a j).map (am_phi ad as)) i.toNatClampNeg (some (am_phi ad as x)) := by
    funext j
    show Option.map _ (u2 _ _ _ _ _ j) = if j = i.toNatClampNeg then _ else _
    rw [u2_self]
    split <;> rfl
  rcases hk with ⟨hk, hx9⟩ | ⟨hk, hx9⟩ | ⟨hk, hx9⟩ <;> rw [hk] at he
  · obtain ⟨g0, g1, g2⟩ := am_const hW hxn (by rw [hx9]; decide)
    have hxi : x < 49 := k_kd_10 (g1.symm.trans hx9)
    refine va_astqM hx hb hK hW.2.1 hW.2.2.1 hS (a - am_NC) 3 he rfl (by rw [am_phi_c g0]; exact am_anyS hCF hS hxi) (inR_vp hi) hd (fun H1 locs1 a1 a2 a3 => K H1 locs1 (am_put_arr (i := 0) (t := 0) (h' := setR h a i.toNatClampNeg (some x)) hW ha (by omega) h0 ?_ (fun _ => rfl) (fun _ _ _ => rfl) (fun _ _ _ => rfl) (fun n i hn => u2_ne hn) rfl (am_VH_R hW.2.2.2.1 hxn) H1 a1 a2) a3)
    rw [hk]
    show (Sum.inl (dA 4, (kd h a).2, Sum.inr (Sum.inr (Sum.inr (Sum.inr (fun j => (rv (setR h a i.toNatClampNeg (some x)) a j).map (am_phi ad as)))))) : va_E) = _
    rw [e9]
  · obtain ⟨y0, y1, -, hy⟩ := am_obj hW hxn hx9
    refine va_astq hx hb hK hW.2.1 hW.2.2.1 hS (a - am_NC) 4 (x - am_NC) 4 he rfl hy rfl (inR_vp hi) hd (fun H1 locs1 a1 a2 a3 => K H1 locs1 (am_put_arr (i := 0) (t := 0) (h' := setR h a i.toNatClampNeg (some x)) hW ha (by omega) h0 ?_ (fun _ => rfl) (fun _ _ _ => rfl) (fun _ _ _ => rfl) (fun n i hn => u2_ne hn) rfl (am_VH_R hW.2.2.2.1 hxn) H1 a1 a2) a3)
    rw [hk]
    show (Sum.inl (dA 5, (kd h a).2, Sum.inr (Sum.inr (Sum.inr (Sum.inr (fun j => (rv (setR h a i.toNatClampNeg (some x)) a j).map (am_phi ad as)))))) : va_E) = _
    rw [e9]
  · obtain ⟨y0, y1, -, hy⟩ := am_obj hW hxn hx9
    refine va_astq hx hb hK hW.2.1 hW.2.2.1 hS (a - am_NC) 5 (x - am_NC) 2 he rfl hy rfl (inR_vp hi) hd (fun H1 locs1 a1 a2 a3 => K H1 locs1 (am_put_arr (i := 0) (t := 0) (h' := setR h a i.toNatClampNeg (some x)) hW ha (by omega) h0 ?_ (fun _ => rfl) (fun _ _ _ => rfl) (fun _ _ _ => rfl) (fun n i hn => u2_ne hn) rfl (am_VH_R hW.2.2.2.1 hxn) H1 a1 a2) a3)
    rw [hk]
    show (Sum.inl (dA 6, (kd h a).2, Sum.inr (Sum.inr (Sum.inr (Sum.inr (fun j => (rv (setR h a i.toNatClampNeg (some x)) a j).map (am_phi ad as)))))) : va_E) = _
    rw [e9]
end ARR
end
section
/-! NEW CELLS, STATICS, CONSTANTS, THE SMALL MEMBERS OF THE JDK. -/
theorem am_phi_ext {ad : Nat → Nat} {as t : List Nat} {n : Nat} (h : n < am_NC + as.length) : am_phi ad (as ++ t) n = am_phi ad as n := by
  unfold am_phi
  by_cases e : n < am_NC
  · rw [if_pos e, if_pos e]
  · rw [if_neg e, if_neg e, List.getD_eq_getElem?_getD, List.getD_eq_getElem?_getD, List.getElem?_append_left (by omega)]
theorem am_cv_ext {ad : Nat → Nat} {zz : Value} {as t : List Nat} {n : Nat} {v : Value} (h : am_V n v) (hn : n ≤ am_NC + as.length) : am_cv ad zz (as ++ t) v = am_cv ad zz as v := by
  cases v <;> first | rfl | (show Value.ref _ = Value.ref _; rw [am_phi_ext (Nat.lt_of_lt_of_le h hn)])
theorem am_st_ext {ad : Nat → Nat} {zz : Value} {as t : List Nat} {n : Nat} {st : List Value} (h : am_VS n st) (hn : n ≤ am_NC + as.length) : st.map (am_cv ad zz (as ++ t)) = st.map (am_cv ad zz as) :=
  List.map_congr_left fun v hv => am_cv_ext (h v hv) hn
theorem am_LR_ext {W : List Nat} {ad : Nat → Nat} {zz : Value} {as t : List Nat} {n nL : Nat} {L : ALs} {ls : Array Slot} (h : am_LR W (am_cv ad zz as) L ls nL) (hV : am_VL n L) (hn : n ≤ am_NC + as.length) : am_LR W (am_cv ad zz (as ++ t)) L ls nL :=
  ⟨h.1, h.2.1, fun i v hi => by rw [am_cv_ext (hV i v hi) hn]; exact h.2.2.1 i v hi, h.2.2.2⟩
theorem am_cv_c {ad : Nat → Nat} {zz : Value} {as : List Nat} {v : Value} (h : am_V am_NC v) : am_cv ad zz as v = am_cv ad zz [] v := by
  cases v <;> first | rfl | (show Value.ref _ = Value.ref _; rw [am_phi_c h, am_phi_c h])
theorem am_ob_ext {dA : Nat → ClassId} {ad : Nat → Nat} {as t : List Nat} {h : AH} {n : Nat} (hV : am_VH h) (hn : nx h ≤ am_NC + as.length) : am_ob dA ad (as ++ t) h n = am_ob dA ad as h n := by
  have e1 : ∀ j, (rv h n j).map (am_phi ad (as ++ t)) = (rv h n j).map (am_phi ad as) := by
    intro j
    cases e : rv h n j with
    | none => rfl
    | some b => exact congrArg some (am_phi_ext (Nat.lt_of_lt_of_le (hV.2.1 n j b e) hn))
  have ef : am_fv ad (as ++ t) h n = am_fv ad as h n := by
    funext ci j
    unfold am_fv
    rw [e1]
  unfold am_ob am_arr
  rw [ef]
  simp only [e1]
/-- the world with one cell more -/
theorem am_ws_new {dA : Nat → ClassId} {ad : Nat → Nat} {as : List Nat} {h : AH} {q N : Nat} {kk : Nat × Nat} (h1 : am_NC + as.length = nx h) (hV : am_VH h) : am_ws dA ad (as ++ [q]) (mkA h kk N) = am_ws dA ad as h ++ [(q, am_ob dA ad (as ++ [q]) (mkA h kk N) (nx h))] := by
  refine List.ext_getElem? fun i => ?_
  have hl : (am_ws dA ad as h).length = as.length := am_ws_len
  by_cases e : i < as.length
  · rw [am_ws_get (by simp; omega), List.getElem?_append_left (by omega), am_ws_get e, am_phi_ext (by omega)]
    have hn : am_NC + i ≠ nx h := by omega
    have e2 : am_ob dA ad (as ++ [q]) (mkA h kk N) (am_NC + i) = am_ob dA ad (as ++ [q]) h (am_NC + i) :=
      am_ob_congr (show (if _ then _ else _) = _ from if_neg hn) (fun j => show (if _ then _ else _) = _ from if_neg hn) (fun j => show (if _ then _ else _) = _ from if_neg hn) (fun j => show (if _ then _ else _) = _ from if_neg hn)
    rw [e2, am_ob_ext hV (by omega)]
  · by_cases e3 : i = as.length
    · subst e3
      rw [am_ws_get (by simp), List.getElem?_append_right (by omega), hl, Nat.sub_self]
      have e4 : am_phi ad (as ++ [q]) (am_NC + as.length) = q := by
        unfold am_phi
        rw [if_neg (by omega), show am_NC + as.length - am_NC = as.length by omega, List.getD_eq_getElem?_getD, List.getElem?_append_right (Nat.le_refl _), Nat.sub_self]
        rfl
      rw [e4, h1]
      rfl
    · rw [List.getElem?_eq_none (by rw [am_ws_len]; simp; omega), List.getElem?_eq_none (by simp [hl]; omega)]
theorem am_VH_mk {h : AH} {kk : Nat × Nat} {N : Nat} (hV : am_VH h) (h6 : kk.1 ≤ 6) (h7 : kk.1 = 0 → kk.2 < 10) : am_VH (mkA h kk N) := by
  refine ⟨Nat.le_succ_of_le hV.1, fun a j b hb => ?_, fun n h1 h2 => ?_⟩
  · have hb' : (if a = nx h then none else h.2.2.2.1 a j) = some b := hb
    split at hb'
    · cases hb'
    · exact Nat.lt_succ_of_lt (hV.2.1 a j b hb')
  · show (if n = nx h then kk else h.1 n).1 ≤ 6 ∧ ((if n = nx h then kk else h.1 n).1 = 0 → (if n = nx h then kk else h.1 n).2 < 10)
    split
    · exact ⟨h6, h7⟩
    · rename_i hn
      have h3 : n < nx h + 1 := h2
      exact hV.2.2 n h1 (by omega)
theorem am_CA_mk {L : Nat} {xs : Nat → Int32} {h : AH} {kk : Nat × Nat} {N : Nat} (hC : am_CA L xs h) (hV : am_VH h) : am_CA L xs (mkA h kk N) := by
  intro n hn
  have e : n ≠ nx h := by have := hV.1; omega
  have e1 : kd (mkA h kk N) n = kd h n := if_neg e
  rw [e1]
  refine ⟨(hC n hn).1, fun j => ?_⟩
  have e2 : iv (mkA h kk N) n j = iv h n j := if_neg e
  have e3 : rv (mkA h kk N) n j = rv h n j := if_neg e
  rw [e2, e3]
  exact (hC n hn).2 j
/-! the tables of new, anewarray, getstatic, ldc -/
def am_nok (e : (Nat × Nat) × Nat × Nat) (w : Nat × Nat) : Bool := decide (e.2.1 < 10) && decide (e.2.2 = (am_cl e.2.1).2.2) && decide (e.2.2 = fnum e.2.1) && am_wd w.1 (.classLink (cNm e.1.1) e.1.2 (am_cl e.2.1).1) && am_wd w.2 (.instantiable (am_cl e.2.1).1 e.2.2) && decide (Cond.initialized (am_cl e.2.1).1 ∈ lw_tbl)
theorem am_nck : (nT.zip nWs).all (fun q => am_nok q.1 q.2) = true := by decide +kernel
theorem am_nln : nT.length = nWs.length := by decide +kernel
theorem am_n_at {c i : Nat} {r : Nat × Nat} (h : nR c i = some r) : ∃ w, am_nok ((c, i), r) w = true := by
  obtain ⟨w, hw⟩ := am_zip am_nln (am_lookup h)
  exact ⟨w, List.all_eq_true.mp am_nck _ hw⟩
def am_aNm (t : Nat) : String := if t = 4 then "MarkShelter$Sign" else if t = 5 then "MarkShelter$Stray" else "MarkShelter$Order"
def am_aok (e : (Nat × Nat) × Nat × Nat) : Bool := decide (4 ≤ e.2.1 ∧ e.2.1 ≤ 6) && am_wd e.2.2 (.classLink (cNm e.1.1) e.1.2 (am_aNm e.2.1))
theorem am_ack : aT.all am_aok = true := by decide +kernel
def am_vok : Value → Bool
  | .ref n => decide (n < am_NC)
  | _ => true
def am_sok (e : (Nat × Nat) × Value) (w : String × String × String × String × Nat) : Bool := am_vok e.2 && (if w.2.2.2.1 = "" then am_wd w.2.2.2.2 (.fieldLink (cNm e.1.1) e.1.2 w.1 w.2.1 w.2.2.1) else am_wn w.2.2.2.2 (.fieldLinkNest (cNm e.1.1) e.1.2 w.1 w.2.1 w.2.2.1 w.2.2.2.1))
theorem am_sck : (sT.zip sWs).all (fun q => am_sok q.1 q.2) = true := by decide +kernel
theorem am_sln : sT.length = sWs.length := by decide +kernel
def am_lok (e : (Nat × Nat) × Value × Nat) : Bool := match e.2.1 with
  | .long x => am_wd e.2.2 (.constantLong (cNm e.1.1) e.1.2 x)
  | .ref n => decide (e.1.1 = 9 ∧ e.1.2 = 93 ∧ n = 105)
  | _ => false
theorem am_lck : lT.all am_lok = true := by decide +kernel
theorem am_vok_V {v : Value} (h : am_vok v = true) : am_V am_NC v := by
  cases v <;> first | exact trivial | exact (of_decide_eq_true h : _ < am_NC)
def am_dv : Nat → Value
  | 1 => .int 0
  | 2 => .long 0
  | _ => .null
section MK
variable {l : Launch} {D : va_G} {dA : Nat → ClassId} {ad : Nat → Nat} {zz : Value} {bs Ln : Nat} {xs : Nat → Int32} {d k : Nat} {p : Program} {e : Env} {R : Room} {s : State} {m : MethodId} {args : Array Value} {below : List Frame} {meth : Method} {c : Code} {as0 : List Nat} {c0 s0 : Nat} {Q : State → Prop} {pc : Nat} {Lo : ALs} {st : List Value} {h h' : AH}
variable {as : List Nat} {H : Heap} {locs : List Loc} {ls : Array Slot} {cells slots : Nat} {rest : List Value}
theorem am_fv_mk {as : List Nat} {N ci j : Nat} : am_fv ad as (mkA h (0, ci) N) (nx h) ci j = am_dv ((fsT.getD ci []).getD j 0) := by
  have e1 : iv (mkA h (0, ci) N) (nx h) j = 0 := if_pos rfl
  have e2 : jv (mkA h (0, ci) N) (nx h) j = 0 := if_pos rfl
  have e3 : rv (mkA h (0, ci) N) (nx h) j = none := if_pos rfl
  unfold am_fv
  rw [e1, e2, e3]
  generalize (fsT.getD ci []).getD j 0 = t
  rcases t with _ | _ | _ | t <;> rfl
theorem am_dflt {t : Nat} {ty : FieldType} (h : am_tyok t ty = true) : defaultValue ty = am_dv t := by
  cases ty <;> simp [am_tyok] at h <;> subst h <;> rfl
theorem sm_new {ix ci N : Nat} (C : am_Cx l D dA ad zz bs Ln xs d k p R s m args meth c) (hd : decode (mB k) pc = .ok (.new ix, 3)) (hn : nR (mC k) ix = some (ci, N)) (hcr : nc h + 1 ≤ R.cells + c0) (hsr : ns h + N ≤ R.slots + s0)
    (K : am_Sim D dA ad zz bs Ln xs k p l e R s m args below meth c as0 c0 s0 Q (pc + 3) Lo (.ref (nx h) :: st) (mkA h (0, ci) N)) : am_Sim D dA ad zz bs Ln xs k p l e R s m args below meth c as0 c0 s0 Q pc Lo st h := by
  obtain ⟨hx, hb, hml, hr, hlk, hown, htr, hnm, hHH, ⟨hfr, hlo⟩, hKV, hK, hCF, ⟨hbs, hLn⟩, hzz, hinj, hadb, hU1, hU2⟩ := C
  intro as H locs ls hX hW hS hL hVL hVS hc hs
  have hts := am_hts (args := args) hKV
  obtain ⟨w, hok⟩ := am_n_at hn
  unfold am_nok at hok
  simp only [Bool.and_eq_true, decide_eq_true_eq] at hok
  obtain ⟨⟨⟨⟨⟨hci, hN⟩, hN2⟩, hw1⟩, hw2⟩, hw3⟩ := hok
  have hcl := am_cl_at hci
  have hn9 : nx h ≤ am_NC + as.length := by rw [hW.1]; exact Nat.le_refl _
  refine va_new (ci := ci) (fs := (List.range (fnum ci)).map (am_fv ad (as ++ [0]) (mkA h (0, ci) N) (nx h) ci)) hx hb hts (am_lays_in hcl) (am_ty ci) (fun j hj => (am_ty_ok hci hj).1) hown (hts _ (am_wd_mem hw1)) (by rw [← hN]; exact hts _ (am_wd_mem hw2)) (hts _ (List.mem_filter.mpr ⟨hw3, rfl⟩)) hK hW.2.1 hW.2.2.1 hS (fun q hq => Nat.le_trans hbs hq) hcl (fun j hj => ?_) (by omega) (by rw [← hN]; omega) hd (fun q H1 a1 a2 a3 => ?_)
  · unfold vp_V
    rw [List.getD_eq_getElem?_getD, am_fv_get (by rw [← hN2, hN]; exact hj), am_fv_mk]
    exact am_dflt (am_ty_ok hci hj).2
  · have e1 : ∀ j, am_fv ad (as ++ [0]) (mkA h (0, ci) N) (nx h) ci j = am_fv ad (as ++ [q]) (mkA h (0, ci) N) (nx h) ci j := fun j => by rw [am_fv_mk, am_fv_mk]
    have e2 : (List.range (fnum ci)).map (am_fv ad (as ++ [0]) (mkA h (0, ci) N) (nx h) ci) = (List.range (fnum ci)).map (am_fv ad (as ++ [q]) (mkA h (0, ci) N) (nx h) ci) := List.map_congr_left fun j _ => e1 j
    have e3 : am_ob dA ad (as ++ [q]) (mkA h (0, ci) N) (nx h) = .inr (ci, (List.range (fnum ci)).map (am_fv ad (as ++ [q]) (mkA h (0, ci) N) (nx h) ci)) := by
      have e4 : kd (mkA h (0, ci) N) (nx h) = (0, ci) := if_pos rfl
      unfold am_ob
      rw [e4]
      rfl
    rw [e2, ← e3, ← am_ws_new hW.1 hW.2.2.2.1] at a1 a2
    have hn8 : am_NC + as.length = nx h := hW.1
    have K9 := K (as ++ [q]) H1 locs ls (by obtain ⟨t9, rfl⟩ := hX; exact ⟨t9 ++ [q], by rw [List.append_assoc]⟩) ⟨by show am_NC + (as ++ [q]).length = nx h + 1; rw [List.length_append]; show am_NC + (as.length + 1) = _; omega, a1, a2, am_VH_mk hW.2.2.2.1 (Nat.zero_le _) (fun _ => hci), am_CA_mk hW.2.2.2.2 hW.2.2.2.1⟩ a3 (am_LR_ext hL hVL hn9) (hVL.mono (Nat.le_succ _)) (am_VS.cons (Nat.lt_succ_self _) (hVS.mono (Nat.le_succ _))) (Nat.le_succ_of_le hc) (Nat.le_trans hs (Nat.le_add_right _ _))
    have e5 : am_phi ad (as ++ [q]) (nx h) = q := by
      rw [← hn8]
      unfold am_phi
      rw [if_neg (by omega), show am_NC + as.length - am_NC = as.length by omega, List.getD_eq_getElem?_getD, List.getElem?_append_right (Nat.le_refl _), Nat.sub_self]
      rfl
    have e6 : nc (mkA h (0, ci) N) - c0 = nc h - c0 + 1 := by show nc h + 1 - c0 = _; omega
    have e7 : ns (mkA h (0, ci) N) - s0 = ns h - s0 + (am_cl ci).2.2 := by show ns h + N - s0 = _; omega
    rw [e6, e7, List.map_cons, am_st_ext hVS hn9] at K9
    have e8 : am_cv ad zz (as ++ [q]) (.ref (nx h)) = .ref q := by show Value.ref _ = _; rw [e5]
    rw [e8] at K9
    exact K9
end MK
end
section
/-! NEW ARRAYS, STATICS, CONSTANTS, THE SMALL MEMBERS OF THE JDK. -/
section MK2
variable {l : Launch} {D : va_G} {dA : Nat → ClassId} {ad : Nat → Nat} {zz : Value} {bs Ln : Nat} {xs : Nat → Int32} {d k : Nat} {p : Program} {e : Env} {R : Room} {s : State} {m : MethodId} {args : Array Value} {below : List Frame} {meth : Method} {c : Code} {as0 : List Nat} {c0 s0 : Nat} {Q : State → Prop} {pc : Nat} {Lo : ALs} {st : List Value} {h h' : AH}
variable {as : List Nat} {H : Heap} {locs : List Loc} {ls : Array Slot} {cells slots : Nat} {rest : List Value}
/-- on, with a cell more -/
theorem am_mk_on {q pc' : Nat} {kk : Nat × Nat} {N : Nat} {x : va_E} (hX : ∃ t9, as = as0 ++ t9) (hW : am_WS D dA ad bs Ln xs as h H) (hL : am_LR (mW k) (am_cv ad zz as) Lo ls (mL k)) (hVL : am_VL (nx h) Lo) (hVS : am_VS (nx h) st) (hc : c0 ≤ nc h) (hs : s0 ≤ ns h) (h6 : kk.1 ≤ 6) (h7 : kk.1 = 0 → kk.2 < 10) {H1 : Heap} {locs1 : List Loc} (hx : am_ob dA ad (as ++ [q]) (mkA h kk N) (nx h) = x)
    (a1 : va_P D vwCl (am_ws dA ad as h ++ [(q, x)]) H1) (a2 : va_D (am_A bs) (am_ws dA ad as h ++ [(q, x)])) (a3 : va_S (am_A bs) s.heap H1 locs1)
    (K : am_Sim D dA ad zz bs Ln xs k p l e R s m args below meth c as0 c0 s0 Q pc' Lo (.ref (nx h) :: st) (mkA h kk N)) : W p l e R s m args below meth c H1 locs1 (nc h - c0 + 1) (ns h - s0 + N) Q (F0 m pc' ls (.ref q :: st.map (am_cv ad zz as))) := by
  rw [← hx, ← am_ws_new hW.1 hW.2.2.2.1] at a1 a2
  have hn9 : nx h ≤ am_NC + as.length := by rw [hW.1]; exact Nat.le_refl _
  have hn8 : am_NC + as.length = nx h := hW.1
  have K9 := K (as ++ [q]) H1 locs1 ls (by obtain ⟨t9, rfl⟩ := hX; exact ⟨t9 ++ [q], by rw [List.append_assoc]⟩) ⟨by show am_NC + (as ++ [q]).length = nx h + 1; rw [List.length_append]; show am_NC + (as.length + 1) = _; omega, a1, a2, am_VH_mk hW.2.2.2.1 h6 h7, am_CA_mk hW.2.2.2.2 hW.2.2.2.1⟩ a3 (am_LR_ext hL hVL hn9) (hVL.mono (Nat.le_succ _)) (am_VS.cons (Nat.lt_succ_self _) (hVS.mono (Nat.le_succ _))) (Nat.le_succ_of_le hc) (Nat.le_trans hs (Nat.le_add_right _ _))
  have e5 : am_phi ad (as ++ [q]) (nx h) = q := by
    rw [← hn8]
    unfold am_phi
    rw [if_neg (by omega), show am_NC + as.length - am_NC = as.length by omega, List.getD_eq_getElem?_getD, List.getElem?_append_right (Nat.le_refl _), Nat.sub_self]
    rfl
  have e6 : nc (mkA h kk N) - c0 = nc h - c0 + 1 := by show nc h + 1 - c0 = _; omega
  have e7 : ns (mkA h kk N) - s0 = ns h - s0 + N := by show ns h + N - s0 = _; omega
  rw [e6, e7, List.map_cons, am_st_ext hVS hn9] at K9
  have e8 : am_cv ad zz (as ++ [q]) (.ref (nx h)) = .ref q := by show Value.ref _ = _; rw [e5]
  rw [e8] at K9
  exact K9
theorem am_ob_mkI {as : List Nat} {t z : Nat} (ht : t = 1 ∨ t = 3) : am_ob dA ad as (mkA h (t, z) z) (nx h) = .inl (dA t, z, .inl (fun _ => 0)) := by
  have e4 : kd (mkA h (t, z) z) (nx h) = (t, z) := if_pos rfl
  have e1 : (fun i => iv (mkA h (t, z) z) (nx h) i) = fun _ => 0 := funext fun j => if_pos rfl
  unfold am_ob
  rw [e4]
  rcases ht with rfl | rfl
  · show (Sum.inl (dA 1, z, Sum.inl (fun i => iv (mkA h (1, z) z) (nx h) i)) : va_E) = _
    rw [e1]
  · show (Sum.inl (dA 3, z, Sum.inl (fun i => iv (mkA h (3, z) z) (nx h) i)) : va_E) = _
    rw [e1]
theorem am_ob_mkJ {as : List Nat} {z : Nat} : am_ob dA ad as (mkA h (2, z) z) (nx h) = .inl (dA 2, z, .inr (.inl (fun _ => 0))) := by
  have e4 : kd (mkA h (2, z) z) (nx h) = (2, z) := if_pos rfl
  have e1 : (fun i => jv (mkA h (2, z) z) (nx h) i) = fun _ => 0 := funext fun j => if_pos rfl
  unfold am_ob
  rw [e4]
  show (Sum.inl (dA 2, z, Sum.inr (Sum.inl (fun i => jv (mkA h (2, z) z) (nx h) i))) : va_E) = _
  rw [e1]
theorem am_ob_mkR {as : List Nat} {t z : Nat} (ht : t = 4 ∨ t = 5 ∨ t = 6) : am_ob dA ad as (mkA h (t, z) z) (nx h) = .inl (dA t, z, .inr (.inr (.inr (.inr (fun _ => none))))) := by
  have e4 : kd (mkA h (t, z) z) (nx h) = (t, z) := if_pos rfl
  have e1 : (fun i => (rv (mkA h (t, z) z) (nx h) i).map (am_phi ad as)) = fun _ => none := funext fun j => by
    have : rv (mkA h (t, z) z) (nx h) j = none := if_pos rfl
    rw [this]
    rfl
  unfold am_ob
  rw [e4]
  rcases ht with rfl | rfl | rfl
  · show (Sum.inl (dA 4, z, Sum.inr (Sum.inr (Sum.inr (Sum.inr (fun i => (rv (mkA h (4, z) z) (nx h) i).map (am_phi ad as)))))) : va_E) = _
    rw [e1]
  · show (Sum.inl (dA 5, z, Sum.inr (Sum.inr (Sum.inr (Sum.inr (fun i => (rv (mkA h (5, z) z) (nx h) i).map (am_phi ad as)))))) : va_E) = _
    rw [e1]
  · show (Sum.inl (dA 6, z, Sum.inr (Sum.inr (Sum.inr (Sum.inr (fun i => (rv (mkA h (6, z) z) (nx h) i).map (am_phi ad as)))))) : va_E) = _
    rw [e1]
theorem am_arrw : (decide (Cond.arrayClass .int ∈ lw_tbl) && decide (Cond.arrayClass .long ∈ lw_tbl) && decide (Cond.arrayClass .byte ∈ lw_tbl)) = true := by decide +kernel
set_option maxHeartbeats 1000000 in
theorem sm_newarray {t : ArrayType} {tt : Nat} {z : Int32} (htt : (t = .int ∧ tt = 1) ∨ (t = .long ∧ tt = 2) ∨ (t = .byte ∧ tt = 3)) (C : am_Cx l D dA ad zz bs Ln xs d k p R s m args meth c) (hd : decode (mB k) pc = .ok (.newarray t, 2)) (hz : ¬ z < 0) (hz2 : z.toNatClampNeg ≤ 10000) (hcr : nc h + 1 ≤ R.cells + c0) (hsr : ns h + z.toNatClampNeg ≤ R.slots + s0)
    (K : am_Sim D dA ad zz bs Ln xs k p l e R s m args below meth c as0 c0 s0 Q (pc + 2) Lo (.ref (nx h) :: st) (mkA h (tt, z.toNatClampNeg) z.toNatClampNeg)) : am_Sim D dA ad zz bs Ln xs k p l e R s m args below meth c as0 c0 s0 Q pc Lo (.int z :: st) h := by
  obtain ⟨hx, hb, hml, hr, hlk, hown, htr, hnm, hHH, ⟨hfr, hlo⟩, hKV, hK, hCF, ⟨hbs, hLn⟩, hzz, hinj, hadb, hU1, hU2⟩ := C
  intro as H locs ls hX hW hS hL hVL hVS hc hs
  have hts := am_hts (args := args) hKV
  have hw := am_arrw
  simp only [Bool.and_eq_true, decide_eq_true_eq] at hw
  have hA : ∀ q, s.heap.size ≤ q → am_A bs q := fun q hq => Nat.le_trans hbs hq
  rcases htt with ⟨rfl, rfl⟩ | ⟨rfl, rfl⟩ | ⟨rfl, rfl⟩
  · refine va_newa (atype := .int) (ty := .int) (N' := z.toNatClampNeg) (a0 := (z.toNatClampNeg, .inl (fun _ => 0))) hx hb (hts _ (List.mem_filter.mpr ⟨hw.1.1, rfl⟩)) rfl hK hW.2.1 hW.2.2.1 hS hA (fun cA => rfl) hz rfl (by show _ * 4 ≤ _; omega) (by omega) (by omega) hd (fun q cA H1 k1 a1 a2 a3 => ?_)
    have e1 : s.vm.findClass _ = some cA := (k1.2 6 (cA, .int) rfl).2
    have e2 : s.vm.findClass _ = some (dA 1) := (hK.2 0 (dA 1, .int) rfl).2
    cases e1.symm.trans e2
    exact am_mk_on hX hW hL hVL hVS.tl hc hs (by show 1 ≤ 6; decide) (fun q => absurd q (by show ¬ 1 = 0; decide)) (am_ob_mkI (Or.inl rfl)) a1 a2 a3 K
  · refine va_newa (atype := .long) (ty := .long) (N' := z.toNatClampNeg) (a0 := (z.toNatClampNeg, .inr (.inl (fun _ => 0)))) hx hb (hts _ (List.mem_filter.mpr ⟨hw.1.2, rfl⟩)) rfl hK hW.2.1 hW.2.2.1 hS hA (fun cA => rfl) hz rfl (by show _ * 8 ≤ _; omega) (by omega) (by omega) hd (fun q cA H1 k1 a1 a2 a3 => ?_)
    have e1 : s.vm.findClass _ = some cA := (k1.2 6 (cA, .long) rfl).2
    have e2 : s.vm.findClass _ = some (dA 2) := (hK.2 1 (dA 2, .long) rfl).2
    cases e1.symm.trans e2
    exact am_mk_on hX hW hL hVL hVS.tl hc hs (by show 2 ≤ 6; decide) (fun q => absurd q (by show ¬ 2 = 0; decide)) am_ob_mkJ a1 a2 a3 K
  · refine va_newa (atype := .byte) (ty := .byte) (N' := z.toNatClampNeg) (a0 := (z.toNatClampNeg, .inl (fun _ => 0))) hx hb (hts _ (List.mem_filter.mpr ⟨hw.2, rfl⟩)) rfl hK hW.2.1 hW.2.2.1 hS hA (fun cA => rfl) hz rfl (by show _ * 1 ≤ _; omega) (by omega) (by omega) hd (fun q cA H1 k1 a1 a2 a3 => ?_)
    have e1 : s.vm.findClass _ = some cA := (k1.2 6 (cA, .byte) rfl).2
    have e2 : s.vm.findClass _ = some (dA 3) := (hK.2 2 (dA 3, .byte) rfl).2
    cases e1.symm.trans e2
    exact am_mk_on hX hW hL hVL hVS.tl hc hs (by show 3 ≤ 6; decide) (fun q => absurd q (by show ¬ 3 = 0; decide)) (am_ob_mkI (Or.inr rfl)) a1 a2 a3 K
theorem am_a_at {c i t : Nat} (h : aR c i = some t) : ∃ w, am_aok ((c, i), t, w) = true := by
  unfold aR at h
  cases e : aT.lookup (c, i) with
  | none => rw [e] at h; cases h
  | some r =>
    rw [e] at h
    obtain ⟨r1, r2⟩ := r
    cases h
    exact ⟨r2, List.all_eq_true.mp am_ack _ (am_lookup e)⟩
set_option maxHeartbeats 1000000 in
theorem sm_anewarray {ix t : Nat} {z : Int32} (C : am_Cx l D dA ad zz bs Ln xs d k p R s m args meth c) (hd : decode (mB k) pc = .ok (.anewarray ix, 3)) (ha : aR (mC k) ix = some t) (hz : ¬ z < 0) (hz2 : z.toNatClampNeg ≤ 10000) (hcr : nc h + 1 ≤ R.cells + c0) (hsr : ns h + z.toNatClampNeg ≤ R.slots + s0)
    (K : am_Sim D dA ad zz bs Ln xs k p l e R s m args below meth c as0 c0 s0 Q (pc + 3) Lo (.ref (nx h) :: st) (mkA h (t, z.toNatClampNeg) z.toNatClampNeg)) : am_Sim D dA ad zz bs Ln xs k p l e R s m args below meth c as0 c0 s0 Q pc Lo (.int z :: st) h := by
  obtain ⟨hx, hb, hml, hr, hlk, hown, htr, hnm, hHH, ⟨hfr, hlo⟩, hKV, hK, hCF, ⟨hbs, hLn⟩, hzz, hinj, hadb, hU1, hU2⟩ := C
  intro as H locs ls hX hW hS hL hVL hVS hc hs
  have hts := am_hts (args := args) hKV
  have hA : ∀ q, s.heap.size ≤ q → am_A bs q := fun q hq => Nat.le_trans hbs hq
  obtain ⟨w, hok⟩ := am_a_at ha
  unfold am_aok at hok
  simp only [Bool.and_eq_true, decide_eq_true_eq] at hok
  obtain ⟨ht, hw⟩ := hok
  rcases (show t = 4 ∨ t = 5 ∨ t = 6 by omega) with rfl | rfl | rfl
  · refine va_newq (C := "MarkShelter$Sign") (N' := z.toNatClampNeg) hx hb hown (hts _ (am_wd_mem hw)) hKV.2.2.1.1 hK hW.2.1 hW.2.2.1 hS hA hz rfl (by omega) (by omega) (by omega) hd (fun q cA H1 k1 a1 a2 a3 => ?_)
    obtain ⟨_, _, _, _, _, e1⟩ := (k1.2 6 (cA, .object "MarkShelter$Sign") rfl).2
    obtain ⟨_, _, _, _, _, e2⟩ := (hK.2 3 (dA 4, .object "MarkShelter$Sign") rfl).2
    cases e1.symm.trans e2
    exact am_mk_on hX hW hL hVL hVS.tl hc hs (by show 4 ≤ 6; decide) (fun q => absurd q (by show ¬ 4 = 0; decide)) (am_ob_mkR (Or.inl rfl)) a1 a2 a3 K
  · refine va_newq (C := "MarkShelter$Stray") (N' := z.toNatClampNeg) hx hb hown (hts _ (am_wd_mem hw)) hKV.2.2.1.2.1 hK hW.2.1 hW.2.2.1 hS hA hz rfl (by omega) (by omega) (by omega) hd (fun q cA H1 k1 a1 a2 a3 => ?_)
    obtain ⟨_, _, _, _, _, e1⟩ := (k1.2 6 (cA, .object "MarkShelter$Stray") rfl).2
    obtain ⟨_, _, _, _, _, e2⟩ := (hK.2 4 (dA 5, .object "MarkShelter$Stray") rfl).2
    cases e1.symm.trans e2
    exact am_mk_on hX hW hL hVL hVS.tl hc hs (by show 5 ≤ 6; decide) (fun q => absurd q (by show ¬ 5 = 0; decide)) (am_ob_mkR (Or.inr (Or.inl rfl))) a1 a2 a3 K
  · refine va_newq (C := "MarkShelter$Order") (N' := z.toNatClampNeg) hx hb hown (hts _ (am_wd_mem hw)) hKV.2.2.1.2.2 hK hW.2.1 hW.2.2.1 hS hA hz rfl (by omega) (by omega) (by omega) hd (fun q cA H1 k1 a1 a2 a3 => ?_)
    obtain ⟨_, _, _, _, _, e1⟩ := (k1.2 6 (cA, .object "MarkShelter$Order") rfl).2
    obtain ⟨_, _, _, _, _, e2⟩ := (hK.2 5 (dA 6, .object "MarkShelter$Order") rfl).2
    cases e1.symm.trans e2
    exact am_mk_on hX hW hL hVL hVS.tl hc hs (by show 6 ≤ 6; decide) (fun q => absurd q (by show ¬ 6 = 0; decide)) (am_ob_mkR (Or.inr (Or.inr rfl))) a1 a2 a3 K
theorem am_s_at {c i : Nat} {v : Value} (h : sR c i = some v) : ∃ (j : Nat) (w : String × String × String × String × Nat), sT[j]? = some ((c, i), v) ∧ sWs[j]? = some w ∧ am_sok ((c, i), v) w = true := by
  obtain ⟨j, hj, he⟩ := List.getElem_of_mem (am_lookup h)
  have hl : j < sWs.length := by rw [← am_sln]; exact hj
  have h1 : sT[j]? = some ((c, i), v) := by rw [List.getElem?_eq_getElem hj, he]
  refine ⟨j, sWs[j], h1, List.getElem?_eq_getElem hl, ?_⟩
  have h2 : ((sT.zip sWs))[j]'(by rw [List.length_zip]; omega) ∈ sT.zip sWs := List.getElem_mem _
  have h3 := List.all_eq_true.mp am_sck _ h2
  rw [List.getElem_zip, he] at h3
  exact h3
theorem sm_getstatic {ix : Nat} {v : Value} (C : am_Cx l D dA ad zz bs Ln xs d k p R s m args meth c) (hd : decode (mB k) pc = .ok (.getstatic ix, 3)) (hv : sR (mC k) ix = some v)
    (K : am_Sim D dA ad zz bs Ln xs k p l e R s m args below meth c as0 c0 s0 Q (pc + 3) Lo (v :: st) h) : am_Sim D dA ad zz bs Ln xs k p l e R s m args below meth c as0 c0 s0 Q pc Lo st h := by
  obtain ⟨hx, hb, hml, hr, hlk, hown, htr, hnm, hHH, ⟨hfr, hlo⟩, hKV, hK, hCF, ⟨hbs, hLn⟩, hzz, hinj, hadb, hU1, hU2⟩ := C
  intro as H locs ls hX hW hS hL hVL hVS hc hs
  have hts := am_hts (args := args) hKV
  obtain ⟨j, w, h1, h2, hok⟩ := am_s_at hv
  have hZ := hCF.2.2.1 j _ _ h1 h2
  unfold am_sok at hok
  rw [Bool.and_eq_true] at hok
  obtain ⟨hvo, hlk9⟩ := hok
  have hV := am_vok_V hvo
  have hV2 : am_V (nx h) v := hV.mono hW.2.2.2.1.1
  have K9 := K as H locs ls hX hW hS hL hVL (am_VS.cons hV2 hVS) hc hs
  rw [List.map_cons, am_cv_c hV] at K9
  split at hlk9
  · exact va_gets hx hb hZ hS hown (hts _ (am_wd_mem hlk9)) (fun _ q => q) hd K9
  · exact va_getsN hx hb hZ hS hown (va_Nw.use rfl (hKV.2.1 _ (am_wn_mem hlk9))) (fun _ q => q) hd K9
theorem am_l_at {c i : Nat} {v : Value} (h : lR c i = some v) : ∃ w, am_lok ((c, i), v, w) = true := by
  unfold lR at h
  cases e : lT.lookup (c, i) with
  | none => rw [e] at h; cases h
  | some r =>
    rw [e] at h
    obtain ⟨r1, r2⟩ := r
    cases h
    exact ⟨r2, List.all_eq_true.mp am_lck _ (am_lookup e)⟩
theorem sm_ldc2 {ix : Nat} {v : Int64} (C : am_Cx l D dA ad zz bs Ln xs d k p R s m args meth c) (hd : decode (mB k) pc = .ok (.ldc2_w ix, 3)) (hv : lR (mC k) ix = some (.long v))
    (K : am_Sim D dA ad zz bs Ln xs k p l e R s m args below meth c as0 c0 s0 Q (pc + 3) Lo (.long v :: st) h) : am_Sim D dA ad zz bs Ln xs k p l e R s m args below meth c as0 c0 s0 Q pc Lo st h := by
  obtain ⟨hx, hb, hml, hr, hlk, hown, htr, hnm, hHH, ⟨hfr, hlo⟩, hKV, hK, hCF, ⟨hbs, hLn⟩, hzz, hinj, hadb, hU1, hU2⟩ := C
  intro as H locs ls hX hW hS hL hVL hVS hc hs
  obtain ⟨w, hok⟩ := am_l_at hv
  exact lv_ldc2 hx hb hown (am_hts hKV _ (am_wd_mem hok)) hd (K as H locs ls hX hW hS hL hVL (am_VS.cons trivial hVS) hc hs)
theorem sm_ldcS {ix n : Nat} (C : am_Cx l D dA ad zz bs Ln xs d k p R s m args meth c) (hd : decode (mB k) pc = .ok (.ldc ix, 2)) (hv : lR (mC k) ix = some (.ref n))
    (K : am_Sim D dA ad zz bs Ln xs k p l e R s m args below meth c as0 c0 s0 Q (pc + 2) Lo (.ref n :: st) h) : am_Sim D dA ad zz bs Ln xs k p l e R s m args below meth c as0 c0 s0 Q pc Lo st h := by
  obtain ⟨hx, hb, hml, hr, hlk, hown, htr, hnm, hHH, ⟨hfr, hlo⟩, hKV, hK, hCF, ⟨hbs, hLn⟩, hzz, hinj, hadb, hU1, hU2⟩ := C
  intro as H locs ls hX hW hS hL hVL hVS hc hs
  obtain ⟨w, hok⟩ := am_l_at hv
  unfold am_lok at hok
  simp only [decide_eq_true_eq] at hok
  obtain ⟨e1, e2, rfl⟩ := hok
  rw [e1] at hown
  subst e2
  have K9 := K as H locs ls hX hW hS hL hVL (am_VS.cons (show 105 < nx h from Nat.lt_of_lt_of_le (by decide) hW.2.2.2.1.1) hVS) hc hs
  rw [List.map_cons] at K9
  have e3 : am_cv ad zz as (.ref 105) = .ref (ad 105) := by show Value.ref _ = _; rw [am_phi_c (by decide)]
  rw [e3] at K9
  exact va_ldcS hx hb hown hKV.2.2.2.2.1 hd K9
end MK2
end
section
/-! CALLS: the tables, and the members of the JDK that the kit has rows for. -/
def am_mhd (y : MethodName) : Bool := decide (y.cls ≠ "java/lang/invoke/MethodHandle") && decide (y.cls ≠ "java/lang/invoke/VarHandle") && plainName y.cls && decide (y.name ≠ "law")
def am_cw (k : Nat) : Cond := .code (mY k) (mB k) (mL k) (mRT k)
def am_cwH (k : Nat) : Cond := .codeWith (mY k) (mB k) (mL k) (mRT k) (mH k)
/-- a row of calls, held to its words -/
def am_cok (e : (Nat × Nat) × Nat × Nat × Nat × (Nat × Nat)) (w : String × Nat) : Bool :=
  let c := e.1.1; let i := e.1.2; let y := e.2.1; let n := e.2.2.1; let kc := e.2.2.2.1; let rk := e.2.2.2.2
  if kc = 9 then am_wd w.2 (.methodLink (cNm c) i Lib.objectInit)
  else if kc = 8 then am_wd w.2 (.methodLink (cNm c) i arraycopyName)
  else if kc = 10 then am_wd w.2 (.methodLink (cNm c) i Lib.Math.max.name)
  else if kc = 11 then am_wd w.2 (.methodLink (cNm c) i Lib.Math.min.name)
  else if kc = 5 then am_wd w.2 (.methodLink (cNm c) i ⟨"MarkShelter$Sign", "ordinal", "()I"⟩) && decide (n = 0) && decide (rk = (10, 0)) && decide (mY y = ⟨"java/lang/Enum", "ordinal", "()I"⟩)
  else decide ((parseMethodDescriptor (mY y).desc).map (fun d => d.parameters.length) = some n) &&
    (if kc = 1 ∨ kc = 4 then am_wn w.2 (.methodLinkNest (cNm c) i (mY y) w.1) else am_wd w.2 (.methodLink (cNm c) i (mY y))) &&
    (if kc = 7 then !(mH y).isEmpty else (mH y).isEmpty) &&
    (if kc = 3 ∨ kc = 4 then decide ((mY y).name = "<init>") && decide (mRT y = none) else true) &&
    (if kc = 2 then (decide (rk.1 = 0) && decide (rk.2 < 10) && decide ((am_cl rk.2).1 = (mY y).cls)) || (decide (rk = (11, 0)) && decide ((mY y).cls = "java/lang/String")) else true) &&
    (decide (kc = 0) || decide (kc = 1) || decide (kc = 2) || decide (kc = 3) || decide (kc = 4) || decide (kc = 7))
theorem am_cck : (cT.zip cWs).all (fun q => am_cok q.1 q.2) = true := by decide +kernel
theorem am_cln : cT.length = cWs.length := by decide +kernel
theorem am_c_at {c i : Nat} {r : Nat × Nat × Nat × (Nat × Nat)} (h : cR c i = some r) : ∃ w, am_cok ((c, i), r) w = true := by
  obtain ⟨w, hw⟩ := am_zip am_cln (am_lookup h)
  exact ⟨w, List.all_eq_true.mp am_cck _ hw⟩
/-- a callee, held to its words -/
def am_kok (y kc : Nat) (w : Nat × Nat × Nat × Nat) : Bool :=
  am_mhd (mY y) && decide ((mY y).cls = cNm (mC y)) && decide (mL y ≤ 20) && am_wd w.1 (.initialized (mY y).cls) &&
  am_wd w.2.1 (if kc = 7 then am_cwH y else am_cw y) &&
  am_wd w.2.2.1 (if kc = 0 ∨ kc = 1 ∨ kc = 7 then .static (mY y) else .instanceMethod (mY y)) &&
  (if kc = 2 then am_wd w.2.2.2 (.selects (mY y).cls (mY y) (mY y)) else if kc = 5 then am_wd w.2.2.2 (.selects "MarkShelter$Sign" ⟨"MarkShelter$Sign", "ordinal", "()I"⟩ (mY y)) else true)
theorem am_kck0 : kT0.all (fun q => am_kok q.1 q.2.1 q.2.2) = true := by decide +kernel
theorem am_kck1 : kT1.all (fun q => am_kok q.1 q.2.1 q.2.2) = true := by decide +kernel
theorem am_kck2 : kT2.all (fun q => am_kok q.1 q.2.1 q.2.2) = true := by decide +kernel
theorem am_kck3 : kT3.all (fun q => am_kok q.1 q.2.1 q.2.2) = true := by decide +kernel
theorem am_kck4 : kT4.all (fun q => am_kok q.1 q.2.1 q.2.2) = true := by decide +kernel
theorem am_kck5 : kT5.all (fun q => am_kok q.1 q.2.1 q.2.2) = true := by decide +kernel
theorem am_kck6 : kT6.all (fun q => am_kok q.1 q.2.1 q.2.2) = true := by decide +kernel
theorem am_kck7 : kT7.all (fun q => am_kok q.1 q.2.1 q.2.2) = true := by decide +kernel
theorem am_kck8 : kT8.all (fun q => am_kok q.1 q.2.1 q.2.2) = true := by decide +kernel
theorem am_kck9 : kT9.all (fun q => am_kok q.1 q.2.1 q.2.2) = true := by decide +kernel
theorem am_kck10 : kT10.all (fun q => am_kok q.1 q.2.1 q.2.2) = true := by decide +kernel
theorem am_kck11 : kT11.all (fun q => am_kok q.1 q.2.1 q.2.2) = true := by decide +kernel
theorem am_kck12 : kT12.all (fun q => am_kok q.1 q.2.1 q.2.2) = true := by decide +kernel
theorem am_kck13 : kT13.all (fun q => am_kok q.1 q.2.1 q.2.2) = true := by decide +kernel
theorem am_kck : kT.all (fun q => am_kok q.1 q.2.1 q.2.2) = true := by
  unfold kT
  simp only [List.all_append, am_kck0, am_kck1, am_kck2, am_kck3, am_kck4, am_kck5, am_kck6, am_kck7, am_kck8, am_kck9, am_kck10, am_kck11, am_kck12, am_kck13, Bool.and_self]
theorem am_kin : cT.all (fun e => decide (8 ≤ e.2.2.2.1) || kT.any (fun q => decide (q.1 = e.2.1) && decide (q.2.1 = e.2.2.2.1))) = true := by decide +kernel
theorem am_k_at {c i y n kc : Nat} {rk : Nat × Nat} (h : cR c i = some (y, n, kc, rk)) (hk : kc < 8) : ∃ w, am_kok y kc w = true := by
  have h1 := List.all_eq_true.mp am_kin _ (am_lookup h)
  rw [Bool.or_eq_true, decide_eq_true_eq] at h1
  rcases h1 with h1 | h1
  · dsimp only at h1
    omega
  · obtain ⟨q, hq, h2⟩ := List.any_eq_true.mp h1
    rw [Bool.and_eq_true, decide_eq_true_eq, decide_eq_true_eq] at h2
    obtain ⟨q1, q2, q3⟩ := q
    obtain ⟨rfl, rfl⟩ := h2
    exact ⟨q3, List.all_eq_true.mp am_kck _ hq⟩
theorem am_jdkw : (decide (Cond.instanceMethod Lib.objectInit ∈ lw_tbl) && decide (Cond.code Lib.objectInit ⟨#[0xb1]⟩ 1 none ∈ lw_tbl) && decide (Cond.native arraycopyName ∈ lw_tbl) && decide (Cond.static arraycopyName ∈ lw_tbl) && decide (Cond.initialized "java/lang/System" ∈ lw_tbl) &&
  decide (Cond.static Lib.Math.max.name ∈ lw_tbl) && decide (Cond.code Lib.Math.max.name Lib.Math.max.code 2 (some .int) ∈ lw_tbl) && decide (Cond.static Lib.Math.min.name ∈ lw_tbl) && decide (Cond.code Lib.Math.min.name Lib.Math.min.code 2 (some .int) ∈ lw_tbl) && decide (Cond.initialized "java/lang/Math" ∈ lw_tbl)) = true := by decide +kernel
theorem am_cats {st : List Value} (h : st.length ≤ 4) : (st.map fun v => v.category).sum ≤ 8 := by
  have : ∀ l : List Value, (l.map fun v => v.category).sum ≤ 2 * l.length := by
    intro l
    induction l with
    | nil => simp
    | cons v l ih =>
      have : v.category ≤ 2 := by cases v <;> simp [Value.category]
      simp only [List.map_cons, List.sum_cons, List.length_cons]
      omega
  have := this st
  omega
section C0
variable {l : Launch} {D : va_G} {dA : Nat → ClassId} {ad : Nat → Nat} {zz : Value} {bs Ln : Nat} {xs : Nat → Int32} {d k : Nat} {p : Program} {e : Env} {R : Room} {s : State} {m : MethodId} {args : Array Value} {below : List Frame} {meth : Method} {c : Code} {as0 : List Nat} {c0 s0 : Nat} {Q : State → Prop} {pc : Nat} {Lo : ALs} {st : List Value} {h h' : AH}
variable {as : List Nat} {H : Heap} {locs : List Loc} {ls : Array Slot} {cells slots : Nat} {rest : List Value}
theorem sm_objinit {ix y n : Nat} {rk : Nat × Nat} {a : Nat} (C : am_Cx l D dA ad zz bs Ln xs d k p R s m args meth c) (hd0 : 1 ≤ d) (hd : decode (mB k) pc = .ok (.invokespecial ix, 3)) (hm : cR (mC k) ix = some (y, n, 9, rk)) (hr9 : st.length ≤ 4)
    (K : am_Sim D dA ad zz bs Ln xs k p l e R s m args below meth c as0 c0 s0 Q (pc + 3) Lo st h) : am_Sim D dA ad zz bs Ln xs k p l e R s m args below meth c as0 c0 s0 Q pc Lo (.ref a :: st) h := by
  obtain ⟨hx, hb, hml, hr, hlk, hown, htr, hnm, hHH, ⟨hfr, hlo⟩, hKV, hK, hCF, ⟨hbs, hLn⟩, hzz, hinj, hadb, hU1, hU2⟩ := C
  intro as H locs ls hX hW hS hL hVL hVS hc hs
  have hts := am_hts (args := args) hKV
  obtain ⟨w, hok⟩ := am_c_at hm
  unfold am_cok at hok
  dsimp only at hok
  rw [if_pos rfl] at hok
  have hw := am_jdkw
  simp only [Bool.and_eq_true, decide_eq_true_eq] at hw
  have h8 := am_cats (st := st.map (am_cv ad zz as)) (by simpa using hr9)
  exact W.objInit hx hb hown (hts _ (am_wd_mem hok)) (hts _ (List.mem_filter.mpr ⟨hw.1.1.1.1.1.1.1.1.1, rfl⟩)) (hts _ (List.mem_filter.mpr ⟨hw.1.1.1.1.1.1.1.1.2, rfl⟩)) rfl (hL.1.trans hml.symm) rfl hd (by omega) (by show 2 * 0 + _ + 12 ≤ _; omega) (K as H locs ls hX hW hS hL hVL hVS.tl hc hs)
theorem sm_max {ix y n : Nat} {rk : Nat × Nat} {u v : Int32} (C : am_Cx l D dA ad zz bs Ln xs d k p R s m args meth c) (hd0 : 1 ≤ d) (hd : decode (mB k) pc = .ok (.invokestatic ix, 3)) (hm : cR (mC k) ix = some (y, n, 10, rk)) (hr9 : st.length ≤ 4) (hcr : nc h ≤ R.cells + c0) (hsr : ns h ≤ R.slots + s0)
    (K : am_Sim D dA ad zz bs Ln xs k p l e R s m args below meth c as0 c0 s0 Q (pc + 3) Lo (.int (if u < v then v else u) :: st) h) : am_Sim D dA ad zz bs Ln xs k p l e R s m args below meth c as0 c0 s0 Q pc Lo (.int v :: .int u :: st) h := by
  obtain ⟨hx, hb, hml, hr, hlk, hown, htr, hnm, hHH, ⟨hfr, hlo⟩, hKV, hK, hCF, ⟨hbs, hLn⟩, hzz, hinj, hadb, hU1, hU2⟩ := C
  intro as H locs ls hX hW hS hL hVL hVS hc hs
  have hts := am_hts (args := args) hKV
  obtain ⟨w, hok⟩ := am_c_at hm
  unfold am_cok at hok
  dsimp only at hok
  rw [if_neg (by decide), if_neg (by decide), if_pos rfl] at hok
  have hw := am_jdkw
  simp only [Bool.and_eq_true, decide_eq_true_eq] at hw
  have h8 := am_cats (st := st.map (am_cv ad zz as)) (by simpa using hr9)
  exact va_mmax hx hb (hml.trans hL.1.symm) hown (hts _ (am_wd_mem hok)) (hts _ (List.mem_filter.mpr ⟨hw.1.1.1.1.2, rfl⟩)) (hts _ (List.mem_filter.mpr ⟨hw.2, rfl⟩)) (hts _ (List.mem_filter.mpr ⟨hw.1.1.1.2, rfl⟩)) (by omega) (by omega) (by omega) (by omega) hd (K as H locs ls hX hW hS hL hVL (am_VS.cons trivial hVS.tl.tl) hc hs)
theorem sm_min {ix y n : Nat} {rk : Nat × Nat} {u v : Int32} (C : am_Cx l D dA ad zz bs Ln xs d k p R s m args meth c) (hd0 : 1 ≤ d) (hd : decode (mB k) pc = .ok (.invokestatic ix, 3)) (hm : cR (mC k) ix = some (y, n, 11, rk)) (hr9 : st.length ≤ 4) (hcr : nc h ≤ R.cells + c0) (hsr : ns h ≤ R.slots + s0)
    (K : am_Sim D dA ad zz bs Ln xs k p l e R s m args below meth c as0 c0 s0 Q (pc + 3) Lo (.int (if v < u then v else u) :: st) h) : am_Sim D dA ad zz bs Ln xs k p l e R s m args below meth c as0 c0 s0 Q pc Lo (.int v :: .int u :: st) h := by
  obtain ⟨hx, hb, hml, hr, hlk, hown, htr, hnm, hHH, ⟨hfr, hlo⟩, hKV, hK, hCF, ⟨hbs, hLn⟩, hzz, hinj, hadb, hU1, hU2⟩ := C
  intro as H locs ls hX hW hS hL hVL hVS hc hs
  have hts := am_hts (args := args) hKV
  obtain ⟨w, hok⟩ := am_c_at hm
  unfold am_cok at hok
  dsimp only at hok
  rw [if_neg (by decide), if_neg (by decide), if_neg (by decide), if_pos rfl] at hok
  have hw := am_jdkw
  simp only [Bool.and_eq_true, decide_eq_true_eq] at hw
  have h8 := am_cats (st := st.map (am_cv ad zz as)) (by simpa using hr9)
  exact va_mmin hx hb (hml.trans hL.1.symm) hown (hts _ (am_wd_mem hok)) (hts _ (List.mem_filter.mpr ⟨hw.1.1.2, rfl⟩)) (hts _ (List.mem_filter.mpr ⟨hw.2, rfl⟩)) (hts _ (List.mem_filter.mpr ⟨hw.1.2, rfl⟩)) (by omega) (by omega) (by omega) (by omega) hd (K as H locs ls hX hW hS hL hVL (am_VS.cons trivial hVS.tl.tl) hc hs)
/-- references that stand for cells of one sort are one where their numbers are -/
theorem am_phi_inj {x y : Nat} (hinj : ∀ i j, i < 49 → j < 49 → ad i = ad j → i = j) (hW : am_WS D dA ad bs Ln xs as h H) (hx : x < nx h) (hy : y < nx h) (hxy : (x < 49 ∧ y < 49) ∨ (am_NC ≤ x ∧ am_NC ≤ y)) (he : am_phi ad as x = am_phi ad as y) : x = y := by
  rcases hxy with ⟨h1, h2⟩ | ⟨h1, h2⟩
  · rw [am_phi_c (Nat.lt_trans h1 (by decide)), am_phi_c (Nat.lt_trans h2 (by decide))] at he
    exact hinj x y h1 h2 he
  · have h3 := hW.1
    have e1 := am_ws_at (dA := dA) (ad := ad) (as := as) (h := h) h1 (by omega)
    have e2 := am_ws_at (dA := dA) (ad := ad) (as := as) (h := h) h2 (by omega)
    have := hW.2.2.1.1 _ _ _ _ e1 e2 he
    omega
theorem sm_acmp_eq {x y t : Nat} {off : Int} (C : am_Cx l D dA ad zz bs Ln xs d k p R s m args meth c) (hd : decode (mB k) pc = .ok (.if_acmp .eq off, 3)) (hxy : (x < 49 ∧ y < 49) ∨ (am_NC ≤ x ∧ am_NC ≤ y)) (ht : am_tg pc off = some t)
    (K1 : x = y → am_Sim D dA ad zz bs Ln xs k p l e R s m args below meth c as0 c0 s0 Q t Lo st h) (K2 : ¬ x = y → am_Sim D dA ad zz bs Ln xs k p l e R s m args below meth c as0 c0 s0 Q (pc + 3) Lo st h) : am_Sim D dA ad zz bs Ln xs k p l e R s m args below meth c as0 c0 s0 Q pc Lo (.ref y :: .ref x :: st) h := by
  obtain ⟨hx, hb, hml, hr, hlk, hown, htr, hnm, hHH, ⟨hfr, hlo⟩, hKV, hK, hCF, ⟨hbs, hLn⟩, hzz, hinj, hadb, hU1, hU2⟩ := C
  intro as H locs ls hX hW hS hL hVL hVS hc hs
  exact lv_acmp_eq (rx := some (am_phi ad as x)) (ry := some (am_phi ad as y)) hx hb hd (am_tg_spec ht) (fun q => K1 (am_phi_inj hinj hW hVS.tl.hd hVS.hd hxy (Option.some.inj q)) as H locs ls hX hW hS hL hVL hVS.tl.tl hc hs) (fun q => K2 (fun z => q (by rw [z])) as H locs ls hX hW hS hL hVL hVS.tl.tl hc hs)
theorem sm_acmp_ne {x y t : Nat} {off : Int} (C : am_Cx l D dA ad zz bs Ln xs d k p R s m args meth c) (hd : decode (mB k) pc = .ok (.if_acmp .ne off, 3)) (hxy : (x < 49 ∧ y < 49) ∨ (am_NC ≤ x ∧ am_NC ≤ y)) (ht : am_tg pc off = some t)
    (K1 : ¬ x = y → am_Sim D dA ad zz bs Ln xs k p l e R s m args below meth c as0 c0 s0 Q t Lo st h) (K2 : x = y → am_Sim D dA ad zz bs Ln xs k p l e R s m args below meth c as0 c0 s0 Q (pc + 3) Lo st h) : am_Sim D dA ad zz bs Ln xs k p l e R s m args below meth c as0 c0 s0 Q pc Lo (.ref y :: .ref x :: st) h := by
  obtain ⟨hx, hb, hml, hr, hlk, hown, htr, hnm, hHH, ⟨hfr, hlo⟩, hKV, hK, hCF, ⟨hbs, hLn⟩, hzz, hinj, hadb, hU1, hU2⟩ := C
  intro as H locs ls hX hW hS hL hVL hVS hc hs
  exact lv_acmp_ne (rx := some (am_phi ad as x)) (ry := some (am_phi ad as y)) hx hb hd (am_tg_spec ht) (fun q => K1 (fun z => q (by rw [z])) as H locs ls hX hW hS hL hVL hVS.tl.tl hc hs) (fun q => K2 (am_phi_inj hinj hW hVS.tl.hd hVS.hd hxy (Option.some.inj q)) as H locs ls hX hW hS hL hVL hVS.tl.tl hc hs)
set_option maxHeartbeats 1000000 in
theorem sm_copy {ix y n : Nat} {rk : Nat × Nat} {a b : Nat} {z dp sp : Int32} (C : am_Cx l D dA ad zz bs Ln xs d k p R s m args meth c) (hd0 : 1 ≤ d) (hd : decode (mB k) pc = .ok (.invokestatic ix, 3)) (hm : cR (mC k) ix = some (y, n, 8, rk)) (hr9 : st.length ≤ 4)
    (ha : (kd h a).1 = 1) (hbk : (kd h b).1 = 1) (h1 : ¬ sp < 0) (h2 : ¬ dp < 0) (h3 : ¬ z < 0) (h4 : sp.toNatClampNeg + z.toNatClampNeg ≤ (kd h a).2) (h5 : dp.toNatClampNeg + z.toNatClampNeg ≤ (kd h b).2)
    (K : am_Sim D dA ad zz bs Ln xs k p l e R s m args below meth c as0 c0 s0 Q (pc + 3) Lo st (cpyI h a sp.toNatClampNeg b dp.toNatClampNeg z.toNatClampNeg)) : am_Sim D dA ad zz bs Ln xs k p l e R s m args below meth c as0 c0 s0 Q pc Lo (.int z :: .int dp :: .ref b :: .int sp :: .ref a :: st) h := by
  obtain ⟨hx, hb, hml, hr, hlk, hown, htr, hnm, hHH, ⟨hfr, hlo⟩, hKV, hK, hCF, ⟨hbs, hLn⟩, hzz, hinj, hadb, hU1, hU2⟩ := C
  intro as H locs ls hX hW hS hL hVL hVS hc hs
  have hts := am_hts (args := args) hKV
  obtain ⟨w, hok⟩ := am_c_at hm
  unfold am_cok at hok
  dsimp only at hok
  rw [if_neg (by decide), if_pos rfl] at hok
  have hw := am_jdkw
  simp only [Bool.and_eq_true, decide_eq_true_eq] at hw
  have h8 := am_cats (st := st.map (am_cv ad zz as)) (by simpa using hr9)
  have hnb : b < nx h := hVS.tl.tl.hd
  have hna : a < nx h := hVS.tl.tl.tl.tl.hd
  obtain ⟨a0, a1, ae⟩ := am_arr_at hW hna (by omega) (by omega)
  obtain ⟨b0, b1, be⟩ := am_arr_at hW hnb (by omega) (by omega)
  rw [ha] at ae
  rw [hbk] at be
  have e9 : (fun j => iv (cpyI h a sp.toNatClampNeg b dp.toNatClampNeg z.toNatClampNeg) b j) = va_cpy (fun j => iv h a j) (fun j => iv h b j) sp.toNatClampNeg dp.toNatClampNeg z.toNatClampNeg := by
    funext j
    show (if b = b ∧ dp.toNatClampNeg ≤ j ∧ j < dp.toNatClampNeg + z.toNatClampNeg then _ else _) = (if dp.toNatClampNeg ≤ j ∧ j < dp.toNatClampNeg + z.toNatClampNeg then _ else _)
    simp only [true_and]
    rfl
  refine va_copyi hx hb (hml.trans hL.1.symm) hown (hts _ (am_wd_mem hok)) (hts _ (List.mem_filter.mpr ⟨hw.1.1.1.1.1.1.1.2, rfl⟩)) (hts _ (List.mem_filter.mpr ⟨hw.1.1.1.1.1.1.2, rfl⟩)) (hts _ (List.mem_filter.mpr ⟨hw.1.1.1.1.1.2, rfl⟩)) hK hW.2.1 hW.2.2.1 hS (a - am_NC) (b - am_NC) 0 0 ae be rfl rfl rfl h1 h2 h3 h4 h5 (fun _ _ => rfl) (by omega) (by show _ + (7 + 11) ≤ _; omega) hd (fun H1 locs1 q1 q2 q3 => K as H1 locs1 ls hX (am_put_arr (i := 0) (t := 0) (h' := cpyI h a sp.toNatClampNeg b dp.toNatClampNeg z.toNatClampNeg) hW hnb (by omega) b0 ?_ (fun _ => rfl) (fun n i hn => if_neg (fun q => hn q.1)) (fun _ _ _ => rfl) (fun _ _ _ => rfl) rfl hW.2.2.2.1 H1 q1 q2) q3 hL hVL hVS.tl.tl.tl.tl.tl hc hs)
  rw [hbk]
  show (Sum.inl (dA 1, (kd h b).2, Sum.inl (fun j => iv (cpyI h a sp.toNatClampNeg b dp.toNatClampNeg z.toNatClampNeg) b j)) : va_E) = _
  rw [e9]
end C0
end
section
/-! CALLS of methods that the abstract machine runs. -/
def exNm (E : Nat) : String := ["java/lang/IllegalStateException", "java/lang/IllegalArgumentException", "java/lang/IndexOutOfBoundsException"].getD E ""
def am_Pc (D : va_G) (dA : Nat → ClassId) (ad : Nat → Nat) (zz : Value) (bs Ln : Nat) (xs : Nat → Int32) (as : List Nat) (h : AH) (av : List Value) : Array Value → State → Prop := fun a U =>
  a = (av.map (am_cv ad zz as)).toArray ∧ am_KV ad U ∧ va_K D vwCl (am_tys dA) U ∧ am_CF ad zz Ln xs (am_A bs) U U.heap ∧ bs ≤ U.heap.size ∧ am_WS D dA ad bs Ln xs as h U.heap ∧ vx_Zq Bundle.tN "UNASSIGNED_STACK" Bundle.steD (am_A bs) U U.heap ∧ vx_Zq Bundle.tN "SUPPRESSED_SENTINEL" Bundle.listD (am_A bs) U U.heap
def am_Qc (D : va_G) (dA : Nat → ClassId) (ad : Nat → Nat) (zz : Value) (bs Ln : Nat) (xs : Nat → Int32) (as : List Nat) (h' : AH) (o : AO) : Array Value → State → Outcome → State → Prop := fun _ st oc t =>
  ∃ (v : Option Value) (as' : List Nat), o = .inl v ∧ oc = .returned (v.map (am_cv ad zz as')) ∧ (∃ t9, as' = as ++ t9) ∧ am_WS D dA ad bs Ln xs as' h' t.heap ∧ va_F (am_A bs) st t ∧ ∀ w, v = some w → am_V (nx h') w
def am_XC (D : va_G) (dA : Nat → ClassId) (ad : Nat → Nat) (bs Ln : Nat) (xs : Nat → Int32) (as : List Nat) (h' : AH) (o : AO) : String → State → State → Prop := fun En st t =>
  ∃ (E : Nat) (as' : List Nat), o = .inr E ∧ En = exNm E ∧ (∃ t9, as' = as ++ t9) ∧ am_WS D dA ad bs Ln xs as' h' t.heap ∧ va_F (am_A bs) st t
def am_rm (d mc ms : Nat) : Room := { frames := d, cells := mc, slots := ms, locals := 40 * d }
def am_Wy (y : Nat) : List Cond := (if (mH y).isEmpty = true then am_cw y else am_cwH y) :: am_GW
def am_Met (l : Launch) (D : va_G) (dA : Nat → ClassId) (ad : Nat → Nat) (zz : Value) (bs Ln : Nat) (xs : Nat → Int32) (d y : Nat) (av : List Value) (as : List Nat) (h : AH) (o : AO) (h' : AH) : Prop :=
  vx_Met l (mY y) (am_Wy y) (am_rm d (nc h' - nc h) (ns h' - ns h)) (am_Pc D dA ad zz bs Ln xs as h av) (am_Qc D dA ad zz bs Ln xs as h' o) (am_XC D dA ad bs Ln xs as h' o) (nc h' - nc h) (ns h' - ns h) (am_A bs)
section CALL
variable {l : Launch} {D : va_G} {dA : Nat → ClassId} {ad : Nat → Nat} {zz : Value} {bs Ln : Nat} {xs : Nat → Int32} {d k : Nat} {p : Program} {e : Env} {R : Room} {s : State} {m : MethodId} {args : Array Value} {below : List Frame} {meth : Method} {c : Code} {as0 : List Nat} {c0 s0 : Nat} {Q : State → Prop} {pc : Nat} {Lo : ALs} {st : List Value} {h h' : AH}
variable {as : List Nat} {H : Heap} {locs : List Loc} {ls : Array Slot} {cells slots : Nat} {rest : List Value}
theorem am_Pc_blind {av : List Value} : FrameBlind (am_Pc D dA ad zz bs Ln xs as h av) := by
  intro a U g mk q
  obtain ⟨q0, q1, q2, q3, q4, q5, q6, q7⟩ := q
  exact ⟨q0, am_KV.warm (s := U) (U := U.calling g mk a) (State.WarmedH.refl U) q1, va_K.moved (u := U) (U := U.calling g mk a) (Vm.Alike.refl U.vm) q2, am_CF.moved (u := U) (U := U.calling g mk a) (Vm.Alike.refl U.vm) q3, q4, q5, vx_Zq.moved (u := U) (U := U.calling g mk a) (Vm.Alike.refl U.vm) q6, vx_Zq.moved (u := U) (U := U.calling g mk a) (Vm.Alike.refl U.vm) q7⟩
/-- the callee's start, out of the caller's world -/
theorem am_Pc_of {av : List Value} (C : am_Cx l D dA ad zz bs Ln xs d k p R s m args meth c) (hW : am_WS D dA ad bs Ln xs as h H) (hS : va_S (am_A bs) s.heap H locs) {U : State} (hU : U.heap = H) (hWm : s.WarmedH U.vm) : am_Pc D dA ad zz bs Ln xs as h av (av.map (am_cv ad zz as)).toArray U := by
  obtain ⟨hx, hb, hml, hr, hlk, hown, htr, hnm, hHH, ⟨hfr, hlo⟩, hKV, hK, hCF, ⟨hbs, hLn⟩, hzz, hinj, hadb, hU1, hU2⟩ := C
  refine ⟨rfl, hKV.warm hWm, va_K.moved hWm.alike hK, ?_, ?_, by rw [hU]; exact hW, ?_, ?_⟩
  · rw [hU]; exact am_CF.kept hS.2.1 (am_CF.moved hWm.alike hCF)
  · rw [hU]; exact Nat.le_trans hbs hS.1
  · rw [hU]; exact (vx_Zq.moved hWm.alike hU1).kept hS.2.1
  · rw [hU]; exact (vx_Zq.moved hWm.alike hU2).kept hS.2.1
theorem am_run_on {mc ms : Nat} {st0 : List Value} {a : Array Value} {o : AO} (hr : vx_Run p l e R s m args below meth c H locs cells slots mc ms (F0 m pc ls st0) rest (am_Qc D dA ad zz bs Ln xs as h' o a) (am_XC D dA ad bs Ln xs as h' o) (am_A bs)) (hS : va_S (am_A bs) s.heap H locs)
    (kr : ∀ (v : Option Value) (as' : List Nat) (H1 : Heap) (locs1 : List Loc), o = .inl v → (∃ t9, as' = as ++ t9) → am_WS D dA ad bs Ln xs as' h' H1 → va_S (am_A bs) s.heap H1 locs1 → (∀ w, v = some w → am_V (nx h') w) → W p l e R s m args below meth c H1 locs1 (cells + mc) (slots + ms) Q (F0 m (pc + 3) ls ((v.map (am_cv ad zz as')).toList ++ rest)))
    (kx : ∀ (E : Nat) (as' : List Nat) (H1 : Heap) (locs1 : List Loc) (q : Addr) (ce : Cell), o = .inr E → (∃ t9, as' = as ++ t9) → am_WS D dA ad bs Ln xs as' h' H1 → va_S (am_A bs) s.heap H1 locs1 → H1[q]? = some ce → ce.vm = .none → s.vm.findClass (exNm E) = some ce.cls → vx_W p l e R s m args below meth c H1 locs1 (cells + mc) (slots + ms) Q (F0 m pc ls rest) q) :
    W p l e R s m args below meth c H locs cells slots Q (F0 m pc ls st0) := by
  intro T hT X
  rcases hr T hT X with ⟨v0, st₀, t, T', L, h0, X', hL, e1, e2, ⟨v, as', ho, hv, hx, hw, hF, hvv⟩, st⟩ | ⟨q, st₀, t, T', L, En, ce, h0, X', hL, e1, e2, ⟨E, as', ho, rfl, hx, hw, hF⟩, hce, hcv, hcl, st⟩
  · cases hv
    obtain ⟨-, -, k3⟩ := vx_keep h0 e1 hS (fun _ _ z => z) (fun _ z => z) hL hF
    obtain ⟨t2, a1, b1⟩ := kr v as' T'.heap (locs ++ L) ho hx (by rw [e1]; exact hw) k3 hvv T' rfl X'
    exact ⟨t2, st t2 a1, b1⟩
  · obtain ⟨-, -, k3⟩ := vx_keep h0 e1 hS (fun _ _ z => z) (fun _ z => z) hL hF
    obtain ⟨t2, a1, b1⟩ := kx E as' T'.heap (locs ++ L) q ce ho hx (by rw [e1]; exact hw) k3 (by rw [e1]; exact hce) hcv hcl T' rfl X'
    exact ⟨t2, st.trans a1, b1⟩
theorem am_recv {b : Nat} {rk : Nat × Nat} {nm : String} (C : am_Cx l D dA ad zz bs Ln xs d k p R s m args meth c) (hW : am_WS D dA ad bs Ln xs as h H) (hS : va_S (am_A bs) s.heap H locs) (hb9 : b < nx h) (hk : kd h b = rk)
    (hn : (rk.1 = 0 ∧ rk.2 < 10 ∧ (am_cl rk.2).1 = nm) ∨ (rk = (11, 0) ∧ nm = "java/lang/String") ∨ (rk = (10, 0) ∧ nm = "MarkShelter$Sign")) : ∃ cellB : Cell, H[am_phi ad as b]? = some cellB ∧ cellB.vm.isStatics = false ∧ s.vm.findClass nm = some cellB.cls := by
  obtain ⟨hx, hb, hml, hr, hlk, hown, htr, hnm, hHH, ⟨hfr, hlo⟩, hKV, hK, hCF, ⟨hbs, hLn⟩, hzz, hinj, hadb, hU1, hU2⟩ := C
  rcases hn with ⟨h1, h2, h3⟩ | ⟨h1, h3⟩ | ⟨h1, h3⟩
  · obtain ⟨r1, r2⟩ := rk
    dsimp only at h1 h2 h3
    subst h1
    obtain ⟨-, -, -, he⟩ := am_obj hW hb9 hk
    obtain ⟨cell, g1, g2, g3⟩ := va_recv hK hW.2.1 (am_cl_at h2) he
    exact ⟨cell, g1, g2, by rw [← h3]; exact g3⟩
  · rw [h1] at hk
    obtain ⟨g0, g1, g2⟩ := am_const hW hb9 (by rw [hk]; decide)
    have hi := k_kd_11 (g1.symm.trans hk)
    obtain ⟨c1, -, -, -⟩ := hCF.2.1 (b - 60) (by omega)
    rw [show 60 + (b - 60) = b by omega] at c1
    obtain ⟨cell, q1, q2, q3, -⟩ := c1.kept hS.2.1
    rw [am_phi_c g0, h3]
    exact ⟨cell, q1, q2, q3⟩
  · rw [h1] at hk
    obtain ⟨g0, g1, g2⟩ := am_const hW hb9 (by rw [hk]; decide)
    have hi : b < 49 := k_kd_10 (g1.symm.trans hk)
    obtain ⟨c1, -, -⟩ := hCF.1 b hi
    obtain ⟨cell, q1, q2, q3, -⟩ := c1.kept hS.2.1
    rw [am_phi_c g0, h3]
    exact ⟨cell, q1, q2, q3⟩
theorem am_Wy_cons (y : Nat) : am_Wy y = (if (mH y).isEmpty = true then am_cw y else am_cwH y) :: am_GW := rfl
theorem am_good_in {ws : List Cond} (h : ∀ w ∈ ws, w ∈ am_GW) : GoodIn am_GW ws := fun w hw => ⟨h w hw, good_of_word (am_gwf (h w hw))⟩
set_option maxHeartbeats 2000000 in
/-- a static call -/
theorem am_runS {ix y n kc : Nat} {rk : Nat × Nat} {av : List Value} {o : AO} {h1 : AH} (C : am_Cx l D dA ad zz bs Ln xs (d + 1) k p R s m args meth c) (hd : decode (mB k) pc = .ok (.invokestatic ix, 3)) (hm : cR (mC k) ix = some (y, n, kc, rk)) (hkc : kc = 0 ∨ kc = 1 ∨ kc = 7) (hn : av.length = n) (hr9 : st.length ≤ 4)
    (hM : am_Met l D dA ad zz bs Ln xs d y av as h o h1) (hW : am_WS D dA ad bs Ln xs as h H) (hS : va_S (am_A bs) s.heap H locs) (hL : ls.size = mL k) (hf : cells + (nc h1 - nc h) ≤ R.cells ∧ slots + (ns h1 - ns h) ≤ R.slots) :
    vx_Run p l e R s m args below meth c H locs cells slots (nc h1 - nc h) (ns h1 - ns h) (F0 m pc ls ((av.reverse ++ st).map (am_cv ad zz as))) (st.map (am_cv ad zz as)) (am_Qc D dA ad zz bs Ln xs as h1 o (av.map (am_cv ad zz as)).toArray) (am_XC D dA ad bs Ln xs as h1 o) (am_A bs) := by
  have C9 := C
  obtain ⟨hx, hb, hml, hr, hlk, hown, htr, hnm, hHH, ⟨hfr, hlo⟩, hKV, hK, hCF, ⟨hbs, hLn⟩, hzz, hinj, hadb, hU1, hU2⟩ := C
  have hts := am_hts (args := args) hKV
  obtain ⟨w, hok⟩ := am_c_at hm
  obtain ⟨w2, hok2⟩ := am_k_at hm (by rcases hkc with rfl | rfl | rfl <;> decide)
  have h8 := am_cats (st := st.map (am_cv ad zz as)) (by simpa using hr9)
  have hstk : (av.reverse ++ st).map (am_cv ad zz as) = (av.map (am_cv ad zz as)).reverse ++ st.map (am_cv ad zz as) := by rw [List.map_append, List.map_reverse]
  have hPre : PreS s H (am_Pc D dA ad zz bs Ln xs as h av) (av.map (am_cv ad zz as)) := ⟨am_Pc_blind, fun U hU hWm => am_Pc_of C9 hW hS hU hWm⟩
  have hFix : CallFix p m c (mB k) (mL k) s args am_GW (cNm (mC k)) := ⟨hx, hb, hml, hown, hts⟩
  unfold am_kok at hok2
  simp only [Bool.and_eq_true, decide_eq_true_eq] at hok2
  obtain ⟨⟨⟨⟨⟨⟨hmh, hcls⟩, hml9⟩, hwi⟩, hwc⟩, hws⟩, -⟩ := hok2
  unfold am_mhd at hmh
  simp only [Bool.and_eq_true, decide_eq_true_eq] at hmh
  obtain ⟨⟨⟨m1, m2⟩, m3⟩, m4⟩ := hmh
  have hR : (am_rm d (nc h1 - nc h) (ns h1 - ns h)).frames + 1 ≤ R.frames ∧ 8 + (mL y + 11) + (am_rm d (nc h1 - nc h) (ns h1 - ns h)).locals ≤ R.locals := ⟨hfr, by show 8 + (mL y + 11) + 40 * d ≤ _; omega⟩
  unfold am_cok at hok
  dsimp only at hok
  rcases hkc with rfl | rfl | rfl
  · rw [if_neg (by decide), if_neg (by decide), if_neg (by decide), if_neg (by decide), if_neg (by decide)] at hok
    simp only [Bool.and_eq_true, decide_eq_true_eq] at hok
    obtain ⟨⟨⟨⟨⟨hpar, hlk9⟩, hhy⟩, -⟩, -⟩, -⟩ := hok
    rw [if_neg (by decide)] at hlk9 hhy
    rw [if_neg (by decide)] at hwc
    rw [if_pos (Or.inl rfl)] at hws
    have hWy : am_Wy y = am_cw y :: am_GW := by rw [am_Wy_cons, if_pos hhy]
    have hG : GoodIn am_GW (va_wsS (cNm (mC k)) ix (mY y) (am_Wy y)) := am_good_in fun w hw => by
      unfold va_wsS at hw
      rw [hWy] at hw
      simp only [List.cons_append, List.nil_append, List.mem_cons] at hw
      rcases hw with rfl | rfl | rfl | rfl | hw
      · exact am_wd_mem hlk9
      · exact am_wd_mem hws
      · exact am_wd_mem hwi
      · exact am_wd_mem hwc
      · exact hw
    exact vx_runS hFix hM (va_cwS n hts hG hWy rfl rfl ⟨m1, m2, hpar⟩ hR) hPre rfl (by rw [List.length_map]; exact hn) hL hstk (by show 2 * 0 + _ ≤ 8; omega) hd hf
  · rw [if_neg (by decide), if_neg (by decide), if_neg (by decide), if_neg (by decide), if_neg (by decide)] at hok
    simp only [Bool.and_eq_true, decide_eq_true_eq] at hok
    obtain ⟨⟨⟨⟨⟨hpar, hlk9⟩, hhy⟩, -⟩, -⟩, -⟩ := hok
    rw [if_pos (by simp)] at hlk9
    rw [if_neg (by decide)] at hhy
    rw [if_neg (by decide)] at hwc
    rw [if_pos (Or.inr (Or.inl rfl))] at hws
    have hWy : am_Wy y = am_cw y :: am_GW := by rw [am_Wy_cons, if_pos hhy]
    have hG : GoodIn am_GW (am_Wy y) := am_good_in fun w hw => by
      rw [hWy] at hw
      rcases List.mem_cons.mp hw with rfl | hw
      · exact am_wd_mem hwc
      · exact hw
    exact vx_runSN hFix hM ⟨va_cnB n hts hG hWy rfl rfl (hKV.2.1 _ (am_wn_mem hlk9)) (hts _ (am_wd_mem hwi)) ⟨m1, m2, hpar⟩ hR, hts _ (am_wd_mem hws), trivial⟩ hPre rfl (by rw [List.length_map]; exact hn) hL hstk (by show 2 * 0 + _ ≤ 8; omega) hd hf
  · rw [if_neg (by decide), if_neg (by decide), if_neg (by decide), if_neg (by decide), if_neg (by decide)] at hok
    simp only [Bool.and_eq_true, decide_eq_true_eq] at hok
    obtain ⟨⟨⟨⟨⟨hpar, hlk9⟩, hhy⟩, -⟩, -⟩, -⟩ := hok
    rw [if_neg (by decide)] at hlk9
    rw [if_pos (by simp)] at hhy
    rw [if_pos rfl] at hwc
    rw [if_pos (Or.inr (Or.inr rfl))] at hws
    have hhy2 : ¬ (mH y).isEmpty = true := by
      intro q
      rw [q] at hhy
      cases hhy
    have hWy : am_Wy y = am_cwH y :: am_GW := by rw [am_Wy_cons, if_neg hhy2]
    have hG : GoodIn am_GW (va_wsS (cNm (mC k)) ix (mY y) (am_Wy y)) := am_good_in fun w hw => by
      unfold va_wsS at hw
      rw [hWy] at hw
      simp only [List.cons_append, List.nil_append, List.mem_cons] at hw
      rcases hw with rfl | rfl | rfl | rfl | hw
      · exact am_wd_mem hlk9
      · exact am_wd_mem hws
      · exact am_wd_mem hwi
      · exact am_wd_mem hwc
      · exact hw
    exact vx_runSX hFix hM (vx_cwSW n hts hG hWy rfl rfl ⟨m1, m2, hpar⟩ hR) hPre rfl (by rw [List.length_map]; exact hn) hL hstk (by show 2 * 0 + _ ≤ 8; omega) hd hf
set_option maxHeartbeats 2000000 in
/-- a call with a receiver -/
theorem am_runV {i9 : Instr} {ix y n kc b : Nat} {rk : Nat × Nat} {av : List Value} {o : AO} {h1 : AH} (C : am_Cx l D dA ad zz bs Ln xs (d + 1) k p R s m args meth c) (hd : decode (mB k) pc = .ok (i9, 3)) (hi9 : i9 = if kc = 3 ∨ kc = 4 then .invokespecial ix else .invokevirtual ix) (hm : cR (mC k) ix = some (y, n, kc, rk)) (hkc : kc = 2 ∨ kc = 3 ∨ kc = 4 ∨ kc = 5) (hn : av.length = n) (hr9 : st.length ≤ 4)
    (hM : am_Met l D dA ad zz bs Ln xs d y (.ref b :: av) as h o h1) (hbk : kd h b = rk) (hbn : b < nx h) (hW : am_WS D dA ad bs Ln xs as h H) (hS : va_S (am_A bs) s.heap H locs) (hL : ls.size = mL k) (hf : cells + (nc h1 - nc h) ≤ R.cells ∧ slots + (ns h1 - ns h) ≤ R.slots) :
    vx_Run p l e R s m args below meth c H locs cells slots (nc h1 - nc h) (ns h1 - ns h) (F0 m pc ls ((av.reverse ++ .ref b :: st).map (am_cv ad zz as))) (st.map (am_cv ad zz as)) (am_Qc D dA ad zz bs Ln xs as h1 o ((Value.ref b :: av).map (am_cv ad zz as)).toArray) (am_XC D dA ad bs Ln xs as h1 o) (am_A bs) := by
  have C9 := C
  obtain ⟨hx, hb, hml, hr, hlk, hown, htr, hnm, hHH, ⟨hfr, hlo⟩, hKV, hK, hCF, ⟨hbs, hLn⟩, hzz, hinj, hadb, hU1, hU2⟩ := C
  have hts := am_hts (args := args) hKV
  obtain ⟨w, hok⟩ := am_c_at hm
  obtain ⟨w2, hok2⟩ := am_k_at hm (by rcases hkc with rfl | rfl | rfl | rfl <;> decide)
  have h8 := am_cats (st := st.map (am_cv ad zz as)) (by simpa using hr9)
  have hstk : (av.reverse ++ .ref b :: st).map (am_cv ad zz as) = (av.map (am_cv ad zz as)).reverse ++ .ref (am_phi ad as b) :: st.map (am_cv ad zz as) := by rw [List.map_append, List.map_reverse]; rfl
  have hPc : ∀ U : State, U.heap = H → s.WarmedH U.vm → am_Pc D dA ad zz bs Ln xs as h (.ref b :: av) (Value.ref (am_phi ad as b) :: av.map (am_cv ad zz as)).toArray U := fun U hU hWm => am_Pc_of (av := .ref b :: av) C9 hW hS hU hWm
  have hFix : CallFix p m c (mB k) (mL k) s args am_GW (cNm (mC k)) := ⟨hx, hb, hml, hown, hts⟩
  unfold am_kok at hok2
  simp only [Bool.and_eq_true, decide_eq_true_eq] at hok2
  obtain ⟨⟨⟨⟨⟨⟨hmh, hcls⟩, hml9⟩, hwi⟩, hwc⟩, hws⟩, hwl⟩ := hok2
  unfold am_mhd at hmh
  simp only [Bool.and_eq_true, decide_eq_true_eq] at hmh
  obtain ⟨⟨⟨m1, m2⟩, m3⟩, m4⟩ := hmh
  have hR : (am_rm d (nc h1 - nc h) (ns h1 - ns h)).frames + 1 ≤ R.frames ∧ 8 + (mL y + 11) + (am_rm d (nc h1 - nc h) (ns h1 - ns h)).locals ≤ R.locals := ⟨hfr, by show 8 + (mL y + 11) + 40 * d ≤ _; omega⟩
  unfold am_cok at hok
  dsimp only at hok
  rcases hkc with rfl | rfl | rfl | rfl
  · rw [if_neg (by decide), if_neg (by decide), if_neg (by decide), if_neg (by decide), if_neg (by decide)] at hok
    simp only [Bool.and_eq_true, decide_eq_true_eq] at hok
    obtain ⟨⟨⟨⟨⟨hpar, hlk9⟩, hhy⟩, -⟩, hrk⟩, -⟩ := hok
    rw [if_neg (by decide)] at hlk9 hhy
    rw [if_neg (by decide)] at hwc
    rw [if_neg (by decide)] at hws
    rw [if_pos (by simp)] at hwl hrk
    rw [if_neg (by decide)] at hi9
    subst hi9
    have hrk2 : (rk.1 = 0 ∧ rk.2 < 10 ∧ (am_cl rk.2).1 = (mY y).cls) ∨ (rk = (11, 0) ∧ (mY y).cls = "java/lang/String") ∨ (rk = (10, 0) ∧ (mY y).cls = "MarkShelter$Sign") := by
      simp only [Bool.or_eq_true, Bool.and_eq_true, decide_eq_true_eq] at hrk
      rcases hrk with ⟨⟨q1, q2⟩, q3⟩ | ⟨q1, q2⟩
      · exact Or.inl ⟨q1, q2, q3⟩
      · exact Or.inr (Or.inl ⟨q1, q2⟩)
    have hWy : am_Wy y = am_cw y :: am_GW := by rw [am_Wy_cons, if_pos hhy]
    have hG : GoodIn am_GW (wsV (cNm (mC k)) ix (mY y).cls (mY y) (am_Wy y)) := am_good_in fun w hw => by
      unfold wsV at hw
      rw [hWy] at hw
      simp only [List.cons_append, List.nil_append, List.mem_cons] at hw
      rcases hw with rfl | rfl | rfl | rfl | rfl | hw
      · exact am_wd_mem hlk9
      · exact am_wd_mem hws
      · exact am_wd_mem hwl
      · exact am_wd_mem hwi
      · exact am_wd_mem hwc
      · exact hw
    exact vx_runV hFix hM (cwV n hts hG hWy rfl rfl ⟨rfl, m1, m2, hpar⟩ hR) ⟨am_Pc_blind, am_recv C9 hW hS hbn hbk hrk2, hPc⟩ rfl (by rw [List.length_map]; exact hn) hL hstk (by show 2 * 0 + _ ≤ 8; omega) hd hf
  · rw [if_neg (by decide), if_neg (by decide), if_neg (by decide), if_neg (by decide), if_neg (by decide)] at hok
    simp only [Bool.and_eq_true, decide_eq_true_eq] at hok
    obtain ⟨⟨⟨⟨⟨hpar, hlk9⟩, hhy⟩, hini⟩, -⟩, -⟩ := hok
    rw [if_neg (by decide)] at hlk9 hhy
    rw [if_neg (by decide)] at hwc
    rw [if_neg (by decide)] at hws
    rw [if_pos (by simp)] at hi9 hini
    simp only [Bool.and_eq_true, decide_eq_true_eq] at hini
    subst hi9
    have hWy : am_Wy y = am_cw y :: am_GW := by rw [am_Wy_cons, if_pos hhy]
    have hWy2 : am_Wy y = Cond.code (mY y) (mB y) (mL y) none :: am_GW := by rw [hWy]; unfold am_cw; rw [hini.2]
    have hG : GoodIn am_GW (am_Wy y) := am_good_in fun w hw => by
      rw [hWy] at hw
      rcases List.mem_cons.mp hw with rfl | hw
      · exact am_wd_mem hwc
      · exact hw
    exact vx_runI hFix hM (cwI n hts hG hWy2 rfl rfl (hts _ (am_wd_mem hwi)) (hts _ (am_wd_mem hlk9)) (hts _ (am_wd_mem hws)) hini.1 ⟨m1, m2, hpar⟩ hR) ⟨am_Pc_blind, hPc⟩ rfl (by rw [List.length_map]; exact hn) hL hstk (by show 2 * 0 + _ ≤ 8; omega) hd hf
  · rw [if_neg (by decide), if_neg (by decide), if_neg (by decide), if_neg (by decide), if_neg (by decide)] at hok
    simp only [Bool.and_eq_true, decide_eq_true_eq] at hok
    obtain ⟨⟨⟨⟨⟨hpar, hlk9⟩, hhy⟩, hini⟩, -⟩, -⟩ := hok
    rw [if_pos (by simp)] at hlk9
    rw [if_neg (by decide)] at hhy
    rw [if_neg (by decide)] at hwc
    rw [if_neg (by decide)] at hws
    rw [if_pos (by simp)] at hi9 hini
    simp only [Bool.and_eq_true, decide_eq_true_eq] at hini
    subst hi9
    have hWy : am_Wy y = am_cw y :: am_GW := by rw [am_Wy_cons, if_pos hhy]
    have hWy2 : am_Wy y = Cond.code (mY y) (mB y) (mL y) none :: am_GW := by rw [hWy]; unfold am_cw; rw [hini.2]
    have hG : GoodIn am_GW (am_Wy y) := am_good_in fun w hw => by
      rw [hWy] at hw
      rcases List.mem_cons.mp hw with rfl | hw
      · exact am_wd_mem hwc
      · exact hw
    exact vx_runIN hFix hM ⟨va_cnB n hts hG hWy2 rfl rfl (hKV.2.1 _ (am_wn_mem hlk9)) (hts _ (am_wd_mem hwi)) ⟨m1, m2, hpar⟩ hR, hini.1, hts _ (am_wd_mem hws)⟩ ⟨am_Pc_blind, hPc⟩ rfl (by rw [List.length_map]; exact hn) hL hstk (by show 2 * 0 + _ ≤ 8; omega) hd hf
  · rw [if_neg (by decide), if_neg (by decide), if_neg (by decide), if_neg (by decide), if_pos rfl] at hok
    simp only [Bool.and_eq_true, decide_eq_true_eq] at hok
    obtain ⟨⟨⟨hlk9, hn0⟩, hrk⟩, hyy⟩ := hok
    rw [if_neg (by decide)] at hwc
    rw [if_neg (by decide)] at hws
    rw [if_neg (by decide), if_pos rfl] at hwl
    rw [if_neg (by decide)] at hi9
    subst hi9
    have hhy : (mH y).isEmpty = true := by
      have : ∀ q ∈ cT, q.2.2.2.1 = 5 → (mH q.2.1).isEmpty = true := by decide +kernel
      exact this _ (am_lookup hm) rfl
    have hsm : Cond.sameMethod "MarkShelter$Sign" "java/lang/Enum" "ordinal" "()I" ∈ am_GW := by
      have : (decide (Cond.sameMethod "MarkShelter$Sign" "java/lang/Enum" "ordinal" "()I" ∈ lw_tbl) && goodWord (Cond.sameMethod "MarkShelter$Sign" "java/lang/Enum" "ordinal" "()I")) = true := by decide +kernel
      rw [Bool.and_eq_true, decide_eq_true_eq] at this
      exact List.mem_filter.mpr this
    have hWy : am_Wy y = am_cw y :: am_GW := by rw [am_Wy_cons, if_pos hhy]
    have hG : GoodIn am_GW (va_wsU (cNm (mC k)) ix "MarkShelter$Sign" "java/lang/Enum" ⟨"MarkShelter$Sign", "ordinal", "()I"⟩ (mY y) (am_Wy y)) := am_good_in fun w hw => by
      unfold va_wsU at hw
      rw [hWy] at hw
      simp only [List.cons_append, List.nil_append, List.mem_cons] at hw
      rcases hw with rfl | rfl | rfl | rfl | rfl | rfl | hw
      · exact am_wd_mem hlk9
      · exact hsm
      · exact am_wd_mem hwl
      · exact am_wd_mem hws
      · exact am_wd_mem hwi
      · exact am_wd_mem hwc
      · exact hw
    exact vx_runU (x := ⟨"MarkShelter$Sign", "ordinal", "()I"⟩) hFix hM (va_cwU n hts hG hWy rfl rfl hyy ⟨by decide, by decide, by rw [hn0]; decide +kernel⟩ hR) ⟨am_Pc_blind, am_recv C9 hW hS hbn hbk (Or.inr (Or.inr ⟨hrk, rfl⟩)), hPc⟩ rfl (by rw [List.length_map]; exact hn) hL hstk (by show 2 * 0 + _ ≤ 8; omega) hd hf
end CALL
end
section
/-! THE ABSTRACT MACHINE'S STEP. -/
abbrev ARun : Type := Nat → Nat → Nat → ALs → List Value → AH → AR
/-- where an exception that leaves a callee is caught: the place behind the handler's astore, and its slot -/
def hdl (k pc E : Nat) : Option (Nat × Nat) := match mH k with
  | [] => none
  | hs => match hs.find? (fun x => decide (x.1 ≤ pc) && decide (pc < x.2.1) && x.2.2.2 == ([13, 19, 24].getD E 0)) with
    | some (_, _, hpc, _) => match decode (mB k) hpc with
      | .ok (.astore_n i, 1) => if (i : Nat) < mL k then some (hpc + 1, i) else none
      | .ok (.astore i, 2) => if i < mL k then some (hpc + 2, i) else none
      | _ => none
    | none => none
/-- a callee has ended: on, or to the handler, or out -/
def aEnd (rec : ARun) (d k pc n : Nat) (L : ALs) (rest : List Value) : AR → AR
  | none => none
  | some (.inl v, h) => rec d k (pc + n) L (v.toList ++ rest) h
  | some (.inr E, h) => match mH k with
    | [] => some (.inr E, h)
    | _ => match hdl k pc E with
      | some (p, i) => rec d k p (st1 (mW k) L i none) [] h
      | none => none
/-- a method is begun -/
def aGo (rec : ARun) (d k : Nat) (args : List Value) (h : AH) : AR := match d with
  | 0 => none
  | d + 1 => if (mkL (mW k) 0 args).length ≤ mL k then rec d k 0 (padL (mL k) (mkL (mW k) 0 args)) [] h else none
/-- what one instruction does: on (place, locals, stack, heap); a call (method, arguments, the instruction's length, locals, rest of the stack, heap); an end -/
abbrev ACt : Type := (Nat × ALs × List Value × AH) ⊕ ((Nat × List Value × Nat × ALs × List Value × AH) ⊕ AR)
def aNo : ACt := .inr (.inr none)
/-- which sorts of call an instruction makes (0 invokestatic, 1 invokevirtual, 2 invokespecial) -/
def ikOK (ik kc : Nat) : Bool := if ik = 0 then [0, 1, 7, 8, 10, 11].contains kc else if ik = 1 then [2, 5].contains kc else [3, 4, 9].contains kc
def aInv (ik d pc n : Nat) (L : ALs) (st : List Value) (h : AH) (m : Nat × Nat × Nat × (Nat × Nat)) : ACt :=
  let (y, na, kc, rk) := m
  if ikOK ik kc = false then aNo
  else if kc = 0 ∨ kc = 1 ∨ kc = 7 then
    (if na ≤ st.length ∧ (st.drop na).length ≤ 4 then .inr (.inl (y, (st.take na).reverse, n, L, st.drop na, h)) else aNo)
  else if kc = 2 ∨ kc = 3 ∨ kc = 4 ∨ kc = 5 then
    (match st.drop na with
     | .ref b :: rest => if kd h b = rk ∧ rest.length ≤ 4 then .inr (.inl (y, .ref b :: (st.take na).reverse, n, L, rest, h)) else aNo
     | _ => aNo)
  else if kc = 8 then
    (match d, st with
     | d' + 1, .int z :: .int dp :: .ref b :: .int sp :: .ref a :: rest =>
       if (kd h a).1 = 1 ∧ (kd h b).1 = 1 ∧ ¬ sp < 0 ∧ ¬ dp < 0 ∧ ¬ z < 0 ∧ sp.toNatClampNeg + z.toNatClampNeg ≤ (kd h a).2 ∧ dp.toNatClampNeg + z.toNatClampNeg ≤ (kd h b).2 ∧ rest.length ≤ 4 then
         .inl (pc + n, L, rest, cpyI h a sp.toNatClampNeg b dp.toNatClampNeg z.toNatClampNeg) else aNo
     | _, _ => aNo)
  else if kc = 9 then
    (match d, st with
     | d' + 1, .ref _ :: rest => if rest.length ≤ 4 then .inl (pc + n, L, rest, h) else aNo
     | _, _ => aNo)
  else if kc = 10 ∨ kc = 11 then
    (match d, st with
     | d' + 1, .int y :: .int x :: rest => if rest.length ≤ 4 then .inl (pc + n, L, .int (if kc = 10 then (if x < y then y else x) else (if y < x then y else x)) :: rest, h) else aNo
     | _, _ => aNo)
  else aNo
def aIf (pc n : Nat) (L : ALs) (st : List Value) (h : AH) (off : Int) (c : Prop) [Decidable c] : ACt := match am_tg pc off with
  | some t => if c then .inl (t, L, st, h) else .inl (pc + n, L, st, h)
  | none => aNo
def aNewA (pc n t : Nat) (L : ALs) (st : List Value) (h : AH) : ACt := match st with
  | .int z :: st => if ¬ z < 0 ∧ z.toNatClampNeg ≤ 10000 then .inl (pc + n, L, .ref (nx h) :: st, mkA h (t, z.toNatClampNeg) z.toNatClampNeg) else aNo
  | _ => aNo
/-- an instruction's length -/
def ilen : Instr → Nat
  | .bipush _ => 2
  | .sipush _ => 3
  | .ldc _ => 2
  | .ldc2_w _ => 3
  | .iload _ => 2
  | .lload _ => 2
  | .dload _ => 2
  | .aload _ => 2
  | .istore _ => 2
  | .lstore _ => 2
  | .dstore _ => 2
  | .astore _ => 2
  | .iinc _ _ => 3
  | .goto _ => 3
  | .ifCond _ _ => 3
  | .if_icmp _ _ => 3
  | .if_acmp _ _ => 3
  | .ifnull _ => 3
  | .ifnonnull _ => 3
  | .getfield _ => 3
  | .putfield _ => 3
  | .getstatic _ => 3
  | .newarray _ => 2
  | .anewarray _ => 3
  | .new _ => 3
  | .invokestatic _ => 3
  | .invokevirtual _ => 3
  | .invokespecial _ => 3
  | _ => 1
def ilOK (i : Instr) (n : Nat) : Bool := match i with
  | .tableswitch .. => true
  | i => n == ilen i
set_option maxRecDepth 100000 in
set_option maxHeartbeats 4000000 in
/-- one instruction -/
def aOne (d k pc : Nat) (L : ALs) (st : List Value) (h : AH) : ACt := match decode (mB k) pc with
  | .ok (i, n) => if ilOK i n = true then (match i with
    | .aconst_null => .inl (pc + n, L, .null :: st, h)
    | .iconst z => .inl (pc + n, L, .int (Int32.ofInt z) :: st, h)
    | .bipush z => .inl (pc + n, L, .int (Int8.ofInt z).toInt32 :: st, h)
    | .sipush z => .inl (pc + n, L, .int (Int16.ofInt z).toInt32 :: st, h)
    | .lconst z => .inl (pc + n, L, .long (Int64.ofNat (z : Nat)) :: st, h)
    | .dconst z => if z = 0 then .inl (pc + n, L, .double 0 :: st, h) else aNo
    | .ldc ix => (match lR (mC k) ix with
      | some (.ref v) => .inl (pc + n, L, .ref v :: st, h)
      | _ => aNo)
    | .ldc2_w ix => (match lR (mC k) ix with
      | some (.long v) => .inl (pc + n, L, .long v :: st, h)
      | _ => aNo)
    | .iload_n j => (match ldA L j with
      | some (.int x) => .inl (pc + n, L, .int x :: st, h)
      | _ => aNo)
    | .iload j => (match ldA L j with
      | some (.int x) => .inl (pc + n, L, .int x :: st, h)
      | _ => aNo)
    | .lload_n j => (match ldA L j with
      | some (.long x) => .inl (pc + n, L, .long x :: st, h)
      | _ => aNo)
    | .lload j => (match ldA L j with
      | some (.long x) => .inl (pc + n, L, .long x :: st, h)
      | _ => aNo)
    | .dload j => (match ldA L j with
      | some (.double x) => .inl (pc + n, L, .double x :: st, h)
      | _ => aNo)
    | .aload_n j => (match ldA L j with
      | some v => if isRf v then .inl (pc + n, L, v :: st, h) else aNo
      | _ => aNo)
    | .aload j => (match ldA L j with
      | some v => if isRf v then .inl (pc + n, L, v :: st, h) else aNo
      | _ => aNo)
    | .istore_n j => (match st with
      | .int x :: st => if (j : Nat) < mL k then .inl (pc + n, st1 (mW k) L j (some (.int x)), st, h) else aNo
      | _ => aNo)
    | .istore j => (match st with
      | .int x :: st => if j < mL k then .inl (pc + n, st1 (mW k) L j (some (.int x)), st, h) else aNo
      | _ => aNo)
    | .astore_n j => (match st with
      | v :: st => if isRf v ∧ (j : Nat) < mL k then .inl (pc + n, st1 (mW k) L j (some v), st, h) else aNo
      | _ => aNo)
    | .astore j => (match st with
      | v :: st => if isRf v ∧ j < mL k then .inl (pc + n, st1 (mW k) L j (some v), st, h) else aNo
      | _ => aNo)
    | .lstore_n j => (match st with
      | .long x :: st => if (j : Nat) + 1 < mL k ∧ (mW k).contains (j : Nat) then .inl (pc + n, st2 (mW k) L j (.long x), st, h) else aNo
      | _ => aNo)
    | .lstore j => (match st with
      | .long x :: st => if j + 1 < mL k ∧ (mW k).contains j then .inl (pc + n, st2 (mW k) L j (.long x), st, h) else aNo
      | _ => aNo)
    | .dstore j => (match st with
      | .double x :: st => if j + 1 < mL k ∧ (mW k).contains j then .inl (pc + n, st2 (mW k) L j (.double x), st, h) else aNo
      | _ => aNo)
    | .iinc j z => (match ldA L j with
      | some (.int x) => if j < mL k then .inl (pc + n, st1 (mW k) L j (some (.int (x + Int32.ofInt z))), st, h) else aNo
      | _ => aNo)
    | .dup => (match st with
      | .int x :: st => .inl (pc + n, L, .int x :: .int x :: st, h)
      | .ref x :: st => .inl (pc + n, L, .ref x :: .ref x :: st, h)
      | _ => aNo)
    | .pop => (match st with
      | .int _ :: st => .inl (pc + n, L, st, h)
      | .ref _ :: st => .inl (pc + n, L, st, h)
      | _ => aNo)
    | .iadd => (match st with
      | .int y :: .int x :: st => .inl (pc + n, L, .int (x + y) :: st, h)
      | _ => aNo)
    | .isub => (match st with
      | .int y :: .int x :: st => .inl (pc + n, L, .int (x - y) :: st, h)
      | _ => aNo)
    | .imul => (match st with
      | .int y :: .int x :: st => .inl (pc + n, L, .int (x * y) :: st, h)
      | _ => aNo)
    | .iand => (match st with
      | .int y :: .int x :: st => .inl (pc + n, L, .int (x &&& y) :: st, h)
      | _ => aNo)
    | .ior => (match st with
      | .int y :: .int x :: st => .inl (pc + n, L, .int (x ||| y) :: st, h)
      | _ => aNo)
    | .idiv => (match st with
      | .int y :: .int x :: st => if y = 0 then aNo else .inl (pc + n, L, .int (x / y) :: st, h)
      | _ => aNo)
    | .irem => (match st with
      | .int y :: .int x :: st => if y = 0 then aNo else .inl (pc + n, L, .int (x - x / y * y) :: st, h)
      | _ => aNo)
    | .ineg => (match st with
      | .int x :: st => .inl (pc + n, L, .int (-x) :: st, h)
      | _ => aNo)
    | .ishr => (match st with
      | .int y :: .int x :: st => .inl (pc + n, L, .int (x >>> (y &&& 31)) :: st, h)
      | _ => aNo)
    | .iushr => (match st with
      | .int y :: .int x :: st => .inl (pc + n, L, .int (x.toUInt32 >>> (y.toUInt32 &&& Int32.toUInt32 31)).toInt32 :: st, h)
      | _ => aNo)
    | .ladd => (match st with
      | .long y :: .long x :: st => .inl (pc + n, L, .long (x + y) :: st, h)
      | _ => aNo)
    | .lmul => (match st with
      | .long y :: .long x :: st => .inl (pc + n, L, .long (x * y) :: st, h)
      | _ => aNo)
    | .lcmp => (match st with
      | .long y :: .long x :: st => .inl (pc + n, L, .int (lg_cmp x y) :: st, h)
      | _ => aNo)
    | .i2l => (match st with
      | .int x :: st => .inl (pc + n, L, .long x.toInt64 :: st, h)
      | _ => aNo)
    | .l2i => (match st with
      | .long x :: st => .inl (pc + n, L, .int x.toInt32 :: st, h)
      | _ => aNo)
    | .i2b => (match st with
      | .int x :: st => .inl (pc + n, L, .int x.toInt8.toInt32 :: st, h)
      | _ => aNo)
    | .i2c => (match st with
      | .int x :: st => .inl (pc + n, L, .int (x.toUInt32 % 65536).toInt32 :: st, h)
      | _ => aNo)
    | .i2d => (match st with
      | .int x :: st => .inl (pc + n, L, .double (FP.i2d x) :: st, h)
      | _ => aNo)
    | .ddiv => (match st with
      | .double y :: .double x :: st => if FP.ddiv x y &&& 0x7fffffffffffffff ≤ 0x7ff0000000000000 then .inl (pc + n, L, .double (FP.ddiv x y) :: st, h) else aNo
      | _ => aNo)
    | .dcmp op => (match st with
      | .double y :: .double x :: st => .inl (pc + n, L, .int (Op.cmpValue (FP.dcmp x y) op) :: st, h)
      | _ => aNo)
    | .goto off => (match am_tg pc off with
      | some t => .inl (t, L, st, h)
      | none => aNo)
    | .ifCond c off => (match st with
      | .int x :: st => (match c with
        | .eq => aIf pc n L st h off (x = 0)
        | .ne => aIf pc n L st h off (¬ x = 0)
        | .lt => aIf pc n L st h off (x < 0)
        | .ge => aIf pc n L st h off (0 ≤ x)
        | .gt => aIf pc n L st h off (0 < x)
        | .le => aIf pc n L st h off (x ≤ 0))
      | _ => aNo)
    | .if_icmp c off => (match st with
      | .int y :: .int x :: st => (match c with
        | .eq => aIf pc n L st h off (x = y)
        | .ne => aIf pc n L st h off (¬ x = y)
        | .lt => aIf pc n L st h off (x < y)
        | .ge => aIf pc n L st h off (y ≤ x)
        | .gt => aIf pc n L st h off (y < x)
        | .le => aIf pc n L st h off (x ≤ y))
      | _ => aNo)
    | .if_acmp c off => (match st with
      | .ref y :: .ref x :: st => if (x < 49 ∧ y < 49) ∨ (am_NC ≤ x ∧ am_NC ≤ y) then (match c with
        | .eq => aIf pc n L st h off (x = y)
        | .ne => aIf pc n L st h off (¬ x = y)) else aNo
      | _ => aNo)
    | .ifnull off => (match st with
      | .ref _ :: st => .inl (pc + n, L, st, h)
      | .null :: st => (match am_tg pc off with
        | some t => .inl (t, L, st, h)
        | none => aNo)
      | _ => aNo)
    | .ifnonnull off => (match st with
      | .null :: st => .inl (pc + n, L, st, h)
      | .ref _ :: st => (match am_tg pc off with
        | some t => .inl (t, L, st, h)
        | none => aNo)
      | _ => aNo)
    | .tableswitch df lo hi offs => (match st with
      | .int x :: st => if x.toInt < lo ∨ hi < x.toInt then (match am_tg pc df with
          | some t => .inl (t, L, st, h)
          | none => aNo)
        else (match offs[(x.toInt - lo).toNat]? with
          | some off => (match am_tg pc off with
            | some t => .inl (t, L, st, h)
            | none => aNo)
          | none => aNo)
      | _ => aNo)
    | .getfield ix => (match fR (mC k) ix, st with
      | some (kk, j, t), .ref a :: st => if kd h a = kk then (if t = 1 then .inl (pc + n, L, .int (iv h a j) :: st, h) else if t = 2 then .inl (pc + n, L, .long (jv h a j) :: st, h) else if t = 4 then .inl (pc + n, L, va_rf (rv h a j) :: st, h) else aNo) else aNo
      | _, _ => aNo)
    | .putfield ix => (match fR (mC k) ix, st with
      | some (kk, j, t), v :: .ref a :: st => if kd h a = kk ∧ kk.1 = 0 ∧ pfOK k kk.2 j = true then (match v with
          | .int x => if t = 1 then .inl (pc + n, L, st, setI h a j x) else aNo
          | .long x => if t = 2 then .inl (pc + n, L, st, setJ h a j x) else aNo
          | .ref x => if t = 4 then .inl (pc + n, L, st, setR h a j (some x)) else aNo
          | _ => aNo) else aNo
      | _, _ => aNo)
    | .getstatic ix => (match sR (mC k) ix with
      | some v => .inl (pc + n, L, v :: st, h)
      | none => aNo)
    | .arraylength => (match st with
      | .ref a :: st => if (1 ≤ (kd h a).1 ∧ (kd h a).1 ≤ 6) ∨ (12 ≤ (kd h a).1 ∧ (kd h a).1 ≤ 15) then .inl (pc + n, L, .int (nI (kd h a).2) :: st, h) else aNo
      | _ => aNo)
    | .iaload => (match st with
      | .int i :: .ref a :: st => if ((kd h a).1 = 1 ∨ (kd h a).1 = 12) ∧ inR i (kd h a).2 then .inl (pc + n, L, .int (iv h a i.toNatClampNeg) :: st, h) else aNo
      | _ => aNo)
    | .baload => (match st with
      | .int i :: .ref a :: st => if ((kd h a).1 = 3 ∨ (kd h a).1 = 13) ∧ inR i (kd h a).2 then .inl (pc + n, L, .int (iv h a i.toNatClampNeg) :: st, h) else aNo
      | _ => aNo)
    | .laload => (match st with
      | .int i :: .ref a :: st => if (kd h a).1 = 2 ∧ inR i (kd h a).2 then .inl (pc + n, L, .long (jv h a i.toNatClampNeg) :: st, h) else aNo
      | _ => aNo)
    | .aaload => (match st with
      | .int i :: .ref a :: st => if ((4 ≤ (kd h a).1 ∧ (kd h a).1 ≤ 6) ∨ (kd h a).1 = 14 ∨ (kd h a).1 = 15) ∧ inR i (kd h a).2 then .inl (pc + n, L, va_rf (rv h a i.toNatClampNeg) :: st, h) else aNo
      | _ => aNo)
    | .iastore => (match st with
      | .int x :: .int i :: .ref a :: st => if (kd h a).1 = 1 ∧ inR i (kd h a).2 then .inl (pc + n, L, st, setI h a i.toNatClampNeg x) else aNo
      | _ => aNo)
    | .bastore => (match st with
      | .int x :: .int i :: .ref a :: st => if (kd h a).1 = 3 ∧ inR i (kd h a).2 then .inl (pc + n, L, st, setI h a i.toNatClampNeg x.toInt8.toInt32) else aNo
      | _ => aNo)
    | .lastore => (match st with
      | .long x :: .int i :: .ref a :: st => if (kd h a).1 = 2 ∧ inR i (kd h a).2 then .inl (pc + n, L, st, setJ h a i.toNatClampNeg x) else aNo
      | _ => aNo)
    | .aastore => (match st with
      | .ref x :: .int i :: .ref a :: st => if inR i (kd h a).2 ∧ (((kd h a).1 = 4 ∧ kd h x = (10, 0)) ∨ ((kd h a).1 = 5 ∧ kd h x = (0, 4)) ∨ ((kd h a).1 = 6 ∧ kd h x = (0, 2))) then .inl (pc + n, L, st, setR h a i.toNatClampNeg (some x)) else aNo
      | _ => aNo)
    | .newarray t => (match t with
      | .int => aNewA pc n 1 L st h
      | .long => aNewA pc n 2 L st h
      | .byte => aNewA pc n 3 L st h
      | _ => aNo)
    | .anewarray ix => (match aR (mC k) ix with
      | some t => aNewA pc n t L st h
      | none => aNo)
    | .new ix => (match tR k pc with
      | some E => if 10 ≤ d ∧ st.length ≤ 4 then .inr (.inr (some (.inr E, bump h 1 6))) else aNo
      | none => (match nR (mC k) ix with
        | some (ci, N) => .inl (pc + n, L, .ref (nx h) :: st, mkA h (0, ci) N)
        | none => aNo))
    | .invokestatic ix => (match cR (mC k) ix with
      | some m => aInv 0 d pc n L st h m
      | none => aNo)
    | .invokevirtual ix => (match cR (mC k) ix with
      | some m => aInv 1 d pc n L st h m
      | none => aNo)
    | .invokespecial ix => (match cR (mC k) ix with
      | some m => aInv 2 d pc n L st h m
      | none => aNo)
    | .ireturn => (match st with
      | [.int v] => (match am_nar (mR k) v with
        | some w => .inr (.inr (some (.inl (some (.int w)), h)))
        | none => aNo)
      | _ => aNo)
    | .lreturn => (match st with
      | [.long v] => if mR k = 2 then .inr (.inr (some (.inl (some (.long v)), h))) else aNo
      | _ => aNo)
    | .dreturn => (match st with
      | [.double v] => if mR k = 3 then .inr (.inr (some (.inl (some (.double v)), h))) else aNo
      | _ => aNo)
    | .areturn => (match st with
      | [.ref v] => if mR k = 4 then .inr (.inr (some (.inl (some (.ref v)), h))) else aNo
      | [.null] => if mR k = 4 then .inr (.inr (some (.inl (some .null), h))) else aNo
      | _ => aNo)
    | .return_ => (match st with
      | [] => if mR k = 0 then .inr (.inr (some (.inl none, h))) else aNo
      | _ => aNo)
    | _ => aNo) else aNo
  | _ => aNo
/-- one instruction, the rest by rec -/
def aStep (rec : ARun) : ARun := fun d k pc L st h => match aOne d k pc L st h with
  | .inl (pc', L', st', h') => rec d k pc' L' st' h'
  | .inr (.inl (y, av, n, L', rest, h')) => aEnd rec d k pc n L' rest (aGo rec d y av h')
  | .inr (.inr r) => r
def exec : Nat → ARun
  | 0 => fun _ _ _ _ _ _ => none
  | f + 1 => aStep (exec f)
/-! counters grow, and more fuel changes nothing -/
def am_mono (h : AH) : ACt → Prop
  | .inl (_, _, _, h') => nc h ≤ nc h' ∧ ns h ≤ ns h'
  | .inr (.inl (_, _, _, _, _, h')) => nc h ≤ nc h' ∧ ns h ≤ ns h'
  | .inr (.inr (some (_, h'))) => nc h ≤ nc h' ∧ ns h ≤ ns h'
  | .inr (.inr none) => True
theorem am_mono_no {h : AH} : am_mono h aNo := trivial
theorem am_mono_if {pc n : Nat} {L : ALs} {st : List Value} {h : AH} {off : Int} {c : Prop} [Decidable c] : am_mono h (aIf pc n L st h off c) := by
  unfold aIf
  split
  · split <;> exact ⟨Nat.le_refl _, Nat.le_refl _⟩
  · exact trivial
theorem am_mono_newA {pc n t : Nat} {L : ALs} {st : List Value} {h : AH} : am_mono h (aNewA pc n t L st h) := by
  unfold aNewA
  split
  · split
    · exact ⟨Nat.le_succ _, Nat.le_add_right _ _⟩
    · exact trivial
  · exact trivial
set_option maxHeartbeats 1000000 in
theorem am_mono_inv {ik d pc n : Nat} {L : ALs} {st : List Value} {h : AH} {m : Nat × Nat × Nat × (Nat × Nat)} : am_mono h (aInv ik d pc n L st h m) := by
  unfold aInv
  obtain ⟨y, na, kc, rk⟩ := m
  dsimp only
  repeat' split
  all_goals first | exact trivial | exact ⟨Nat.le_refl _, Nat.le_refl _⟩
set_option maxHeartbeats 4000000 in
set_option maxRecDepth 100000 in
theorem am_mono_one {d k pc : Nat} {L : ALs} {st : List Value} {h : AH} : am_mono h (aOne d k pc L st h) := by
  unfold aOne
  split
  · split
    · split
      all_goals first | exact am_mono_if | exact am_mono_newA | exact am_mono_inv | exact trivial | exact ⟨Nat.le_refl _, Nat.le_refl _⟩ | (repeat' split) <;> first | exact am_mono_if | exact am_mono_newA | exact am_mono_inv | exact trivial | exact ⟨Nat.le_refl _, Nat.le_refl _⟩ | exact ⟨Nat.le_succ _, Nat.le_add_right _ _⟩
    · exact trivial
  · exact trivial
def am_MonoR (rec : ARun) : Prop := ∀ d k pc L st h o h', rec d k pc L st h = some (o, h') → nc h ≤ nc h' ∧ ns h ≤ ns h'
theorem am_mono_step {rec : ARun} (ih : am_MonoR rec) : am_MonoR (aStep rec) := by
  intro d k pc L st h o h' hh
  have h1 := am_mono_one (d := d) (k := k) (pc := pc) (L := L) (st := st) (h := h)
  unfold aStep at hh
  split at hh
  · rename_i pc' L' st' h9 e
    rw [e] at h1
    have h2 := ih _ _ _ _ _ _ _ _ hh
    exact ⟨Nat.le_trans h1.1 h2.1, Nat.le_trans h1.2 h2.2⟩
  · rename_i y av n L' rest h9 e
    rw [e] at h1
    have key : ∀ r, aGo rec d y av h9 = some r → nc h9 ≤ nc r.2 ∧ ns h9 ≤ ns r.2 := by
      intro r hr
      obtain ⟨r1, r2⟩ := r
      unfold aGo at hr
      split at hr
      · cases hr
      · split at hr
        · exact ih _ _ _ _ _ _ _ _ hr
        · cases hr
    cases eg : aGo rec d y av h9 with
    | none => rw [eg] at hh; cases hh
    | some r =>
      have h3 := key r eg
      obtain ⟨r1, r2⟩ := r
      rw [eg] at hh
      have h4 : nc r2 ≤ nc h' ∧ ns r2 ≤ ns h' := by
        cases r1 with
        | inl v => exact ih _ _ _ _ _ _ _ _ hh
        | inr E =>
          unfold aEnd at hh
          dsimp only at hh
          split at hh
          · cases hh; exact ⟨Nat.le_refl _, Nat.le_refl _⟩
          · split at hh
            · exact ih _ _ _ _ _ _ _ _ hh
            · cases hh
      exact ⟨Nat.le_trans h1.1 (Nat.le_trans h3.1 h4.1), Nat.le_trans h1.2 (Nat.le_trans h3.2 h4.2)⟩
  · rename_i r e
    rw [e, hh] at h1
    exact h1
theorem am_mono_exec : ∀ f, am_MonoR (exec f)
  | 0 => fun _ _ _ _ _ _ _ _ h => by cases h
  | f + 1 => am_mono_step (am_mono_exec f)
def am_LeR (rec rec' : ARun) : Prop := ∀ d k pc L st h r, rec d k pc L st h = some r → rec' d k pc L st h = some r
theorem am_le_step {rec rec' : ARun} (ih : am_LeR rec rec') : am_LeR (aStep rec) (aStep rec') := by
  intro d k pc L st h r hh
  unfold aStep at hh ⊢
  split at hh
  · rename_i e
    exact ih _ _ _ _ _ _ _ hh
  · rename_i y av n L' rest h9 e
    cases eg : aGo rec d y av h9 with
    | none => rw [eg] at hh; cases hh
    | some q =>
      have eg' : aGo rec' d y av h9 = some q := by
        unfold aGo at eg ⊢
        cases d with
        | zero => cases eg
        | succ d =>
          dsimp only at eg ⊢
          split at eg
          · rename_i hc
            rw [if_pos hc]
            exact ih _ _ _ _ _ _ _ eg
          · cases eg
      rw [eg] at hh
      rw [eg']
      obtain ⟨q1, q2⟩ := q
      cases q1 with
      | inl v => exact ih _ _ _ _ _ _ _ hh
      | inr E =>
        unfold aEnd at hh ⊢
        dsimp only at hh ⊢
        split at hh
        · exact hh
        · split at hh
          · exact ih _ _ _ _ _ _ _ hh
          · cases hh
  · exact hh
theorem am_le_exec : ∀ f, am_LeR (exec f) (exec (f + 1))
  | 0 => fun _ _ _ _ _ _ _ h => by cases h
  | f + 1 => am_le_step (am_le_exec f)
theorem am_le_add (f n : Nat) : am_LeR (exec f) (exec (f + n)) := by
  induction n with
  | zero => exact fun _ _ _ _ _ _ _ h => h
  | succ n ih => exact fun d k pc L st h r hh => am_le_exec _ _ _ _ _ _ _ _ (ih _ _ _ _ _ _ _ hh)
end
section
/-! HOW A METHOD ENDS: what each end owes; throws and their catching. -/
def am_Ret (k : Nat) (i : Instr) (st : List Value) (v : Option Value) : Prop :=
  (i = .ireturn ∧ ∃ x, st = [.int x] ∧ v = some (.int x) ∧ am_nar (mR k) x = some x) ∨ (i = .lreturn ∧ ∃ x, st = [.long x] ∧ v = some (.long x) ∧ mR k = 2) ∨ (i = .dreturn ∧ ∃ x, st = [.double x] ∧ v = some (.double x) ∧ mR k = 3) ∨
  (i = .areturn ∧ ∃ x, st = [x] ∧ v = some x ∧ (x = .null ∨ ∃ a, x = .ref a) ∧ mR k = 4) ∨ (i = .return_ ∧ st = [] ∧ v = none ∧ mR k = 0)
def am_Ends (D : va_G) (dA : Nat → ClassId) (ad : Nat → Nat) (zz : Value) (bs Ln : Nat) (xs : Nat → Int32) (d k : Nat) (p : Program) (l : Launch) (e : Env) (R : Room) (s : State) (m : MethodId) (args : Array Value) (below : List Frame) (meth : Method) (c : Code) (as0 : List Nat) (c0 s0 : Nat) (Q : State → Prop) (o : AO) (h' : AH) : Prop :=
  (∀ (pc : Nat) (ls : Array Slot) (H : Heap) (locs : List Loc) (as : List Nat) (i : Instr) (st : List Value) (v : Option Value), decode (mB k) pc = .ok (i, 1) → am_Ret k i st v → o = .inl v → (∃ t9, as = as0 ++ t9) → am_WS D dA ad bs Ln xs as h' H → va_S (am_A bs) s.heap H locs → am_VS (nx h') st → c0 ≤ nc h' → s0 ≤ ns h' →
    W p l e R s m args below meth c H locs (nc h' - c0) (ns h' - s0) Q (F0 m pc ls (st.map (am_cv ad zz as)))) ∧
  (∀ (pc ix E : Nat) (ls : Array Slot) (H : Heap) (locs : List Loc) (as : List Nat) (st : List Value) (h1 : AH), decode (mB k) pc = .ok (.new ix, 3) → tR k pc = some E → o = .inr E → h' = bump h1 1 6 → 10 ≤ d → st.length ≤ 4 → (∃ t9, as = as0 ++ t9) → am_WS D dA ad bs Ln xs as h1 H → va_S (am_A bs) s.heap H locs → ls.size = mL k → c0 ≤ nc h1 → s0 ≤ ns h1 →
    W p l e R s m args below meth c H locs (nc h1 - c0) (ns h1 - s0) Q (F0 m pc ls (st.map (am_cv ad zz as)))) ∧
  (∀ (pc E : Nat) (ls : Array Slot) (H : Heap) (locs : List Loc) (as : List Nat) (rest : List Value) (q : Addr) (ce : Cell), mH k = [] → o = .inr E → (∃ t9, as = as0 ++ t9) → am_WS D dA ad bs Ln xs as h' H → va_S (am_A bs) s.heap H locs → H[q]? = some ce → ce.vm = .none → s.vm.findClass (exNm E) = some ce.cls → c0 ≤ nc h' → s0 ≤ ns h' →
    vx_W p l e R s m args below meth c H locs (nc h' - c0) (ns h' - s0) Q (F0 m pc ls rest) q)
/-! the throw sites -/
def am_nms : List String := ["java/lang/RuntimeException", "java/lang/Exception"]
def am_tok (e : (Nat × Nat) × Nat × Nat × Nat × Nat) : Bool :=
  let k := e.1.1; let pc := e.1.2; let E := e.2.1; let ik := e.2.2.1; let ii := e.2.2.2.1; let ic := e.2.2.2.2
  decide (decode (mB k) pc = .ok (.new ik, 3)) && decide (decode (mB k) (pc + 3) = .ok (.dup, 1)) && decide (decode (mB k) (pc + 4) = .ok (.ldc ii, 2)) && decide (decode (mB k) (pc + 6) = .ok (.invokespecial ic, 3)) && decide (decode (mB k) (pc + 9) = .ok (.athrow, 1)) &&
  (mH k).isEmpty && decide (cNm (mC k) = "MarkShelter") && (k_txt.any (fun t => decide (t.1 = "MarkShelter") && decide (t.2.1 = ii))) && decide (E < 3) && decide ((mY k).name ≠ "law")
theorem am_tck : tT.all am_tok = true := by decide +kernel
theorem am_t_at {k pc E : Nat} (h : tR k pc = some E) : ∃ w, am_tok ((k, pc), E, w) = true ∧ ((k, pc), E, w) ∈ tT := by
  unfold tR at h
  cases e : tT.lookup (k, pc) with
  | none => rw [e] at h; cases h
  | some r =>
    rw [e] at h
    obtain ⟨r1, r2⟩ := r
    cases h
    exact ⟨r2, List.all_eq_true.mp am_tck _ (am_lookup e), am_lookup e⟩
/-- the words of the throws -/
def am_tws (E ik ic : Nat) : List Cond := Cond.classLink "MarkShelter" ik (exNm E) :: Cond.initialized (exNm E) :: vx_atS "MarkShelter" ic (exNm E) am_nms
def am_tw1 (E ik ic : Nat) : Bool := (am_tws E ik ic).all (fun w => decide (w ∈ lw_tbl) && (goodWord w || am_isN w) && vx_ot w) && Bundle.fit (exNm E) && am_nms.all Bundle.fit
theorem am_tw0 : am_tw1 0 44 48 = true := by decide +kernel
theorem am_tw2 : am_tw1 1 55 59 = true := by decide +kernel
theorem am_tw3 : am_tw1 2 137 141 = true := by decide +kernel
theorem am_twk : tT.all (fun e => (decide (e.2.1 = 0) && decide (e.2.2.1 = 44) && decide (e.2.2.2.2 = 48)) || (decide (e.2.1 = 1) && decide (e.2.2.1 = 55) && decide (e.2.2.2.2 = 59)) || (decide (e.2.1 = 2) && decide (e.2.2.1 = 137) && decide (e.2.2.2.2 = 141))) = true := by decide +kernel
theorem am_tw {e : (Nat × Nat) × Nat × Nat × Nat × Nat} (h : e ∈ tT) : am_tw1 e.2.1 e.2.2.1 e.2.2.2.2 = true := by
  have h1 := List.all_eq_true.mp am_twk _ h
  simp only [Bool.or_eq_true, Bool.and_eq_true, decide_eq_true_eq] at h1
  rcases h1 with (⟨⟨a, b⟩, c⟩ | ⟨⟨a, b⟩, c⟩) | ⟨⟨a, b⟩, c⟩ <;> rw [a, b, c]
  · exact am_tw0
  · exact am_tw2
  · exact am_tw3
section ENDS
variable {l : Launch} {D : va_G} {dA : Nat → ClassId} {ad : Nat → Nat} {zz : Value} {bs Ln : Nat} {xs : Nat → Int32} {d k : Nat} {p : Program} {e : Env} {R : Room} {s : State} {m : MethodId} {args : Array Value} {below : List Frame} {meth : Method} {c : Code} {as0 : List Nat} {c0 s0 : Nat} {Q : State → Prop} {pc : Nat} {Lo : ALs} {st : List Value} {h h' : AH}
variable {as : List Nat} {H : Heap} {locs : List Loc} {ls : Array Slot} {cells slots : Nat} {rest : List Value}
theorem am_ws_word {w : Cond} (hKV : am_KV ad s) (h : w ∈ lw_tbl) (hg : (goodWord w || am_isN w) = true) : w.before args s = true := by
  rw [Bool.or_eq_true] at hg
  rcases hg with hg | hg
  · exact am_gw hg (hKV.1 w (List.mem_filter.mpr ⟨h, hg⟩))
  · refine va_Nw.use ?_ (hKV.2.1 w (List.mem_filter.mpr ⟨h, hg⟩))
    cases w <;> first | rfl | (exact absurd hg Bool.false_ne_true)
theorem am_WS_bump {cc nn : Nat} (hW : am_WS D dA ad bs Ln xs as h H) {H1 : Heap} (hq : ∀ q : Nat, q < H.size → H1[q]? = H[q]?) : am_WS D dA ad bs Ln xs as (bump h cc nn) H1 :=
  ⟨hW.1, hW.2.1.kept (fun k q hk => hq q.1 ((hW.2.1 k q hk).lt)), hW.2.2.1, hW.2.2.2.1, hW.2.2.2.2⟩
set_option maxHeartbeats 1000000 in
theorem am_throw {ix E mc ms : Nat} {a0 : Array Value} {Qc : Array Value → State → Outcome → State → Prop} {h1 : AH} (C : am_Cx l D dA ad zz bs Ln xs d k p R s m args meth c) (hd : decode (mB k) pc = .ok (.new ix, 3)) (ht : tR k pc = some E) (hd10 : 10 ≤ d) (hr9 : st.length ≤ 4) (hX : ∃ t9, as = as0 ++ t9) (hW : am_WS D dA ad bs Ln xs as h1 H) (hS : va_S (am_A bs) s.heap H locs) (hls : ls.size = mL k)
    (hcr : cells + 1 ≤ R.cells) (hsr : slots + 6 ≤ R.slots) (hmc : cells + 1 ≤ mc) (hms : slots + 6 ≤ ms) :
    W p l e R s m args below meth c H locs cells slots (vx_MQ below Qc (am_XC D dA ad bs Ln xs as0 (bump h1 1 6) (.inr E)) args s mc ms (am_A bs)) (F0 m pc ls (st.map (am_cv ad zz as))) := by
  obtain ⟨hx, hb, hml, hr, hlk, hown, htr, hnm, hHH, ⟨hfr, hlo⟩, hKV, hK, hCF, ⟨hbs, hLn⟩, hzz, hinj, hadb, hU1, hU2⟩ := C
  obtain ⟨⟨ik, ii, ic⟩, hok, hmem⟩ := am_t_at ht
  have htw := am_tw hmem
  unfold am_tok at hok
  dsimp only at hok htw
  simp only [Bool.and_eq_true, decide_eq_true_eq] at hok
  obtain ⟨⟨⟨⟨⟨⟨⟨⟨⟨d0, d3⟩, d4⟩, d6⟩, d9⟩, hhy⟩, hcm⟩, htx⟩, hE⟩, hnl⟩ := hok
  obtain ⟨tx, htx1, htx2⟩ := List.any_eq_true.mp htx
  simp only [Bool.and_eq_true, decide_eq_true_eq] at htx2
  obtain ⟨sa, hsa⟩ := hKV.2.2.2.1 tx htx1
  rw [htx2.1, htx2.2] at hsa
  rw [hcm] at hown
  unfold am_tw1 at htw
  simp only [Bool.and_eq_true] at htw
  obtain ⟨⟨hws, hfit⟩, hfits⟩ := htw
  have hw1 : ∀ w ∈ am_tws E ik ic, w.before args s = true := fun w hw => by
    have h9 := List.all_eq_true.mp hws w hw
    simp only [Bool.and_eq_true, decide_eq_true_eq] at h9
    exact am_ws_word hKV h9.1.1 h9.1.2
  have hw2 : ∀ w ∈ am_tws E ik ic, vx_ot w = true := fun w hw => by
    have h9 := List.all_eq_true.mp hws w hw
    simp only [Bool.and_eq_true, decide_eq_true_eq] at h9
    exact h9.2
  have h8 := am_cats (st := st.map (am_cv ad zz as)) (by simpa using hr9)
  have hmt : mH k = [] := by simpa using hhy
  exact vx_throwS (names := am_nms) (cls := exNm E) hx hb htr hown hfit (fun n hn => List.all_eq_true.mp hfits n hn) (hw1 _ List.mem_cons_self) (hw1 _ (List.mem_cons_of_mem _ List.mem_cons_self)) hsa (fun w hw => hw1 w (List.mem_cons_of_mem _ (List.mem_cons_of_mem _ hw))) (fun w hw => hw2 w hw) hU1 hU2 hS (hls.trans hml.symm) d0 d3 d4 d6 d9
    (fun x hx9 => by rw [hHH.resolve_left hnl, hmt] at hx9; cases hx9) (by show 2 + 3 < _; omega) (by show _ + (13 * (2 + 1) + 43) ≤ _; omega) hcr hsr hlk
    (fun t hal hsz hq => ⟨E, as, rfl, rfl, hX, am_WS_bump hW hq, ⟨Nat.le_trans hS.1 hsz, fun q h1 h2 => (hq q (Nat.lt_of_lt_of_le h1 hS.1)).trans (hS.2.1 q h1 h2)⟩⟩) hS.2.2 hmc hms
end ENDS
end
section
/-! THE CONTRACT of a method, out of the walk of its body. -/
def am_rtok (y : Nat) : Bool := match mR y with
  | 0 => decide (mRT y = none)
  | 1 => decide (mRT y = some .int)
  | 2 => decide (mRT y = some .long)
  | 3 => decide (mRT y = some .double)
  | 5 => decide (mRT y = some .boolean)
  | 6 => decide (mRT y = some .char)
  | 7 => decide (mRT y = some .byte)
  | 4 => (match mRT y with | some (.object _) => true | some (.array _) => true | _ => false)
  | _ => false
theorem am_rtck : kT.all (fun q => am_rtok q.1) = true := by decide +kernel
theorem am_mk_len {W : List Nat} {f : Value → Value} (hf : ∀ v, (f v).category = v.category) : ∀ (av : List Value) (i : Nat), (lg_sl (av.map f)).length = (mkL W i av).length
  | [], _ => rfl
  | v :: av, i => by
    have ih := am_mk_len (W := W) hf av
    have e : lg_sl ((v :: av).map f) = (if (f v).category = 2 then [Slot.val (f v), .second] else [.val (f v)]) ++ lg_sl (av.map f) := rfl
    rw [e, List.length_append, hf v]
    cases v with
    | long x => rw [if_pos (show (Value.long x).category = 2 from rfl), ih (i + 2)]; simp [mkL]; omega
    | double x => rw [if_pos (show (Value.double x).category = 2 from rfl), ih (i + 2)]; simp [mkL]; omega
    | int x => rw [if_neg (show ¬ (Value.int x).category = 2 from by show ¬ 1 = 2; decide), ih (i + 1)]; simp [mkL]; omega
    | float x => rw [if_neg (show ¬ (Value.float x).category = 2 from by show ¬ 1 = 2; decide), ih (i + 1)]; simp [mkL]; omega
    | null => rw [if_neg (show ¬ (Value.null).category = 2 from by show ¬ 1 = 2; decide), ih (i + 1)]; simp [mkL]; omega
    | ref x => rw [if_neg (show ¬ (Value.ref x).category = 2 from by show ¬ 1 = 2; decide), ih (i + 1)]; simp [mkL]; omega
    | retAddr x => rw [if_neg (show ¬ (Value.retAddr x).category = 2 from by show ¬ 1 = 2; decide), ih (i + 1)]; simp [mkL]; omega
theorem am_mk_get {W : List Nat} {f : Value → Value} (hf : ∀ v, (f v).category = v.category) : ∀ (av : List Value) (i j : Nat) (v : Value), (mkL W i av)[j]? = some (some v) → (i + j, f v) ∈ lv_args i (av.map f) ∧ (v.category = 2 → i + j ∈ W) ∧ v ∈ av
  | [], _, _, _, h => by simp [mkL] at h
  | w :: av, i, j, v, h => by
    have e : lv_args i ((w :: av).map f) = (i, f w) :: lv_args (if (f w).category = 2 then i + 2 else i + 1) (av.map f) := rfl
    rw [e, hf w]
    have wide : ∀ u : Value, u.category = 2 → w = u → mkL W i (w :: av) = (if W.contains i then some u else none) :: none :: mkL W (i + 2) av → (i + j, f v) ∈ (i, f w) :: lv_args (if w.category = 2 then i + 2 else i + 1) (av.map f) ∧ (v.category = 2 → i + j ∈ W) ∧ v ∈ w :: av := by
      intro u hu hw hm
      rw [hm] at h
      rw [hw, if_pos hu]
      match j, h with
      | 0, h =>
        simp only [List.getElem?_cons_zero, Option.some.injEq] at h
        split at h
        · rename_i hc
          cases h
          exact ⟨by simp, fun _ => by simpa using hc, List.mem_cons_self⟩
        · cases h
      | 1, h => simp at h
      | j + 2, h =>
        simp only [List.getElem?_cons_succ] at h
        obtain ⟨q1, q2, q3⟩ := am_mk_get hf av (i + 2) j v h
        rw [show i + 2 + j = i + (j + 2) by omega] at q1 q2
        exact ⟨List.mem_cons_of_mem _ q1, q2, List.mem_cons_of_mem _ q3⟩
    have thin : w.category ≠ 2 → mkL W i (w :: av) = some w :: mkL W (i + 1) av → (i + j, f v) ∈ (i, f w) :: lv_args (if w.category = 2 then i + 2 else i + 1) (av.map f) ∧ (v.category = 2 → i + j ∈ W) ∧ v ∈ w :: av := by
      intro hw hm
      rw [hm] at h
      rw [if_neg hw]
      match j, h with
      | 0, h =>
        simp only [List.getElem?_cons_zero, Option.some.injEq] at h
        subst h
        exact ⟨by simp, fun q => absurd q hw, List.mem_cons_self⟩
      | j + 1, h =>
        simp only [List.getElem?_cons_succ] at h
        obtain ⟨q1, q2, q3⟩ := am_mk_get hf av (i + 1) j v h
        rw [show i + 1 + j = i + (j + 1) by omega] at q1 q2
        exact ⟨List.mem_cons_of_mem _ q1, q2, List.mem_cons_of_mem _ q3⟩
    cases w with
    | long x => exact wide _ rfl rfl rfl
    | double x => exact wide _ rfl rfl rfl
    | int x => exact thin (by show ¬ 1 = 2; decide) rfl
    | float x => exact thin (by show ¬ 1 = 2; decide) rfl
    | null => exact thin (by show ¬ 1 = 2; decide) rfl
    | ref x => exact thin (by show ¬ 1 = 2; decide) rfl
    | retAddr x => exact thin (by show ¬ 1 = 2; decide) rfl
theorem am_pad_get {n : Nat} {L : ALs} {j : Nat} {v : Value} (h : (padL n L)[j]? = some (some v)) : L[j]? = some (some v) := by
  unfold padL at h
  by_cases e : j < L.length
  · rwa [List.getElem?_append_left e] at h
  · rw [List.getElem?_append_right (by omega), List.getElem?_replicate] at h
    split at h <;> simp at h
/-- a method's locals at its entry -/
theorem am_entry {W : List Nat} {f : Value → Value} (hf : ∀ v, (f v).category = v.category) {av : List Value} {n : Nat} (hn : (mkL W 0 av).length ≤ n) : am_LR W f (padL n (mkL W 0 av)) ((lg_sl (av.map f) ++ List.replicate (n - (lg_sl (av.map f)).length) Slot.unset).toArray) n := by
  have h1 := lv_entry (av.map f) (n := n) (by rw [am_mk_len hf]; exact hn)
  refine ⟨h1.1, h1.2.1, fun i v hi => ?_, fun i v hi h2 => ?_⟩
  · obtain ⟨q1, -, -⟩ := am_mk_get hf _ _ _ _ (am_pad_get hi)
    rw [Nat.zero_add] at q1
    exact h1.2.2 _ q1
  · obtain ⟨-, q2, -⟩ := am_mk_get hf _ _ _ _ (am_pad_get hi)
    rw [Nat.zero_add] at q2
    exact q2 h2
theorem am_entry_V {W : List Nat} {av : List Value} {n m : Nat} (h : am_VS m av) : am_VL m (padL n (mkL W 0 av)) := by
  intro i v hi
  obtain ⟨-, -, q3⟩ := am_mk_get (f := id) (fun _ => rfl) _ _ _ _ (am_pad_get hi)
  exact h v q3
def am_Body (f : Nat) : Prop := ∀ (l : Launch) (D : va_G) (dA : Nat → ClassId) (ad : Nat → Nat) (zz : Value) (bs Ln : Nat) (xs : Nat → Int32) (d k : Nat) (p : Program) (e : Env) (R : Room) (s : State) (m : MethodId) (args : Array Value) (below : List Frame) (meth : Method) (c : Code) (as0 : List Nat) (c0 s0 : Nat) (Q : State → Prop) (pc : Nat) (Lo : ALs) (st : List Value) (h : AH) (o : AO) (h' : AH),
  am_Cx l D dA ad zz bs Ln xs d k p R s m args meth c → am_Ends D dA ad zz bs Ln xs d k p l e R s m args below meth c as0 c0 s0 Q o h' → nc h' ≤ R.cells + c0 → ns h' ≤ R.slots + s0 → exec f d k pc Lo st h = some (o, h') →
  am_Sim D dA ad zz bs Ln xs k p l e R s m args below meth c as0 c0 s0 Q pc Lo st h
section MET
variable {l : Launch} {D : va_G} {dA : Nat → ClassId} {ad : Nat → Nat} {zz : Value} {bs Ln : Nat} {xs : Nat → Int32} {d k : Nat} {p : Program} {e : Env} {R : Room} {s : State} {m : MethodId} {args : Array Value} {below : List Frame} {meth : Method} {c : Code} {as0 : List Nat} {c0 s0 : Nat} {Q : State → Prop} {pc : Nat} {Lo : ALs} {st : List Value} {h h' : AH}
variable {as : List Nat} {H : Heap} {locs : List Loc} {ls : Array Slot} {cells slots : Nat} {rest : List Value}
theorem am_nar_ok {t : Nat} {x : Int32} (h : am_nar t x = some x) : (t = 1 ∧ narrow .int (.int x) = .int x) ∨ (t = 5 ∧ narrow .boolean (.int x) = .int x) ∨ (t = 6 ∧ narrow .char (.int x) = .int x) ∨ (t = 7 ∧ narrow .byte (.int x) = .int x) := by
  unfold am_nar at h
  split at h
  · rename_i e1
    exact Or.inl ⟨e1, rfl⟩
  · split at h
    · rename_i e1
      split at h
      · rename_i e2
        refine Or.inr (Or.inl ⟨e1, ?_⟩)
        rcases e2 with rfl | rfl <;> decide
      · cases h
    · split at h
      · rename_i e1
        split at h
        · rename_i e2
          refine Or.inr (Or.inr (Or.inl ⟨e1, ?_⟩))
          have := pk_nc x
          rwa [e2] at this
        · cases h
      · split at h
        · rename_i e1
          split at h
          · rename_i e2
            refine Or.inr (Or.inr (Or.inr ⟨e1, ?_⟩))
            have := pk_nb x
            rwa [e2] at this
          · cases h
        · cases h
set_option maxHeartbeats 1000000 in
theorem am_ends_met {o : AO} (hrt : am_rtok k = true) (hnl : (mY k).name ≠ "law") (C : am_Cx l D dA ad zz bs Ln xs d k p R s m args meth c) (hcr : nc h' ≤ R.cells + c0) (hsr : ns h' ≤ R.slots + s0) :
    am_Ends D dA ad zz bs Ln xs d k p l e R s m args below meth c as0 c0 s0 (vx_MQ below (am_Qc D dA ad zz bs Ln xs as0 h' o) (am_XC D dA ad bs Ln xs as0 h' o) args s (nc h' - c0) (ns h' - s0) (am_A bs)) o h' := by
  have C9 := C
  obtain ⟨hx, hb, hml, hr, hlk, hown, htr, hnm, hHH, ⟨hfr, hlo⟩, hKV, hK, hCF, ⟨hbs, hLn⟩, hzz, hinj, hadb, hU1, hU2⟩ := C
  unfold am_rtok at hrt
  refine ⟨?_, ?_, ?_⟩
  · intro pc ls H locs as i st v hd hR ho hX hW hS hVS hc hs
    refine vx_ret ?_
    have hq : ∀ t : State, t.heap = H → ∀ v9, v = v9 → (∀ w, v9 = some w → am_V (nx h') w) → am_Qc D dA ad zz bs Ln xs as0 h' o args s (.returned (v9.map (am_cv ad zz as))) t := fun t ht v9 hv9 hvv => ⟨v9, as, by rw [← hv9]; exact ho, rfl, hX, by rw [ht]; exact hW, hS.F ht, hvv⟩
    rcases hR with ⟨rfl, x, rfl, rfl, hn⟩ | ⟨rfl, x, rfl, rfl, hm⟩ | ⟨rfl, x, rfl, rfl, hm⟩ | ⟨rfl, x, rfl, rfl, hx9, hm⟩ | ⟨rfl, rfl, rfl, hm⟩
    · have hq9 : ∀ t : State, t.heap = H → s.WarmedH t.vm → am_Qc D dA ad zz bs Ln xs as0 h' o args s (.returned (some (.int x))) t := fun t ht _ => hq t ht (some (.int x)) rfl (fun w hw => by cases hw; trivial)
      rcases am_nar_ok hn with ⟨e1, hn9⟩ | ⟨e1, hn9⟩ | ⟨e1, hn9⟩ | ⟨e1, hn9⟩ <;> rw [e1] at hrt <;> have hrt := of_decide_eq_true hrt <;> rw [hrt] at hr
      · exact W.zret hx hb hr hn9 hq9 hS.2.2 hd
      · exact W.zret hx hb hr hn9 hq9 hS.2.2 hd
      · exact W.zret hx hb hr hn9 hq9 hS.2.2 hd
      · exact W.zret hx hb hr hn9 hq9 hS.2.2 hd
    · rw [hm] at hrt
      have hrt := of_decide_eq_true hrt
      rw [hrt] at hr
      exact W.lret hx hb hr (fun t ht _ => hq t ht (some (.long x)) rfl (fun w hw => by cases hw; trivial)) hS.2.2 hd
    · rw [hm] at hrt
      have hrt := of_decide_eq_true hrt
      rw [hrt] at hr
      exact W.dret hx hb hr (fun t ht _ => hq t ht (some (.double x)) rfl (fun w hw => by cases hw; trivial)) hS.2.2 hd hlk
    · rw [hm] at hrt
      have hrt2 : ∃ rt, mRT k = some rt ∧ ((∃ n, rt = .object n) ∨ ∃ t, rt = .array t) := by
        have hrt : (match mRT k with | some (.object _) => true | some (.array _) => true | _ => false) = true := hrt
        split at hrt
        · rename_i n e1
          exact ⟨_, e1, Or.inl ⟨n, rfl⟩⟩
        · rename_i n e1
          exact ⟨_, e1, Or.inr ⟨n, rfl⟩⟩
        · cases hrt
      obtain ⟨rt, e1, e2⟩ := hrt2
      rw [e1] at hr
      have hv9 : am_cv ad zz as x = .null ∨ ∃ a, am_cv ad zz as x = .ref a := by
        rcases hx9 with rfl | ⟨a, rfl⟩
        · exact Or.inl rfl
        · exact Or.inr ⟨_, rfl⟩
      exact W.aret (v := am_cv ad zz as x) hx hb hr e2 hv9 (fun t ht _ => hq t ht (some x) rfl (fun w hw => by cases hw; exact hVS.hd)) hS.2.2 hd
    · rw [hm] at hrt
      have hrt := of_decide_eq_true hrt
      rw [hrt] at hr
      exact W.vret hx hb hr (fun t ht _ => hq t ht none rfl (fun w hw => by cases hw)) hS.2.2 hd
  · intro pc ix E ls H locs as st h1 hd ht ho hh hd10 hr9 hX hW hS hls hc hs
    subst ho; subst hh
    have e1 : nc (bump h1 1 6) = nc h1 + 1 := rfl
    have e2 : ns (bump h1 1 6) = ns h1 + 6 := rfl
    exact am_throw (a0 := #[]) C9 hd ht hd10 hr9 hX hW hS hls (by omega) (by omega) (by omega) (by omega)
  · intro pc E ls H locs as rest q ce hmt ho hX hW hS hce hcv hcl hc hs
    exact vx_out (E := exNm E) (fun x hx9 => by rw [hHH.resolve_left hnl, hmt] at hx9; cases hx9) hlk hce hcv hcl (fun t ht _ => ⟨E, as, ho, rfl, hX, by rw [ht]; exact hW, hS.F ht⟩) hS.2.2 (Nat.le_refl _) (Nat.le_refl _)
theorem am_rt_of {y kc : Nat} {w : Nat × Nat × Nat × Nat} (h : (y, kc, w) ∈ kT) : am_rtok y = true := List.all_eq_true.mp am_rtck _ h
theorem am_k_at2 {c i y n kc : Nat} {rk : Nat × Nat} (h : cR c i = some (y, n, kc, rk)) (hk : kc < 8) : ∃ w, am_kok y kc w = true ∧ (y, kc, w) ∈ kT := by
  have h1 := List.all_eq_true.mp am_kin _ (am_lookup h)
  rw [Bool.or_eq_true, decide_eq_true_eq] at h1
  rcases h1 with h1 | h1
  · dsimp only at h1
    omega
  · obtain ⟨q, hq, h2⟩ := List.any_eq_true.mp h1
    rw [Bool.and_eq_true, decide_eq_true_eq, decide_eq_true_eq] at h2
    obtain ⟨q1, q2, q3⟩ := q
    obtain ⟨rfl, rfl⟩ := h2
    exact ⟨q3, List.all_eq_true.mp am_kck _ hq, hq⟩
set_option maxHeartbeats 2000000 in
theorem am_met_of {f y n9 i9 c9 kc : Nat} {rk : Nat × Nat} {av : List Value} {o : AO} (hB : am_Body f) (hm : cR c9 i9 = some (y, n9, kc, rk)) (hkc : kc < 8) (hhy : kc = 7 ↔ ¬ (mH y).isEmpty = true) (htr : l.stackTraces = false) (hzz : zz = .null ∨ ∃ a, zz = .ref a) (hinj : ∀ i j, i < 49 → j < 49 → ad i = ad j → i = j) (hadb : ∀ n, n < am_NC → ad n < bs) (hLn : Ln < 2 ^ 31) (hVS : am_VS (nx h) av)
    (hgo : aGo (exec f) (d + 1) y av h = some (o, h')) : am_Met l D dA ad zz bs Ln xs d y av as h o h' := by
  obtain ⟨w, hok2, hmem⟩ := am_k_at2 hm hkc
  have hrt := am_rt_of hmem
  unfold am_kok at hok2
  simp only [Bool.and_eq_true, decide_eq_true_eq] at hok2
  obtain ⟨⟨⟨⟨⟨⟨hmh, hcls⟩, hml9⟩, hwi⟩, hwc⟩, hws⟩, -⟩ := hok2
  unfold am_mhd at hmh
  simp only [Bool.and_eq_true, decide_eq_true_eq] at hmh
  obtain ⟨⟨⟨m1, m2⟩, m3⟩, m4⟩ := hmh
  have hgo' : (mkL (mW y) 0 av).length ≤ mL y ∧ exec f d y 0 (padL (mL y) (mkL (mW y) 0 av)) [] h = some (o, h') := by
    unfold aGo at hgo
    dsimp only at hgo
    split at hgo
    · rename_i hc
      exact ⟨hc, hgo⟩
    · cases hgo
  obtain ⟨hlen, hex⟩ := hgo'
  have hmono := am_mono_exec f _ _ _ _ _ _ _ _ hex
  have body : ∀ p e s m args below meth c s₁, BodyLoose p l (mY y) (headSpec (am_Wy y) (am_rm d (nc h' - nc h) (ns h' - ns h))) (mB y) (mL y) (mRT y) e s m args below meth c s₁ → c.maxLocals = mL y → c.exceptionTable.toList = tableOf (mH y) → am_Pc D dA ad zz bs Ln xs as h av args s →
      W p l e (am_rm d (nc h' - nc h) (ns h' - ns h)) s m args below meth c s.heap [] 0 0 (vx_MQ below (am_Qc D dA ad zz bs Ln xs as h' o) (am_XC D dA ad bs Ln xs as h' o) args s (nc h' - nc h) (ns h' - ns h) (am_A bs)) (entryFrame m args (mL y)) := by
    intro p e s m args below meth c s₁ B hml hHH hP
    obtain ⟨rfl, q1, q2, q3, q4, q5, q6, q7⟩ := hP
    have hC : am_Cx l D dA ad zz bs Ln xs d y p (am_rm d (nc h' - nc h) (ns h' - ns h)) s m (av.map (am_cv ad zz as)).toArray meth c :=
      ⟨B.exec, B.bytes, hml, B.returns, B.notSynchronized, by rw [← hcls]; exact findClass_of_methodNamed B.named, htr, fun q => by rw [(name_of_methodNamed B.named B.method).1]; exact q, Or.inr hHH, ⟨Nat.le_refl _, Nat.le_refl _⟩, q1, q2, q3, ⟨q4, hLn⟩, hzz, hinj, hadb, q6, q7⟩
    have hE := am_ends_met (e := e) (below := below) (as0 := as) (c0 := nc h) (s0 := ns h) (o := o) (h' := h') hrt m4 hC (by show nc h' ≤ (nc h' - nc h) + nc h; omega) (by show ns h' ≤ (ns h' - ns h) + ns h; omega)
    have hSim := hB l D dA ad zz bs Ln xs d y p e _ s m _ below meth c as (nc h) (ns h) _ 0 _ [] h o h' hC hE (by show nc h' ≤ (nc h' - nc h) + nc h; omega) (by show ns h' ≤ (ns h' - ns h) + ns h; omega) hex
    have hent := am_entry (W := mW y) (f := am_cv ad zz as) (am_cat (am_zcat hzz)) hlen
    rw [lg_entry_eq]
    have := hSim as s.heap [] _ ⟨[], by simp⟩ q5 va_S.rf hent (am_entry_V hVS) (fun v hv => by cases hv) (Nat.le_refl _) (Nat.le_refl _)
    rw [Nat.sub_self, Nat.sub_self] at this
    exact this
  unfold am_Met
  by_cases hk7 : kc = 7
  · have hne := hhy.mp hk7
    rw [if_pos hk7] at hwc
    have hWy : am_Wy y = am_cwH y :: am_GW := by rw [am_Wy_cons, if_neg hne]
    refine vx_ofWH (cc := mB y) (maxL := mL y) (ret := mRT y) (hh := mH y) m3 hWy (fun p e s m args below meth c s₁ B hml hP => body p e s m args below meth c s₁ B hml ?_ hP)
    have hpre := atoms_spec (ws := am_Wy y) B.pre
    exact vx_table (x := mY y) B (hpre (am_cwH y) (by rw [hWy]; exact List.mem_cons_self))
  · have hem : (mH y).isEmpty = true := by
      rcases Classical.em ((mH y).isEmpty = true) with q | q
      · exact q
      · exact absurd (hhy.mpr q) hk7
    rw [if_neg hk7] at hwc
    have hWy : am_Wy y = am_cw y :: am_GW := by rw [am_Wy_cons, if_pos hem]
    refine vx_ofW (cc := mB y) (maxL := mL y) (ret := mRT y) m3 hWy (fun p e s m args below meth c s₁ B hml hex9 hP => body p e s m args below meth c s₁ B hml ?_ hP)
    have h1 : mH y = [] := by simpa using hem
    rw [h1]
    show _ = ([] : List ExceptionTableEntry)
    cases e : c.exceptionTable.toList with
    | nil => rfl
    | cons x t => exact (hex9 x (by rw [e]; exact List.mem_cons_self)).elim
end MET
end
section
/-! THE ABSTRACT MACHINE IS THE MACHINE'S. -/
/-- a call that the abstract machine makes -/
def am_CI (k pc : Nat) (st : List Value) (h : AH) (y : Nat) (av rest : List Value) : Prop := ∃ (ix na kc : Nat) (rk : Nat × Nat), cR (mC k) ix = some (y, na, kc, rk) ∧ rest.length ≤ 4 ∧
  (((kc = 0 ∨ kc = 1 ∨ kc = 7) ∧ decode (mB k) pc = .ok (.invokestatic ix, 3) ∧ av.length = na ∧ st = av.reverse ++ rest) ∨
   (∃ (b : Nat) (av' : List Value), av = .ref b :: av' ∧ (kc = 2 ∨ kc = 3 ∨ kc = 4 ∨ kc = 5) ∧ decode (mB k) pc = .ok (if kc = 3 ∨ kc = 4 then .invokespecial ix else .invokevirtual ix, 3) ∧ av'.length = na ∧ st = av'.reverse ++ .ref b :: rest ∧ kd h b = rk))
def am_Good (D : va_G) (dA : Nat → ClassId) (ad : Nat → Nat) (zz : Value) (bs Ln : Nat) (xs : Nat → Int32) (d k : Nat) (p : Program) (l : Launch) (e : Env) (R : Room) (s : State) (m : MethodId) (args : Array Value) (below : List Frame) (meth : Method) (c : Code) (as0 : List Nat) (c0 s0 : Nat) (Q : State → Prop) (pc : Nat) (Lo : ALs) (st : List Value) (h : AH) : ACt → Prop
  | .inl (pc', L', st', h1) => nc h1 ≤ R.cells + c0 → ns h1 ≤ R.slots + s0 → am_Sim D dA ad zz bs Ln xs k p l e R s m args below meth c as0 c0 s0 Q pc' L' st' h1 → am_Sim D dA ad zz bs Ln xs k p l e R s m args below meth c as0 c0 s0 Q pc Lo st h
  | .inr (.inl (y, av, n, L', rest, h1)) => n = 3 ∧ L' = Lo ∧ h1 = h ∧ am_CI k pc st h y av rest
  | .inr (.inr (some (o, h1))) => nc h1 ≤ R.cells + c0 → ns h1 ≤ R.slots + s0 → am_Ends D dA ad zz bs Ln xs d k p l e R s m args below meth c as0 c0 s0 Q o h1 → am_Sim D dA ad zz bs Ln xs k p l e R s m args below meth c as0 c0 s0 Q pc Lo st h
  | .inr (.inr none) => True
theorem am_nar_eq {t : Nat} {x w : Int32} (h : am_nar t x = some w) : w = x := by
  unfold am_nar at h
  (repeat' split at h) <;> first | (cases h; done) | (cases h; rfl)
section BODY
variable {l : Launch} {D : va_G} {dA : Nat → ClassId} {ad : Nat → Nat} {zz : Value} {bs Ln : Nat} {xs : Nat → Int32} {d k : Nat} {p : Program} {e : Env} {R : Room} {s : State} {m : MethodId} {args : Array Value} {below : List Frame} {meth : Method} {c : Code} {as0 : List Nat} {c0 s0 : Nat} {Q : State → Prop} {pc : Nat} {Lo : ALs} {st : List Value} {h h' : AH}
theorem am_rd_V {a j t : Nat} (hV : am_VH h) : am_V (nx h) (am_rd h a j t) := by
  unfold am_rd
  split
  · exact trivial
  · split
    · exact trivial
    · cases e9 : rv h a j with
      | none => exact trivial
      | some b => exact hV.2.1 a j b e9
theorem am_rf_V {a j : Nat} (hV : am_VH h) : am_V (nx h) (va_rf (rv h a j)) := by
  cases e9 : rv h a j with
  | none => exact trivial
  | some b => exact hV.2.1 a j b e9
theorem sm_getf {ix j t a : Nat} {kk : Nat × Nat} (C : am_Cx l D dA ad zz bs Ln xs d k p R s m args meth c) (hd : decode (mB k) pc = .ok (.getfield ix, 3)) (hf : fR (mC k) ix = some (kk, j, t)) (hk : kd h a = kk) (K : am_Sim D dA ad zz bs Ln xs k p l e R s m args below meth c as0 c0 s0 Q (pc + 3) Lo (am_rd h a j t :: st) h) : am_Sim D dA ad zz bs Ln xs k p l e R s m args below meth c as0 c0 s0 Q pc Lo (.ref a :: st) h := by
  intro as H locs ls hX hW hS hL hVL hVS hc hs
  exact am_getf C hd hf hk hW hS hVS.hd (K as H locs ls hX hW hS hL hVL (am_VS.cons (am_rd_V hW.2.2.2.1) hVS.tl) hc hs)
theorem sm_putI {ix j a k2 : Nat} {x : Int32} (C : am_Cx l D dA ad zz bs Ln xs d k p R s m args meth c) (hd : decode (mB k) pc = .ok (.putfield ix, 3)) (hf : fR (mC k) ix = some ((0, k2), j, 1)) (hk : kd h a = (0, k2)) (hpf : pfOK k k2 j = true) (K : am_Sim D dA ad zz bs Ln xs k p l e R s m args below meth c as0 c0 s0 Q (pc + 3) Lo st (setI h a j x)) : am_Sim D dA ad zz bs Ln xs k p l e R s m args below meth c as0 c0 s0 Q pc Lo (.int x :: .ref a :: st) h := by
  intro as H locs ls hX hW hS hL hVL hVS hc hs
  exact am_putf (v := .int x) (h' := setI h a j x) C hd hf hk hpf hW hS hVS.tl.hd (Or.inl ⟨rfl, _, rfl⟩) (fun _ => rfl) (fun n i hn => by show u2 _ _ _ _ n i = _; unfold u2; rw [if_neg (fun q => hn.elim (fun z => z q.1) (fun z => z q.2))]; rfl) (fun _ _ _ => rfl) (fun _ _ _ => rfl) (by show Value.int (u2 _ a j x a j) = _; rw [u2_eq]) rfl (am_VH_I hW.2.2.2.1) (fun H1 locs1 q1 q2 => K as H1 locs1 ls hX q1 q2 hL hVL hVS.tl.tl hc hs)
theorem sm_putJ {ix j a k2 : Nat} {x : Int64} (C : am_Cx l D dA ad zz bs Ln xs d k p R s m args meth c) (hd : decode (mB k) pc = .ok (.putfield ix, 3)) (hf : fR (mC k) ix = some ((0, k2), j, 2)) (hk : kd h a = (0, k2)) (hpf : pfOK k k2 j = true) (K : am_Sim D dA ad zz bs Ln xs k p l e R s m args below meth c as0 c0 s0 Q (pc + 3) Lo st (setJ h a j x)) : am_Sim D dA ad zz bs Ln xs k p l e R s m args below meth c as0 c0 s0 Q pc Lo (.long x :: .ref a :: st) h := by
  intro as H locs ls hX hW hS hL hVL hVS hc hs
  exact am_putf (v := .long x) (h' := setJ h a j x) C hd hf hk hpf hW hS hVS.tl.hd (Or.inr (Or.inl ⟨rfl, _, rfl⟩)) (fun _ => rfl) (fun _ _ _ => rfl) (fun n i hn => by show u2 _ _ _ _ n i = _; unfold u2; rw [if_neg (fun q => hn.elim (fun z => z q.1) (fun z => z q.2))]; rfl) (fun _ _ _ => rfl) (by show Value.long (u2 _ a j x a j) = _; rw [u2_eq]) rfl (am_VH_J hW.2.2.2.1) (fun H1 locs1 q1 q2 => K as H1 locs1 ls hX q1 q2 hL hVL hVS.tl.tl hc hs)
theorem sm_putR {ix j a k2 : Nat} {x : Nat} (C : am_Cx l D dA ad zz bs Ln xs d k p R s m args meth c) (hd : decode (mB k) pc = .ok (.putfield ix, 3)) (hf : fR (mC k) ix = some ((0, k2), j, 4)) (hk : kd h a = (0, k2)) (hpf : pfOK k k2 j = true) (K : am_Sim D dA ad zz bs Ln xs k p l e R s m args below meth c as0 c0 s0 Q (pc + 3) Lo st (setR h a j (some x))) : am_Sim D dA ad zz bs Ln xs k p l e R s m args below meth c as0 c0 s0 Q pc Lo (.ref x :: .ref a :: st) h := by
  intro as H locs ls hX hW hS hL hVL hVS hc hs
  exact am_putf (v := .ref x) (h' := setR h a j (some x)) C hd hf hk hpf hW hS hVS.tl.hd (Or.inr (Or.inr ⟨rfl, _, rfl⟩)) (fun _ => rfl) (fun _ _ _ => rfl) (fun _ _ _ => rfl) (fun n i hn => by show u2 _ _ _ _ n i = _; unfold u2; rw [if_neg (fun q => hn.elim (fun z => z q.1) (fun z => z q.2))]; rfl) (by show va_rf (u2 _ a j (some x) a j) = _; rw [u2_eq]; rfl) rfl (am_VH_R hW.2.2.2.1 hVS.hd) (fun H1 locs1 q1 q2 => K as H1 locs1 ls hX q1 q2 hL hVL hVS.tl.tl hc hs)
theorem sm_iald {a : Nat} {i : Int32} (C : am_Cx l D dA ad zz bs Ln xs d k p R s m args meth c) (hd : decode (mB k) pc = .ok (.iaload, 1)) (hk : (kd h a).1 = 1 ∨ (kd h a).1 = 12) (hi : inR i (kd h a).2 = true) (K : am_Sim D dA ad zz bs Ln xs k p l e R s m args below meth c as0 c0 s0 Q (pc + 1) Lo (.int (iv h a i.toNatClampNeg) :: st) h) : am_Sim D dA ad zz bs Ln xs k p l e R s m args below meth c as0 c0 s0 Q pc Lo (.int i :: .ref a :: st) h := by
  intro as H locs ls hX hW hS hL hVL hVS hc hs
  exact am_iald C hd hk hi hW hS hVS.tl.hd (K as H locs ls hX hW hS hL hVL (am_VS.cons trivial hVS.tl.tl) hc hs)
theorem sm_bald {a : Nat} {i : Int32} (C : am_Cx l D dA ad zz bs Ln xs d k p R s m args meth c) (hd : decode (mB k) pc = .ok (.baload, 1)) (hk : (kd h a).1 = 3 ∨ (kd h a).1 = 13) (hi : inR i (kd h a).2 = true) (K : am_Sim D dA ad zz bs Ln xs k p l e R s m args below meth c as0 c0 s0 Q (pc + 1) Lo (.int (iv h a i.toNatClampNeg) :: st) h) : am_Sim D dA ad zz bs Ln xs k p l e R s m args below meth c as0 c0 s0 Q pc Lo (.int i :: .ref a :: st) h := by
  intro as H locs ls hX hW hS hL hVL hVS hc hs
  exact am_bald C hd hk hi hW hS hVS.tl.hd (K as H locs ls hX hW hS hL hVL (am_VS.cons trivial hVS.tl.tl) hc hs)
theorem sm_lald {a : Nat} {i : Int32} (C : am_Cx l D dA ad zz bs Ln xs d k p R s m args meth c) (hd : decode (mB k) pc = .ok (.laload, 1)) (hk : (kd h a).1 = 2) (hi : inR i (kd h a).2 = true) (K : am_Sim D dA ad zz bs Ln xs k p l e R s m args below meth c as0 c0 s0 Q (pc + 1) Lo (.long (jv h a i.toNatClampNeg) :: st) h) : am_Sim D dA ad zz bs Ln xs k p l e R s m args below meth c as0 c0 s0 Q pc Lo (.int i :: .ref a :: st) h := by
  intro as H locs ls hX hW hS hL hVL hVS hc hs
  exact am_lald C hd hk hi hW hS hVS.tl.hd (K as H locs ls hX hW hS hL hVL (am_VS.cons trivial hVS.tl.tl) hc hs)
theorem sm_aald {a : Nat} {i : Int32} (C : am_Cx l D dA ad zz bs Ln xs d k p R s m args meth c) (hd : decode (mB k) pc = .ok (.aaload, 1)) (hk : (4 ≤ (kd h a).1 ∧ (kd h a).1 ≤ 6) ∨ (kd h a).1 = 14 ∨ (kd h a).1 = 15) (hi : inR i (kd h a).2 = true) (K : am_Sim D dA ad zz bs Ln xs k p l e R s m args below meth c as0 c0 s0 Q (pc + 1) Lo (va_rf (rv h a i.toNatClampNeg) :: st) h) : am_Sim D dA ad zz bs Ln xs k p l e R s m args below meth c as0 c0 s0 Q pc Lo (.int i :: .ref a :: st) h := by
  intro as H locs ls hX hW hS hL hVL hVS hc hs
  exact am_aald C hd hk hi hW hS hVS.tl.hd (K as H locs ls hX hW hS hL hVL (am_VS.cons (am_rf_V hW.2.2.2.1) hVS.tl.tl) hc hs)
theorem sm_alen {a : Nat} (C : am_Cx l D dA ad zz bs Ln xs d k p R s m args meth c) (hd : decode (mB k) pc = .ok (.arraylength, 1)) (hk : (1 ≤ (kd h a).1 ∧ (kd h a).1 ≤ 6) ∨ (12 ≤ (kd h a).1 ∧ (kd h a).1 ≤ 15)) (K : am_Sim D dA ad zz bs Ln xs k p l e R s m args below meth c as0 c0 s0 Q (pc + 1) Lo (.int (nI (kd h a).2) :: st) h) : am_Sim D dA ad zz bs Ln xs k p l e R s m args below meth c as0 c0 s0 Q pc Lo (.ref a :: st) h := by
  intro as H locs ls hX hW hS hL hVL hVS hc hs
  exact am_alen C hd hk hW hS hVS.hd (K as H locs ls hX hW hS hL hVL (am_VS.cons trivial hVS.tl) hc hs)
theorem sm_iast {a : Nat} {i : Int32} {x : Int32} (C : am_Cx l D dA ad zz bs Ln xs d k p R s m args meth c) (hd : decode (mB k) pc = .ok (.iastore, 1)) (hk : (kd h a).1 = 1) (hi : inR i (kd h a).2 = true) (K : am_Sim D dA ad zz bs Ln xs k p l e R s m args below meth c as0 c0 s0 Q (pc + 1) Lo st (setI h a i.toNatClampNeg x)) : am_Sim D dA ad zz bs Ln xs k p l e R s m args below meth c as0 c0 s0 Q pc Lo (.int x :: .int i :: .ref a :: st) h := by
  intro as H locs ls hX hW hS hL hVL hVS hc hs
  exact am_iast C hd hk hi hW hS hVS.tl.tl.hd (fun H1 locs1 q1 q2 => K as H1 locs1 ls hX q1 q2 hL hVL hVS.tl.tl.tl hc hs)
theorem sm_bast {a : Nat} {i : Int32} {x : Int32} (C : am_Cx l D dA ad zz bs Ln xs d k p R s m args meth c) (hd : decode (mB k) pc = .ok (.bastore, 1)) (hk : (kd h a).1 = 3) (hi : inR i (kd h a).2 = true) (K : am_Sim D dA ad zz bs Ln xs k p l e R s m args below meth c as0 c0 s0 Q (pc + 1) Lo st (setI h a i.toNatClampNeg x.toInt8.toInt32)) : am_Sim D dA ad zz bs Ln xs k p l e R s m args below meth c as0 c0 s0 Q pc Lo (.int x :: .int i :: .ref a :: st) h := by
  intro as H locs ls hX hW hS hL hVL hVS hc hs
  exact am_bast C hd hk hi hW hS hVS.tl.tl.hd (fun H1 locs1 q1 q2 => K as H1 locs1 ls hX q1 q2 hL hVL hVS.tl.tl.tl hc hs)
theorem sm_last {a : Nat} {i : Int32} {x : Int64} (C : am_Cx l D dA ad zz bs Ln xs d k p R s m args meth c) (hd : decode (mB k) pc = .ok (.lastore, 1)) (hk : (kd h a).1 = 2) (hi : inR i (kd h a).2 = true) (K : am_Sim D dA ad zz bs Ln xs k p l e R s m args below meth c as0 c0 s0 Q (pc + 1) Lo st (setJ h a i.toNatClampNeg x)) : am_Sim D dA ad zz bs Ln xs k p l e R s m args below meth c as0 c0 s0 Q pc Lo (.long x :: .int i :: .ref a :: st) h := by
  intro as H locs ls hX hW hS hL hVL hVS hc hs
  exact am_last C hd hk hi hW hS hVS.tl.tl.hd (fun H1 locs1 q1 q2 => K as H1 locs1 ls hX q1 q2 hL hVL hVS.tl.tl.tl hc hs)
theorem sm_aast {a x : Nat} {i : Int32} (C : am_Cx l D dA ad zz bs Ln xs d k p R s m args meth c) (hd : decode (mB k) pc = .ok (.aastore, 1)) (hk : ((kd h a).1 = 4 ∧ kd h x = (10, 0)) ∨ ((kd h a).1 = 5 ∧ kd h x = (0, 4)) ∨ ((kd h a).1 = 6 ∧ kd h x = (0, 2))) (hi : inR i (kd h a).2 = true) (K : am_Sim D dA ad zz bs Ln xs k p l e R s m args below meth c as0 c0 s0 Q (pc + 1) Lo st (setR h a i.toNatClampNeg (some x))) : am_Sim D dA ad zz bs Ln xs k p l e R s m args below meth c as0 c0 s0 Q pc Lo (.ref x :: .int i :: .ref a :: st) h := by
  intro as H locs ls hX hW hS hL hVL hVS hc hs
  exact am_aast C hd hk hi hW hS hVS.tl.tl.hd hVS.hd (fun H1 locs1 q1 q2 => K as H1 locs1 ls hX q1 q2 hL hVL hVS.tl.tl.tl hc hs)
theorem am_take {n : Nat} {l9 : List Value} (h : n ≤ l9.length) : ((l9.take n).reverse).length = n ∧ l9 = ((l9.take n).reverse).reverse ++ l9.drop n := by
  rw [List.length_reverse, List.length_take, List.reverse_reverse, List.take_append_drop]
  exact ⟨Nat.min_eq_left h, rfl⟩
theorem am_drop {n : Nat} {l9 rest : List Value} {v : Value} (h : l9.drop n = v :: rest) : ((l9.take n).reverse).length = n ∧ l9 = ((l9.take n).reverse).reverse ++ v :: rest := by
  have h1 : n ≤ l9.length := by
    rcases Nat.lt_or_ge l9.length n with q | q
    · rw [List.drop_eq_nil_of_le (by omega)] at h
      cases h
    · exact q
  obtain ⟨q1, q2⟩ := am_take h1
  rw [h] at q2
  exact ⟨q1, q2⟩
set_option maxHeartbeats 1000000 in
theorem gd_inv0 {ix : Nat} {mm : Nat × Nat × Nat × (Nat × Nat)} (C : am_Cx l D dA ad zz bs Ln xs d k p R s m args meth c) (hd : decode (mB k) pc = .ok (.invokestatic ix, 3)) (hm : cR (mC k) ix = some mm) : am_Good D dA ad zz bs Ln xs d k p l e R s m args below meth c as0 c0 s0 Q pc Lo st h (aInv 0 d pc 3 Lo st h mm) := by
  obtain ⟨y, na, kc, rk⟩ := mm
  unfold aInv
  dsimp only
  split
  · exact trivial
  · rename_i hik
    split
    · rename_i hkc
      split
      · rename_i hc
        obtain ⟨q1, q2⟩ := am_take hc.1
        exact ⟨rfl, rfl, rfl, ix, na, kc, rk, hm, hc.2, Or.inl ⟨hkc, hd, q1, q2⟩⟩
      · exact trivial
    · split
      · rename_i hkc
        split
        · rename_i b rest hb9
          split
          · rename_i hc
            obtain ⟨q1, q2⟩ := am_drop hb9
            rcases hkc with rfl | rfl | rfl | rfl
            · exact absurd rfl hik
            · exact absurd rfl hik
            · exact absurd rfl hik
            · exact absurd rfl hik
          · exact trivial
        · exact trivial
      · split
        · rename_i hkc
          subst hkc
          split
          · split
            · rename_i hc
              obtain ⟨c1, c2, c3, c4, c5, c6, c7, c8⟩ := hc
              exact fun _ _ K => sm_copy C (by omega) hd hm c8 c1 c2 c3 c4 c5 c6 c7 K
            · exact trivial
          · exact trivial
        · split
          · rename_i hkc
            subst hkc
            split
            · split
              · rename_i hc
                exact absurd rfl hik
              · exact trivial
            · exact trivial
          · split
            · rename_i hkc
              split
              · split
                · rename_i hc
                  rcases hkc with rfl | rfl
                  · exact fun q1 q2 K => sm_max C (by omega) hd hm hc q1 q2 K
                  · exact fun q1 q2 K => sm_min C (by omega) hd hm hc q1 q2 K
                · exact trivial
              · exact trivial
            · exact trivial

set_option maxHeartbeats 1000000 in
theorem gd_inv1 {ix : Nat} {mm : Nat × Nat × Nat × (Nat × Nat)} (C : am_Cx l D dA ad zz bs Ln xs d k p R s m args meth c) (hd : decode (mB k) pc = .ok (.invokevirtual ix, 3)) (hm : cR (mC k) ix = some mm) : am_Good D dA ad zz bs Ln xs d k p l e R s m args below meth c as0 c0 s0 Q pc Lo st h (aInv 1 d pc 3 Lo st h mm) := by
  obtain ⟨y, na, kc, rk⟩ := mm
  unfold aInv
  dsimp only
  split
  · exact trivial
  · rename_i hik
    split
    · rename_i hkc
      split
      · rename_i hc
        obtain ⟨q1, q2⟩ := am_take hc.1
        rcases hkc with rfl | rfl | rfl <;> exact absurd rfl hik
      · exact trivial
    · split
      · rename_i hkc
        split
        · rename_i b rest hb9
          split
          · rename_i hc
            obtain ⟨q1, q2⟩ := am_drop hb9
            rcases hkc with rfl | rfl | rfl | rfl
            · exact ⟨rfl, rfl, rfl, ix, na, _, rk, hm, hc.2, Or.inr ⟨b, _, rfl, by simp, hd, q1, q2, hc.1⟩⟩
            · exact absurd rfl hik
            · exact absurd rfl hik
            · exact ⟨rfl, rfl, rfl, ix, na, _, rk, hm, hc.2, Or.inr ⟨b, _, rfl, by simp, hd, q1, q2, hc.1⟩⟩
          · exact trivial
        · exact trivial
      · split
        · rename_i hkc
          subst hkc
          split
          · split
            · rename_i hc
              obtain ⟨c1, c2, c3, c4, c5, c6, c7, c8⟩ := hc
              exact absurd rfl hik
            · exact trivial
          · exact trivial
        · split
          · rename_i hkc
            subst hkc
            split
            · split
              · rename_i hc
                exact absurd rfl hik
              · exact trivial
            · exact trivial
          · split
            · rename_i hkc
              split
              · split
                · rename_i hc
                  rcases hkc with rfl | rfl
                  · exact absurd rfl hik
                  · exact absurd rfl hik
                · exact trivial
              · exact trivial
            · exact trivial

set_option maxHeartbeats 1000000 in
theorem gd_inv2 {ix : Nat} {mm : Nat × Nat × Nat × (Nat × Nat)} (C : am_Cx l D dA ad zz bs Ln xs d k p R s m args meth c) (hd : decode (mB k) pc = .ok (.invokespecial ix, 3)) (hm : cR (mC k) ix = some mm) : am_Good D dA ad zz bs Ln xs d k p l e R s m args below meth c as0 c0 s0 Q pc Lo st h (aInv 2 d pc 3 Lo st h mm) := by
  obtain ⟨y, na, kc, rk⟩ := mm
  unfold aInv
  dsimp only
  split
  · exact trivial
  · rename_i hik
    split
    · rename_i hkc
      split
      · rename_i hc
        obtain ⟨q1, q2⟩ := am_take hc.1
        rcases hkc with rfl | rfl | rfl <;> exact absurd rfl hik
      · exact trivial
    · split
      · rename_i hkc
        split
        · rename_i b rest hb9
          split
          · rename_i hc
            obtain ⟨q1, q2⟩ := am_drop hb9
            rcases hkc with rfl | rfl | rfl | rfl
            · exact absurd rfl hik
            · exact ⟨rfl, rfl, rfl, ix, na, _, rk, hm, hc.2, Or.inr ⟨b, _, rfl, by simp, hd, q1, q2, hc.1⟩⟩
            · exact ⟨rfl, rfl, rfl, ix, na, _, rk, hm, hc.2, Or.inr ⟨b, _, rfl, by simp, hd, q1, q2, hc.1⟩⟩
            · exact absurd rfl hik
          · exact trivial
        · exact trivial
      · split
        · rename_i hkc
          subst hkc
          split
          · split
            · rename_i hc
              obtain ⟨c1, c2, c3, c4, c5, c6, c7, c8⟩ := hc
              exact absurd rfl hik
            · exact trivial
          · exact trivial
        · split
          · rename_i hkc
            subst hkc
            split
            · split
              · rename_i hc
                exact fun _ _ K => sm_objinit C (by omega) hd hm hc K
              · exact trivial
            · exact trivial
          · split
            · rename_i hkc
              split
              · split
                · rename_i hc
                  rcases hkc with rfl | rfl
                  · exact absurd rfl hik
                  · exact absurd rfl hik
                · exact trivial
              · exact trivial
            · exact trivial

set_option maxHeartbeats 4000000 in
set_option maxRecDepth 100000 in
theorem am_one_good (C : am_Cx l D dA ad zz bs Ln xs d k p R s m args meth c) : am_Good D dA ad zz bs Ln xs d k p l e R s m args below meth c as0 c0 s0 Q pc Lo st h (aOne d k pc Lo st h) := by
  unfold aOne
  split
  · rename_i i n hd
    split
    · rename_i hil
      cases i with
      | aconst_null => 
        have hn : n = 1 := eq_of_beq hil
        subst hn
        dsimp only
        exact fun _ _ K => sm_null C hd K
      | iconst z => 
        have hn : n = 1 := eq_of_beq hil
        subst hn
        dsimp only
        exact fun _ _ K => sm_iconst C hd K
      | bipush z => 
        have hn : n = 2 := eq_of_beq hil
        subst hn
        dsimp only
        exact fun _ _ K => sm_bipush C hd K
      | sipush z => 
        have hn : n = 3 := eq_of_beq hil
        subst hn
        dsimp only
        exact fun _ _ K => sm_sipush C hd K
      | lconst z => 
        have hn : n = 1 := eq_of_beq hil
        subst hn
        dsimp only
        exact fun _ _ K => sm_lconst C hd K
      | dconst z => 
        have hn : n = 1 := eq_of_beq hil
        subst hn
        dsimp only
        split
        · rename_i hz
          subst hz
          exact fun _ _ K => sm_dconst0 C hd K
        · exact trivial
      | ldc ix => 
        have hn : n = 2 := eq_of_beq hil
        subst hn
        dsimp only
        split
        · rename_i v hv
          exact fun _ _ K => sm_ldcS C hd hv K
        · exact trivial
      | ldc2_w ix => 
        have hn : n = 3 := eq_of_beq hil
        subst hn
        dsimp only
        split
        · rename_i v hv
          exact fun _ _ K => sm_ldc2 C hd hv K
        · exact trivial
      | iload_n j => 
        have hn : n = 1 := eq_of_beq hil
        subst hn
        dsimp only
        split
        · rename_i x hl
          exact fun _ _ K => sm_iload_n C hd hl K
        · exact trivial
      | iload j => 
        have hn : n = 2 := eq_of_beq hil
        subst hn
        dsimp only
        split
        · rename_i x hl
          exact fun _ _ K => sm_iload C hd hl K
        · exact trivial
      | lload_n j => 
        have hn : n = 1 := eq_of_beq hil
        subst hn
        dsimp only
        split
        · rename_i x hl
          exact fun _ _ K => sm_lload_n C hd hl K
        · exact trivial
      | lload j => 
        have hn : n = 2 := eq_of_beq hil
        subst hn
        dsimp only
        split
        · rename_i x hl
          exact fun _ _ K => sm_lload C hd hl K
        · exact trivial
      | dload j => 
        have hn : n = 2 := eq_of_beq hil
        subst hn
        dsimp only
        split
        · rename_i x hl
          exact fun _ _ K => sm_dload C hd hl K
        · exact trivial
      | aload_n j => 
        have hn : n = 1 := eq_of_beq hil
        subst hn
        dsimp only
        split
        · rename_i v hl
          split
          · rename_i hv
            exact fun _ _ K => sm_aload_n C hd hl hv K
          · exact trivial
        · exact trivial
      | aload j => 
        have hn : n = 2 := eq_of_beq hil
        subst hn
        dsimp only
        split
        · rename_i v hl
          split
          · rename_i hv
            exact fun _ _ K => sm_aload C hd hl hv K
          · exact trivial
        · exact trivial
      | istore_n j => 
        have hn : n = 1 := eq_of_beq hil
        subst hn
        dsimp only
        split
        · rename_i x st1
          split
          · rename_i hj
            exact fun _ _ K => sm_istore_n C hd hj K
          · exact trivial
        · exact trivial
      | istore j => 
        have hn : n = 2 := eq_of_beq hil
        subst hn
        dsimp only
        split
        · rename_i x st1
          split
          · rename_i hj
            exact fun _ _ K => sm_istore C hd hj K
          · exact trivial
        · exact trivial
      | lstore_n j => 
        have hn : n = 1 := eq_of_beq hil
        subst hn
        dsimp only
        split
        · rename_i x st1
          split
          · rename_i hj
            exact fun _ _ K => sm_lstore_n C hd hj.1 hj.2 K
          · exact trivial
        · exact trivial
      | lstore j => 
        have hn : n = 2 := eq_of_beq hil
        subst hn
        dsimp only
        split
        · rename_i x st1
          split
          · rename_i hj
            exact fun _ _ K => sm_lstore C hd hj.1 hj.2 K
          · exact trivial
        · exact trivial
      | dstore j => 
        have hn : n = 2 := eq_of_beq hil
        subst hn
        dsimp only
        split
        · rename_i x st1
          split
          · rename_i hj
            exact fun _ _ K => sm_dstore C hd hj.1 hj.2 K
          · exact trivial
        · exact trivial
      | astore_n j => 
        have hn : n = 1 := eq_of_beq hil
        subst hn
        dsimp only
        split
        · rename_i v st1
          split
          · rename_i hj
            exact fun _ _ K => sm_astore_n C hd hj.1 hj.2 K
          · exact trivial
        · exact trivial
      | astore j => 
        have hn : n = 2 := eq_of_beq hil
        subst hn
        dsimp only
        split
        · rename_i v st1
          split
          · rename_i hj
            exact fun _ _ K => sm_astore C hd hj.1 hj.2 K
          · exact trivial
        · exact trivial
      | iinc j z => 
        have hn : n = 3 := eq_of_beq hil
        subst hn
        dsimp only
        split
        · rename_i x hl
          split
          · rename_i hj
            exact fun _ _ K => sm_iinc C hd hl hj K
          · exact trivial
        · exact trivial
      | dup => 
        have hn : n = 1 := eq_of_beq hil
        subst hn
        dsimp only
        split
        · exact fun _ _ K => sm_dupi C hd K
        · exact fun _ _ K => sm_dupr C hd K
        · exact trivial
      | pop => 
        have hn : n = 1 := eq_of_beq hil
        subst hn
        dsimp only
        split
        · exact fun _ _ K => sm_popi C hd K
        · exact fun _ _ K => sm_popr C hd K
        · exact trivial
      | iadd => 
        have hn : n = 1 := eq_of_beq hil
        subst hn
        dsimp only
        split
        · exact fun _ _ K => sm_iadd C hd K
        · exact trivial
      | isub => 
        have hn : n = 1 := eq_of_beq hil
        subst hn
        dsimp only
        split
        · exact fun _ _ K => sm_isub C hd K
        · exact trivial
      | imul => 
        have hn : n = 1 := eq_of_beq hil
        subst hn
        dsimp only
        split
        · exact fun _ _ K => sm_imul C hd K
        · exact trivial
      | iand => 
        have hn : n = 1 := eq_of_beq hil
        subst hn
        dsimp only
        split
        · exact fun _ _ K => sm_iand C hd K
        · exact trivial
      | ior => 
        have hn : n = 1 := eq_of_beq hil
        subst hn
        dsimp only
        split
        · exact fun _ _ K => sm_ior C hd K
        · exact trivial
      | ineg => 
        have hn : n = 1 := eq_of_beq hil
        subst hn
        dsimp only
        split
        · exact fun _ _ K => sm_ineg C hd K
        · exact trivial
      | ishr => 
        have hn : n = 1 := eq_of_beq hil
        subst hn
        dsimp only
        split
        · exact fun _ _ K => sm_ishr C hd K
        · exact trivial
      | iushr => 
        have hn : n = 1 := eq_of_beq hil
        subst hn
        dsimp only
        split
        · exact fun _ _ K => sm_iushr C hd K
        · exact trivial
      | ladd => 
        have hn : n = 1 := eq_of_beq hil
        subst hn
        dsimp only
        split
        · exact fun _ _ K => sm_ladd C hd K
        · exact trivial
      | lmul => 
        have hn : n = 1 := eq_of_beq hil
        subst hn
        dsimp only
        split
        · exact fun _ _ K => sm_lmul C hd K
        · exact trivial
      | lcmp => 
        have hn : n = 1 := eq_of_beq hil
        subst hn
        dsimp only
        split
        · exact fun _ _ K => sm_lcmp C hd K
        · exact trivial
      | i2l => 
        have hn : n = 1 := eq_of_beq hil
        subst hn
        dsimp only
        split
        · exact fun _ _ K => sm_i2l C hd K
        · exact trivial
      | l2i => 
        have hn : n = 1 := eq_of_beq hil
        subst hn
        dsimp only
        split
        · exact fun _ _ K => sm_l2i C hd K
        · exact trivial
      | i2b => 
        have hn : n = 1 := eq_of_beq hil
        subst hn
        dsimp only
        split
        · exact fun _ _ K => sm_i2b C hd K
        · exact trivial
      | i2c => 
        have hn : n = 1 := eq_of_beq hil
        subst hn
        dsimp only
        split
        · exact fun _ _ K => sm_i2c C hd K
        · exact trivial
      | i2d => 
        have hn : n = 1 := eq_of_beq hil
        subst hn
        dsimp only
        split
        · exact fun _ _ K => sm_i2d C hd K
        · exact trivial
      | idiv => 
        have hn : n = 1 := eq_of_beq hil
        subst hn
        dsimp only
        split
        · split
          · exact trivial
          · rename_i hy
            exact fun _ _ K => sm_idiv C hd hy K
        · exact trivial
      | irem => 
        have hn : n = 1 := eq_of_beq hil
        subst hn
        dsimp only
        split
        · split
          · exact trivial
          · rename_i hy
            exact fun _ _ K => sm_irem C hd hy K
        · exact trivial
      | ddiv => 
        have hn : n = 1 := eq_of_beq hil
        subst hn
        dsimp only
        split
        · split
          · rename_i hy
            exact fun _ _ K => sm_ddiv C hd hy K
          · exact trivial
        · exact trivial
      | dcmp op => 
        have hn : n = 1 := eq_of_beq hil
        subst hn
        dsimp only
        split
        · exact fun _ _ K => sm_dcmp C hd K
        · exact trivial
      | goto off => 
        have hn : n = 3 := eq_of_beq hil
        subst hn
        dsimp only
        split
        · rename_i t ht
          exact fun _ _ K => sm_goto C hd ht K
        · exact trivial
      | ifCond cnd off => 
        have hn : n = 3 := eq_of_beq hil
        subst hn
        dsimp only
        split
        · cases cnd with
          | eq =>
            dsimp only
            unfold aIf
            split
            · rename_i t ht
              split
              · rename_i hq
                exact fun _ _ K => sm_if_eq C hd ht (fun _ => K) (fun z => absurd hq z)
              · rename_i hq
                exact fun _ _ K => sm_if_eq C hd ht (fun z => absurd z hq) (fun _ => K)
            · exact trivial
          | ne =>
            dsimp only
            unfold aIf
            split
            · rename_i t ht
              split
              · rename_i hq
                exact fun _ _ K => sm_if_ne C hd ht (fun _ => K) (fun z => absurd hq z)
              · rename_i hq
                exact fun _ _ K => sm_if_ne C hd ht (fun z => absurd z hq) (fun _ => K)
            · exact trivial
          | lt =>
            dsimp only
            unfold aIf
            split
            · rename_i t ht
              split
              · rename_i hq
                exact fun _ _ K => sm_if_lt C hd ht (fun _ => K) (fun z => absurd hq z)
              · rename_i hq
                exact fun _ _ K => sm_if_lt C hd ht (fun z => absurd z hq) (fun _ => K)
            · exact trivial
          | ge =>
            dsimp only
            unfold aIf
            split
            · rename_i t ht
              split
              · rename_i hq
                exact fun _ _ K => sm_if_ge C hd ht (fun _ => K) (fun z => absurd hq z)
              · rename_i hq
                exact fun _ _ K => sm_if_ge C hd ht (fun z => absurd z hq) (fun _ => K)
            · exact trivial
          | gt =>
            dsimp only
            unfold aIf
            split
            · rename_i t ht
              split
              · rename_i hq
                exact fun _ _ K => sm_if_gt C hd ht (fun _ => K) (fun z => absurd hq z)
              · rename_i hq
                exact fun _ _ K => sm_if_gt C hd ht (fun z => absurd z hq) (fun _ => K)
            · exact trivial
          | le =>
            dsimp only
            unfold aIf
            split
            · rename_i t ht
              split
              · rename_i hq
                exact fun _ _ K => sm_if_le C hd ht (fun _ => K) (fun z => absurd hq z)
              · rename_i hq
                exact fun _ _ K => sm_if_le C hd ht (fun z => absurd z hq) (fun _ => K)
            · exact trivial
        · exact trivial
      | if_icmp cnd off => 
        have hn : n = 3 := eq_of_beq hil
        subst hn
        dsimp only
        split
        · cases cnd with
          | eq =>
            dsimp only
            unfold aIf
            split
            · rename_i t ht
              split
              · rename_i hq
                exact fun _ _ K => sm_icmp_eq C hd ht (fun _ => K) (fun z => absurd hq z)
              · rename_i hq
                exact fun _ _ K => sm_icmp_eq C hd ht (fun z => absurd z hq) (fun _ => K)
            · exact trivial
          | ne =>
            dsimp only
            unfold aIf
            split
            · rename_i t ht
              split
              · rename_i hq
                exact fun _ _ K => sm_icmp_ne C hd ht (fun _ => K) (fun z => absurd hq z)
              · rename_i hq
                exact fun _ _ K => sm_icmp_ne C hd ht (fun z => absurd z hq) (fun _ => K)
            · exact trivial
          | lt =>
            dsimp only
            unfold aIf
            split
            · rename_i t ht
              split
              · rename_i hq
                exact fun _ _ K => sm_icmp_lt C hd ht (fun _ => K) (fun z => absurd hq z)
              · rename_i hq
                exact fun _ _ K => sm_icmp_lt C hd ht (fun z => absurd z hq) (fun _ => K)
            · exact trivial
          | ge =>
            dsimp only
            unfold aIf
            split
            · rename_i t ht
              split
              · rename_i hq
                exact fun _ _ K => sm_icmp_ge C hd ht (fun _ => K) (fun z => absurd hq z)
              · rename_i hq
                exact fun _ _ K => sm_icmp_ge C hd ht (fun z => absurd z hq) (fun _ => K)
            · exact trivial
          | gt =>
            dsimp only
            unfold aIf
            split
            · rename_i t ht
              split
              · rename_i hq
                exact fun _ _ K => sm_icmp_gt C hd ht (fun _ => K) (fun z => absurd hq z)
              · rename_i hq
                exact fun _ _ K => sm_icmp_gt C hd ht (fun z => absurd z hq) (fun _ => K)
            · exact trivial
          | le =>
            dsimp only
            unfold aIf
            split
            · rename_i t ht
              split
              · rename_i hq
                exact fun _ _ K => sm_icmp_le C hd ht (fun _ => K) (fun z => absurd hq z)
              · rename_i hq
                exact fun _ _ K => sm_icmp_le C hd ht (fun z => absurd z hq) (fun _ => K)
            · exact trivial
        · exact trivial
      | if_acmp cnd off => 
        have hn : n = 3 := eq_of_beq hil
        subst hn
        dsimp only
        split
        · rename_i y x st1
          split
          · rename_i hxy
            cases cnd with
            | eq =>
              dsimp only
              unfold aIf
              split
              · rename_i t ht
                split
                · rename_i hq
                  exact fun _ _ K => sm_acmp_eq C hd hxy ht (fun _ => K) (fun z => absurd hq z)
                · rename_i hq
                  exact fun _ _ K => sm_acmp_eq C hd hxy ht (fun z => absurd z hq) (fun _ => K)
              · exact trivial
            | ne =>
              dsimp only
              unfold aIf
              split
              · rename_i t ht
                split
                · rename_i hq
                  exact fun _ _ K => sm_acmp_ne C hd hxy ht (fun _ => K) (fun z => absurd z hq)
                · rename_i hq
                  exact fun _ _ K => sm_acmp_ne C hd hxy ht (fun z => absurd z hq) (fun _ => K)
              · exact trivial
          · exact trivial
        · exact trivial
      | ifnull off => 
        have hn : n = 3 := eq_of_beq hil
        subst hn
        dsimp only
        split
        · exact fun _ _ K => sm_ifnullR C hd K
        · split
          · rename_i t ht
            exact fun _ _ K => sm_ifnullN (a := 0) C hd ht K
          · exact trivial
        · exact trivial
      | ifnonnull off => 
        have hn : n = 3 := eq_of_beq hil
        subst hn
        dsimp only
        split
        · exact fun _ _ K => sm_ifnonnullN (a := 0) C hd K
        · split
          · rename_i t ht
            exact fun _ _ K => sm_ifnonnullR C hd ht K
          · exact trivial
        · exact trivial
      | tableswitch df lo hi offs => 
        dsimp only
        split
        · split
          · rename_i hq
            split
            · rename_i t ht
              exact fun _ _ K => sm_tableOut C hd hq ht K
            · exact trivial
          · rename_i hq
            split
            · rename_i off ho
              split
              · rename_i t ht
                exact fun _ _ K => sm_tableIn C hd hq ho ht K
              · exact trivial
            · exact trivial
        · exact trivial
      | getfield ix => 
        have hn : n = 3 := eq_of_beq hil
        subst hn
        dsimp only
        split
        · rename_i kk j t a st1 hf
          split
          · rename_i hk
            split
            · rename_i ht
              subst ht
              exact fun _ _ K => sm_getf C hd hf hk K
            · split
              · rename_i ht
                subst ht
                exact fun _ _ K => sm_getf C hd hf hk K
              · split
                · rename_i ht
                  subst ht
                  exact fun _ _ K => sm_getf C hd hf hk K
                · exact trivial
          · exact trivial
        · exact trivial
      | putfield ix => 
        have hn : n = 3 := eq_of_beq hil
        subst hn
        dsimp only
        split
        · rename_i kk j t v a st1 hf
          split
          · rename_i hk
            obtain ⟨hk1, hk2, hpf⟩ := hk
            obtain ⟨kk1, kk2⟩ := kk
            dsimp only at hk2
            subst hk2
            split
            · split
              · rename_i ht
                subst ht
                exact fun _ _ K => sm_putI C hd hf hk1 hpf K
              · exact trivial
            · split
              · rename_i ht
                subst ht
                exact fun _ _ K => sm_putJ C hd hf hk1 hpf K
              · exact trivial
            · split
              · rename_i ht
                subst ht
                exact fun _ _ K => sm_putR C hd hf hk1 hpf K
              · exact trivial
            · exact trivial
          · exact trivial
        · exact trivial
      | getstatic ix => 
        have hn : n = 3 := eq_of_beq hil
        subst hn
        dsimp only
        split
        · rename_i v hv
          exact fun _ _ K => sm_getstatic C hd hv K
        · exact trivial
      | arraylength => 
        have hn : n = 1 := eq_of_beq hil
        subst hn
        dsimp only
        split
        · split
          · rename_i hk
            exact fun _ _ K => sm_alen C hd hk K
          · exact trivial
        · exact trivial
      | iaload => 
        have hn : n = 1 := eq_of_beq hil
        subst hn
        dsimp only
        split
        · split
          · rename_i hk
            exact fun _ _ K => sm_iald C hd hk.1 hk.2 K
          · exact trivial
        · exact trivial
      | baload => 
        have hn : n = 1 := eq_of_beq hil
        subst hn
        dsimp only
        split
        · split
          · rename_i hk
            exact fun _ _ K => sm_bald C hd hk.1 hk.2 K
          · exact trivial
        · exact trivial
      | laload => 
        have hn : n = 1 := eq_of_beq hil
        subst hn
        dsimp only
        split
        · split
          · rename_i hk
            exact fun _ _ K => sm_lald C hd hk.1 hk.2 K
          · exact trivial
        · exact trivial
      | aaload => 
        have hn : n = 1 := eq_of_beq hil
        subst hn
        dsimp only
        split
        · split
          · rename_i hk
            exact fun _ _ K => sm_aald C hd hk.1 hk.2 K
          · exact trivial
        · exact trivial
      | iastore => 
        have hn : n = 1 := eq_of_beq hil
        subst hn
        dsimp only
        split
        · split
          · rename_i hk
            exact fun _ _ K => sm_iast C hd hk.1 hk.2 K
          · exact trivial
        · exact trivial
      | bastore => 
        have hn : n = 1 := eq_of_beq hil
        subst hn
        dsimp only
        split
        · split
          · rename_i hk
            exact fun _ _ K => sm_bast C hd hk.1 hk.2 K
          · exact trivial
        · exact trivial
      | lastore => 
        have hn : n = 1 := eq_of_beq hil
        subst hn
        dsimp only
        split
        · split
          · rename_i hk
            exact fun _ _ K => sm_last C hd hk.1 hk.2 K
          · exact trivial
        · exact trivial
      | aastore => 
        have hn : n = 1 := eq_of_beq hil
        subst hn
        dsimp only
        split
        · split
          · rename_i hk
            exact fun _ _ K => sm_aast C hd hk.2 hk.1 K
          · exact trivial
        · exact trivial
      | newarray t => 
        have hn : n = 2 := eq_of_beq hil
        subst hn
        dsimp only
        cases t with
        | int =>
          dsimp only
          unfold aNewA
          split
          · split
            · rename_i hz
              exact fun q1 q2 K => sm_newarray (Or.inl ⟨rfl, rfl⟩) C hd hz.1 hz.2 q1 q2 K
            · exact trivial
          · exact trivial
        | long =>
          dsimp only
          unfold aNewA
          split
          · split
            · rename_i hz
              exact fun q1 q2 K => sm_newarray (Or.inr (Or.inl ⟨rfl, rfl⟩)) C hd hz.1 hz.2 q1 q2 K
            · exact trivial
          · exact trivial
        | byte =>
          dsimp only
          unfold aNewA
          split
          · split
            · rename_i hz
              exact fun q1 q2 K => sm_newarray (Or.inr (Or.inr ⟨rfl, rfl⟩)) C hd hz.1 hz.2 q1 q2 K
            · exact trivial
          · exact trivial
        | _ => exact trivial
      | anewarray ix => 
        have hn : n = 3 := eq_of_beq hil
        subst hn
        dsimp only
        split
        · rename_i t ht
          unfold aNewA
          split
          · split
            · rename_i hz
              exact fun q1 q2 K => sm_anewarray C hd ht hz.1 hz.2 q1 q2 K
            · exact trivial
          · exact trivial
        · exact trivial
      | new ix => 
        have hn : n = 3 := eq_of_beq hil
        subst hn
        dsimp only
        split
        · rename_i E ht
          split
          · rename_i hq
            exact fun _ _ hE => fun as H locs ls hX hW hS hL hVL hVS hc hs => hE.2.1 pc ix E ls H locs as st h hd ht rfl rfl hq.1 hq.2 hX hW hS hL.1 hc hs
          · exact trivial
        · split
          · rename_i ci N hn
            exact fun q1 q2 K => sm_new C hd hn q1 q2 K
          · exact trivial
      | invokestatic ix => 
        have hn : n = 3 := eq_of_beq hil
        subst hn
        dsimp only
        split
        · rename_i mm hm
          exact gd_inv0 C hd hm
        · exact trivial
      | invokevirtual ix => 
        have hn : n = 3 := eq_of_beq hil
        subst hn
        dsimp only
        split
        · rename_i mm hm
          exact gd_inv1 C hd hm
        · exact trivial
      | invokespecial ix => 
        have hn : n = 3 := eq_of_beq hil
        subst hn
        dsimp only
        split
        · rename_i mm hm
          exact gd_inv2 C hd hm
        · exact trivial
      | ireturn => 
        have hn : n = 1 := eq_of_beq hil
        subst hn
        dsimp only
        split
        · split
          · rename_i w hw
            have hw2 := am_nar_eq hw
            subst hw2
            exact fun _ _ hE => fun as H locs ls hX hW hS hL hVL hVS hc hs => hE.1 pc ls H locs as _ _ _ hd (Or.inl ⟨rfl, _, rfl, rfl, hw⟩) rfl hX hW hS hVS hc hs
          · exact trivial
        · exact trivial
      | lreturn => 
        have hn : n = 1 := eq_of_beq hil
        subst hn
        dsimp only
        split
        · split
          · rename_i hr
            exact fun _ _ hE => fun as H locs ls hX hW hS hL hVL hVS hc hs => hE.1 pc ls H locs as _ _ _ hd (Or.inr (Or.inl ⟨rfl, _, rfl, rfl, hr⟩)) rfl hX hW hS hVS hc hs
          · exact trivial
        · exact trivial
      | dreturn => 
        have hn : n = 1 := eq_of_beq hil
        subst hn
        dsimp only
        split
        · split
          · rename_i hr
            exact fun _ _ hE => fun as H locs ls hX hW hS hL hVL hVS hc hs => hE.1 pc ls H locs as _ _ _ hd (Or.inr (Or.inr (Or.inl ⟨rfl, _, rfl, rfl, hr⟩))) rfl hX hW hS hVS hc hs
          · exact trivial
        · exact trivial
      | areturn => 
        have hn : n = 1 := eq_of_beq hil
        subst hn
        dsimp only
        split
        · split
          · rename_i hr
            exact fun _ _ hE => fun as H locs ls hX hW hS hL hVL hVS hc hs => hE.1 pc ls H locs as _ _ _ hd (Or.inr (Or.inr (Or.inr (Or.inl ⟨rfl, _, rfl, rfl, Or.inr ⟨_, rfl⟩, hr⟩)))) rfl hX hW hS hVS hc hs
          · exact trivial
        · split
          · rename_i hr
            exact fun _ _ hE => fun as H locs ls hX hW hS hL hVL hVS hc hs => hE.1 pc ls H locs as _ _ _ hd (Or.inr (Or.inr (Or.inr (Or.inl ⟨rfl, _, rfl, rfl, Or.inl rfl, hr⟩)))) rfl hX hW hS hVS hc hs
          · exact trivial
        · exact trivial
      | return_ => 
        have hn : n = 1 := eq_of_beq hil
        subst hn
        dsimp only
        split
        · split
          · rename_i hr
            exact fun _ _ hE => fun as H locs ls hX hW hS hL hVL hVS hc hs => hE.1 pc ls H locs as _ _ _ hd (Or.inr (Or.inr (Or.inr (Or.inr ⟨rfl, rfl, rfl, hr⟩)))) rfl hX hW hS hVS hc hs
          · exact trivial
        · exact trivial
      | _ => exact trivial
    · exact trivial
  · exact trivial
end BODY
end
section
/-! THE THEOREM: a run of the abstract machine is a run of the machine. -/
def am_hok (k : Nat) : Bool := decide (cNm (mC k) = "MarkShelterLaw" ∧ (mY k).name ≠ "law") && (match mH k with
  | [] => true
  | [x] => decide (x.2.2.2 = 13 ∨ x.2.2.2 = 19 ∨ x.2.2.2 = 24)
  | [x, y] => decide (x.2.2.2 = 24 ∧ y.2.2.2 = 13)
  | _ => false)
theorem am_hck : (List.range 280).all (fun k => (mH k).isEmpty || am_hok k) = true := by decide +kernel
theorem am_hge (k : Nat) (h : 280 ≤ k) : mH k = [] := by
  have h1 : 7 ≤ k / 40 := by omega
  obtain ⟨n, hn⟩ : ∃ n, k / 40 = n + 7 := ⟨k / 40 - 7, by omega⟩
  unfold mH mI
  rw [hn]
  rfl
theorem am_h_ok {k : Nat} (h : mH k ≠ []) : am_hok k = true := by
  rcases Nat.lt_or_ge k 280 with q | q
  · have h1 := am_all am_hck q
    rw [Bool.or_eq_true] at h1
    rcases h1 with h1 | h1
    · exact absurd (by simpa using h1) h
    · exact h1
  · exact absurd (am_hge k q) h
theorem am_hws : (decide (Cond.classLink "MarkShelterLaw" 13 "java/lang/IllegalStateException" ∈ lw_tbl) && decide (Cond.classLink "MarkShelterLaw" 19 "java/lang/IllegalArgumentException" ∈ lw_tbl) && decide (Cond.classLink "MarkShelterLaw" 24 "java/lang/IndexOutOfBoundsException" ∈ lw_tbl) &&
  decide (Cond.castable (exNm 0) (exNm 0) ∈ lw_tbl) && decide (Cond.castable (exNm 1) (exNm 1) ∈ lw_tbl) && decide (Cond.castable (exNm 2) (exNm 2) ∈ lw_tbl)) = true := by decide +kernel
def am_hcd (E : Nat) : Nat := [13, 19, 24].getD E 0
theorem am_hlink {args : Array Value} {s : State} {ad : Nat → Nat} (hKV : am_KV ad s) {E : Nat} (hE : E < 3) : (Cond.classLink "MarkShelterLaw" (am_hcd E) (exNm E)).before args s = true ∧ (Cond.castable (exNm E) (exNm E)).before args s = true := by
  have hw := am_hws
  simp only [Bool.and_eq_true, decide_eq_true_eq] at hw
  rcases (show E = 0 ∨ E = 1 ∨ E = 2 by omega) with rfl | rfl | rfl
  · exact ⟨am_ws_word hKV hw.1.1.1.1.1 rfl, am_ws_word hKV hw.1.1.2 rfl⟩
  · exact ⟨am_ws_word hKV hw.1.1.1.1.2 rfl, am_ws_word hKV hw.1.2 rfl⟩
  · exact ⟨am_ws_word hKV hw.1.1.1.2 rfl, am_ws_word hKV hw.2 rfl⟩
section THM
variable {l : Launch} {D : va_G} {dA : Nat → ClassId} {ad : Nat → Nat} {zz : Value} {bs Ln : Nat} {xs : Nat → Int32} {d k : Nat} {p : Program} {e : Env} {R : Room} {s : State} {m : MethodId} {args : Array Value} {below : List Frame} {meth : Method} {c : Code} {as0 : List Nat} {c0 s0 : Nat} {Q : State → Prop} {pc : Nat} {Lo : ALs} {st : List Value} {h h' : AH}
variable {as : List Nat} {H : Heap} {locs : List Loc} {ls : Array Slot} {cells slots : Nat} {rest : List Value}
/-- the entry that catches, and those ahead of it that don't -/
theorem am_find {k pc E : Nat} {x : Nat × Nat × Nat × Nat} (hmk : mH k ≠ []) (hx : (mH k).find? (fun x => decide (x.1 ≤ pc) && decide (pc < x.2.1) && x.2.2.2 == am_hcd E) = some x) :
    E < 3 ∧ x.1 ≤ pc ∧ pc < x.2.1 ∧ x.2.2.2 = am_hcd E ∧ ∃ pre suf, mH k = pre ++ x :: suf ∧ ∀ z ∈ pre, ¬ (z.1 ≤ pc ∧ pc < z.2.1) ∨ (E = 0 ∧ z.2.2.2 = 24) := by
  have hok := am_h_ok hmk
  unfold am_hok at hok
  rw [Bool.and_eq_true] at hok
  have hp := List.find?_some hx
  simp only [Bool.and_eq_true, decide_eq_true_eq, beq_iff_eq] at hp
  obtain ⟨⟨p1, p2⟩, p3⟩ := hp
  have hE : (x.2.2.2 = 13 ∨ x.2.2.2 = 19 ∨ x.2.2.2 = 24) → E < 3 := by
    intro q
    rcases Nat.lt_or_ge E 3 with w | w
    · exact w
    · have : am_hcd E = 0 := by unfold am_hcd; rw [List.getD_eq_getElem?_getD, List.getElem?_eq_none (by simpa using w)]; rfl
      omega
  obtain ⟨-, hok⟩ := hok
  generalize hm : mH k = hs at hok hx hmk
  match hs, hok, hx with
  | [], _, hx => cases hx
  | [a], hok, hx =>
    have hok := of_decide_eq_true hok
    rw [List.find?_cons] at hx
    split at hx
    · cases hx
      exact ⟨hE hok, p1, p2, p3, [], [], rfl, fun z hz => by cases hz⟩
    · cases hx
  | [a, b], hok, hx =>
    have hok := of_decide_eq_true hok
    rw [List.find?_cons] at hx
    split at hx
    · cases hx
      exact ⟨hE (Or.inr (Or.inr hok.1)), p1, p2, p3, [], [b], rfl, fun z hz => by cases hz⟩
    · rename_i hna
      rw [List.find?_cons] at hx
      split at hx
      · cases hx
        have hE3 := hE (Or.inl hok.2)
        refine ⟨hE3, p1, p2, p3, [a], [], rfl, fun z hz => ?_⟩
        rw [List.mem_singleton.mp hz]
        right
        refine ⟨?_, hok.1⟩
        rcases (show E = 0 ∨ E = 1 ∨ E = 2 by omega) with rfl | rfl | rfl
        · rfl
        · rw [hok.2] at p3; exact absurd p3 (by decide)
        · rw [hok.2] at p3; exact absurd p3 (by decide)
      · cases hx
  | a :: b :: c :: t, hok, _ => cases hok
set_option maxHeartbeats 1000000 in
theorem am_catch {E pt i : Nat} {q : Addr} {ce : Cell} (C : am_Cx l D dA ad zz bs Ln xs d k p R s m args meth c) (hmk : mH k ≠ []) (hh : hdl k pc E = some (pt, i)) (hX : ∃ t9, as = as0 ++ t9) (hW : am_WS D dA ad bs Ln xs as h H) (hS : va_S (am_A bs) s.heap H locs) (hL : am_LR (mW k) (am_cv ad zz as) Lo ls (mL k)) (hVL : am_VL (nx h) Lo) (hc : c0 ≤ nc h) (hs : s0 ≤ ns h)
    (hce : H[q]? = some ce) (hcv : ce.vm = .none) (hcl : s.vm.findClass (exNm E) = some ce.cls)
    (K : am_Sim D dA ad zz bs Ln xs k p l e R s m args below meth c as0 c0 s0 Q pt (st1 (mW k) Lo i none) [] h) : vx_W p l e R s m args below meth c H locs (nc h - c0) (ns h - s0) Q (F0 m pc ls rest) q := by
  have hok := am_h_ok hmk
  unfold am_hok at hok
  rw [Bool.and_eq_true, decide_eq_true_eq] at hok
  obtain ⟨hx, hb, hml, hr, hlk, hown, htr, hnm, hHH, ⟨hfr, hlo⟩, hKV, hK, hCF, ⟨hbs, hLn⟩, hzz, hinj, hadb, hU1, hU2⟩ := C
  rw [hok.1.1] at hown
  unfold hdl at hh
  split at hh
  · rename_i e0
    exact absurd e0 hmk
  · split at hh
    · rename_i y1 y2 hpc y4 hf
      obtain ⟨hE, f1, f2, f3, pre, suf, f4, f5⟩ := am_find (E := E) hmk hf
      dsimp only at f1 f2 f3
      obtain ⟨hl1, hl2⟩ := am_hlink (args := args) hKV hE
      have hsplit : c.exceptionTable.toList = tableOf pre ++ (⟨y1, y2, hpc, y4⟩ : ExceptionTableEntry) :: tableOf suf := by
        rw [hHH.resolve_left hok.1.2, f4]
        unfold tableOf
        rw [List.map_append, List.map_cons]
      have hgo : W p l e R s m args below meth c H locs (nc h - c0) (ns h - s0) Q (F0 m hpc ls [.ref q]) := by
        split at hh
        · rename_i j hd
          split at hh
          · rename_i hj
            cases hh
            exact lv_astore_n hx hb hd rfl hL.has hj rfl (fun ls1 h1 => K as H locs ls1 hX hW hS (am_st1 hL rfl (fun v hv => by cases hv) (am_cat (am_zcat hzz)) h1) (hVL.st1 (fun v hv => by cases hv)) (fun v hv => by cases hv) hc hs)
          · cases hh
        · rename_i j hd
          split at hh
          · rename_i hj
            cases hh
            exact lv_astore hx hb hd hL.has hj rfl (fun ls1 h1 => K as H locs ls1 hX hW hS (am_st1 hL rfl (fun v hv => by cases hv) (am_cat (am_zcat hzz)) h1) (hVL.st1 (fun v hv => by cases hv)) (fun v hv => by cases hv) hc hs)
          · cases hh
        · cases hh
      refine vx_catch (name := exNm E) (E := exNm E) hown (tableOf pre) _ (tableOf suf) hsplit (fun z hz => ?_) ?_ ?_ ?_ hl2 hce hcv hcl hgo
      · unfold tableOf at hz
        obtain ⟨z9, hz9, rfl⟩ := List.mem_map.mp hz
        rcases f5 z9 hz9 with g | ⟨g1, g2⟩
        · left
          simp only [covers, Bool.and_eq_false_iff, decide_eq_false_iff_not]
          rcases Classical.em (z9.1 ≤ pc) with w | w
          · right; exact fun q9 => g ⟨w, q9⟩
          · left; exact w
        · right
          subst g1
          refine ⟨by show z9.2.2.2 ≠ 0; omega, "java/lang/IndexOutOfBoundsException", ?_, hKV.2.2.2.2.2⟩
          have := (am_hlink (args := args) hKV (E := 2) (by decide)).1
          show (Cond.classLink "MarkShelterLaw" z9.2.2.2 "java/lang/IndexOutOfBoundsException").before args s = true
          rw [g2]
          exact this
      · simp only [covers, Bool.and_eq_true, decide_eq_true_eq]
        exact ⟨f1, f2⟩
      · show y4 ≠ 0
        rw [f3]
        rcases (show E = 0 ∨ E = 1 ∨ E = 2 by omega) with rfl | rfl | rfl <;> decide
      · show (Cond.classLink "MarkShelterLaw" y4 (exNm E)).before args s = true
        rw [f3]
        exact hl1
    · cases hh
theorem am_hh_of {c i y n kc : Nat} {rk : Nat × Nat} (h : cR c i = some (y, n, kc, rk)) (hk : kc < 8) : kc = 7 ↔ ¬ (mH y).isEmpty = true := by
  have h5 : ∀ q ∈ cT, q.2.2.2.1 = 5 → (mH q.2.1).isEmpty = true := by decide +kernel
  obtain ⟨w, hok⟩ := am_c_at h
  unfold am_cok at hok
  dsimp only at hok
  by_cases e5 : kc = 5
  · have := h5 _ (am_lookup h) e5
    constructor
    · intro q; omega
    · intro q; exact absurd this q
  · rw [if_neg (by omega), if_neg (by omega), if_neg (by omega), if_neg (by omega), if_neg e5] at hok
    simp only [Bool.and_eq_true] at hok
    obtain ⟨⟨⟨⟨-, hhy⟩, -⟩, -⟩, -⟩ := hok
    by_cases e7 : kc = 7
    · rw [if_pos e7] at hhy
      constructor
      · intro _ q
        rw [q] at hhy
        cases hhy
      · intro _; exact e7
    · rw [if_neg e7] at hhy
      constructor
      · intro q; exact absurd q e7
      · intro q; exact absurd hhy q
end THM
set_option maxHeartbeats 2000000 in
theorem am_body : ∀ f, am_Body f
  | 0 => fun l D dA ad zz bs Ln xs d k p e R s m args below meth c as0 c0 s0 Q pc Lo st h o h' hC hE hcr hsr hex => by cases hex
  | f + 1 => by
    have ih := am_body f
    intro l D dA ad zz bs Ln xs d k p e R s m args below meth c as0 c0 s0 Q pc Lo st h o h' hC hE hcr hsr hex
    have hg := am_one_good (e := e) (below := below) (as0 := as0) (c0 := c0) (s0 := s0) (Q := Q) (pc := pc) (Lo := Lo) (st := st) (h := h) hC
    have hex2 : aStep (exec f) d k pc Lo st h = some (o, h') := hex
    unfold aStep at hex2
    split at hex2
    · rename_i pc' L' st' h1 e1
      rw [e1] at hg
      have hm := am_mono_exec f _ _ _ _ _ _ _ _ hex2
      exact hg (Nat.le_trans hm.1 hcr) (Nat.le_trans hm.2 hsr) (ih l D dA ad zz bs Ln xs d k p e R s m args below meth c as0 c0 s0 Q pc' L' st' h1 o h' hC hE hcr hsr hex2)
    · rename_i y av n L' rest h1 e1
      rw [e1] at hg
      obtain ⟨rfl, rfl, rfl, ix, na, kc, rk, hcR, hr9, hcase⟩ := hg
      cases d with
      | zero =>
        have : aGo (exec f) 0 y av h1 = none := rfl
        rw [this] at hex2
        cases hex2
      | succ d =>
        have C9 := hC
        obtain ⟨hx, hb, hml, hr, hlk, hown, htr, hnm, hHH, ⟨hfr, hlo⟩, hKV, hK, hCF, ⟨hbs, hLn⟩, hzz, hinj, hadb, hU1, hU2⟩ := hC
        cases eg : aGo (exec f) (d + 1) y av h1 with
        | none => rw [eg] at hex2; cases hex2
        | some r =>
          obtain ⟨o1, h2⟩ := r
          rw [eg] at hex2
          have hkc8 : kc < 8 := by
            rcases hcase with ⟨q, -⟩ | ⟨b, av', -, q, -⟩
            · rcases q with rfl | rfl | rfl <;> decide
            · rcases q with rfl | rfl | rfl | rfl <;> decide
          have hm1 : nc h1 ≤ nc h2 ∧ ns h1 ≤ ns h2 := by
            unfold aGo at eg
            dsimp only at eg
            split at eg
            · exact am_mono_exec f _ _ _ _ _ _ _ _ eg
            · cases eg
          have hm2 : nc h2 ≤ nc h' ∧ ns h2 ≤ ns h' := by
            cases o1 with
            | inl v => exact am_mono_exec f _ _ _ _ _ _ _ _ hex2
            | inr E =>
              unfold aEnd at hex2
              dsimp only at hex2
              split at hex2
              · cases hex2; exact ⟨Nat.le_refl _, Nat.le_refl _⟩
              · split at hex2
                · exact am_mono_exec f _ _ _ _ _ _ _ _ hex2
                · cases hex2
          intro as H locs ls hX hW hS hL hVL hVS hc hs
          have hVSav : am_VS (nx h1) av ∧ am_VS (nx h1) rest := by
            rcases hcase with ⟨-, -, -, q⟩ | ⟨b, av', q0, -, -, -, q, -⟩
            · rw [q] at hVS
              exact ⟨fun v hv => hVS v (List.mem_append_left _ (List.mem_reverse.mpr hv)), fun v hv => hVS v (List.mem_append_right _ hv)⟩
            · rw [q] at hVS
              refine ⟨fun v hv => ?_, fun v hv => hVS v (List.mem_append_right _ (List.mem_cons_of_mem _ hv))⟩
              rw [q0] at hv
              rcases List.mem_cons.mp hv with rfl | hv
              · exact hVS _ (List.mem_append_right _ List.mem_cons_self)
              · exact hVS v (List.mem_append_left _ (List.mem_reverse.mpr hv))
          have hM := am_met_of (D := D) (dA := dA) (ad := ad) (zz := zz) (bs := bs) (Ln := Ln) (xs := xs) (as := as) (l := l) ih hcR hkc8 (am_hh_of hcR hkc8) htr hzz hinj hadb hLn hVSav.1 eg
          have hf : (nc h1 - c0) + (nc h2 - nc h1) ≤ R.cells ∧ (ns h1 - s0) + (ns h2 - ns h1) ≤ R.slots := by omega
          have hec : (nc h1 - c0) + (nc h2 - nc h1) = nc h2 - c0 := by omega
          have hes : (ns h1 - s0) + (ns h2 - ns h1) = ns h2 - s0 := by omega
          have hn9 : nx h1 ≤ am_NC + as.length := by rw [hW.1]; exact Nat.le_refl _
          have hnx : ∀ (as' : List Nat) (H1 : Heap), (∃ t9, as' = as ++ t9) → am_WS D dA ad bs Ln xs as' h2 H1 → nx h1 ≤ nx h2 := fun as' H1 ⟨t9, ht9⟩ hw => by
            rw [← hW.1, ← hw.1, ht9, List.length_append]
            omega
          have kr : ∀ (v : Option Value) (as' : List Nat) (H1 : Heap) (locs1 : List Loc), o1 = .inl v → (∃ t9, as' = as ++ t9) → am_WS D dA ad bs Ln xs as' h2 H1 → va_S (am_A bs) s.heap H1 locs1 → (∀ w, v = some w → am_V (nx h2) w) → W p l e R s m args below meth c H1 locs1 ((nc h1 - c0) + (nc h2 - nc h1)) ((ns h1 - s0) + (ns h2 - ns h1)) Q (F0 m (pc + 3) ls ((v.map (am_cv ad zz as')).toList ++ rest.map (am_cv ad zz as))) := by
            intro v as' H1 locs1 ho hX1 hW1 hS1 hv1
            subst ho
            have hsim := ih l D dA ad zz bs Ln xs (d + 1) k p e R s m args below meth c as0 c0 s0 Q (pc + 3) _ (v.toList ++ rest) h2 o h' C9 hE hcr hsr hex2
            have hle := hnx as' H1 hX1 hW1
            obtain ⟨t9, rfl⟩ := hX1
            have hX2 : ∃ t8, as ++ t9 = as0 ++ t8 := by
              obtain ⟨t8, rfl⟩ := hX
              exact ⟨t8 ++ t9, by rw [List.append_assoc]⟩
            have hVS2 : am_VS (nx h2) (v.toList ++ rest) := by
              intro w hw
              rcases List.mem_append.mp hw with hw | hw
              · exact hv1 w (by cases v with | none => cases hw | some x => rw [List.mem_singleton.mp hw])
              · exact (hVSav.2 w hw).mono hle
            have := hsim (as ++ t9) H1 locs1 ls hX2 hW1 hS1 (am_LR_ext hL hVL hn9) (hVL.mono hle) hVS2 (Nat.le_trans hc hm1.1) (Nat.le_trans hs hm1.2)
            rw [List.map_append, am_st_ext hVSav.2 hn9] at this
            rw [hec, hes]
            cases v with
            | none => exact this
            | some x => exact this
          have kx : ∀ (E : Nat) (as' : List Nat) (H1 : Heap) (locs1 : List Loc) (q : Addr) (ce : Cell), o1 = .inr E → (∃ t9, as' = as ++ t9) → am_WS D dA ad bs Ln xs as' h2 H1 → va_S (am_A bs) s.heap H1 locs1 → H1[q]? = some ce → ce.vm = .none → s.vm.findClass (exNm E) = some ce.cls → vx_W p l e R s m args below meth c H1 locs1 ((nc h1 - c0) + (nc h2 - nc h1)) ((ns h1 - s0) + (ns h2 - ns h1)) Q (F0 m pc ls (rest.map (am_cv ad zz as))) q := by
            intro E as' H1 locs1 q ce ho hX1 hW1 hS1 hce hcv hcl
            subst ho
            have hle := hnx as' H1 hX1 hW1
            obtain ⟨t9, rfl⟩ := hX1
            have hX2 : ∃ t8, as ++ t9 = as0 ++ t8 := by
              obtain ⟨t8, rfl⟩ := hX
              exact ⟨t8 ++ t9, by rw [List.append_assoc]⟩
            rw [hec, hes]
            unfold aEnd at hex2
            dsimp only at hex2
            split at hex2
            · rename_i hmt
              cases hex2
              exact hE.2.2 pc E ls H1 locs1 (as ++ t9) _ q ce hmt rfl hX2 hW1 hS1 hce hcv hcl (Nat.le_trans hc hm1.1) (Nat.le_trans hs hm1.2)
            · rename_i hmt
              split at hex2
              · rename_i pt i hh
                exact am_catch C9 (fun q9 => hmt q9) hh hX2 hW1 hS1 (am_LR_ext hL hVL hn9) (hVL.mono hle) (Nat.le_trans hc hm1.1) (Nat.le_trans hs hm1.2) hce hcv hcl (ih l D dA ad zz bs Ln xs (d + 1) k p e R s m args below meth c as0 c0 s0 Q pt _ [] h2 o h' C9 hE hcr hsr hex2)
              · cases hex2
          rcases hcase with ⟨hkc, hd, hna, hst⟩ | ⟨b, av', rfl, hkc, hd, hna, hst, hkb⟩
          · rw [hst]
            exact am_run_on (am_runS C9 hd hcR hkc hna hr9 hM hW hS hL.1 hf) hS kr kx
          · rw [hst]
            exact am_run_on (am_runV C9 hd rfl hcR hkc hna hr9 hM hkb (hVSav.1 _ List.mem_cons_self) hW hS hL.1 hf) hS kr kx
    · rename_i r e1
      rw [e1, hex2] at hg
      exact hg hcr hsr hE
end
section
/-! THE WORDS OF THE START, held by their places (generated). -/
def am_nl : List Cond := flatC (Jvm.Cond.and given_1 narrow_1)
def am_nq (i : Nat) (w : Cond) : Bool := decide (am_nl[i]? = some w)
def am_sn : List String := ["HOUSES", "COINS", "STRAY", "IS", "COMMA", "DASH", "STOP", "QUOTE", "ON", "FEED", "TRAIN", "HOUSE", "FREE", "OFFER", "WHEN", "DAY", "HERE", "ROOM", "HUNGER", "WILD", "OF", "HOUSED", "PAIRED", "READY", "NOT", "AND", "OR", "MIN", "MAX", "OPEN", "CLOSE", "OPEN_TEST", "CLOSE_TEST", "SEMICOLON", "SEPARATOR", "PLUS", "MINUS", "TIMES", "OVER", "LESS", "GREATER", "EQUAL", "AT_MOST", "AT_LEAST", "NAME", "NUMBER", "END", "BAD", "NEGATE"]
def am_sk : List (String × Nat) := [("MarkShelter$Sign", 175), ("MarkShelter$Sign", 181), ("MarkShelter$Sign", 184), ("MarkShelter$Sign", 187), ("MarkShelter$Sign", 190), ("MarkShelter$Sign", 193), ("MarkShelter$Sign", 196), ("MarkShelter$Sign", 199), ("MarkShelter$Sign", 202), ("MarkShelter$Sign", 205), ("MarkShelter$Sign", 208), ("MarkShelter$Sign", 211), ("MarkShelter$Sign", 214), ("MarkShelter$Sign", 217), ("MarkShelter$Sign", 220), ("MarkShelter$Sign", 223), ("MarkShelter$Sign", 226), ("MarkShelter$Sign", 229), ("MarkShelter$Sign", 232), ("MarkShelter$Sign", 235), ("MarkShelter$Sign", 238), ("MarkShelter$Sign", 241), ("MarkShelter$Sign", 244), ("MarkShelter$Sign", 247), ("MarkShelter$Sign", 250), ("MarkShelter$Sign", 253), ("MarkShelter$Sign", 256), ("MarkShelter$Sign", 259), ("MarkShelter$Sign", 262), ("MarkShelter$Sign", 265), ("MarkShelter$Sign", 268), ("MarkShelter$Sign", 271), ("MarkShelter$Sign", 274), ("MarkShelter$Sign", 277), ("MarkShelter$Sign", 280), ("MarkShelter$Sign", 283), ("MarkShelter$Sign", 286), ("MarkShelter$Sign", 289), ("MarkShelter$Sign", 292), ("MarkShelter$Sign", 295), ("MarkShelter$Sign", 298), ("MarkShelter$Sign", 301), ("MarkShelter$Sign", 304), ("MarkShelter$Sign", 307), ("MarkShelter$Sign", 310), ("MarkShelterModel", 93)]
/-- a constant's term -/
def am_tm (n : Nat) : Term := if n < 49 then .static "MarkShelter$Sign" (am_sn.getD n "") "LMarkShelter$Sign;" else if n = 49 then .static "MarkShelter" "SIGNS" "[LMarkShelter$Sign;" else if n = 50 then .static "MarkShelterModel" "WORDS" "[Ljava/lang/String;" else if n = 51 then .static "MarkShelterModel" "WILDNESS" "[I" else if n = 52 then .static "MarkShelter$1" "$SwitchMap$MarkShelter$Sign" "[I" else if n = 53 then .arg 0 else if 60 ≤ n ∧ n < 106 then .string (am_sk.getD (n - 60) ("", 0)).1 (am_sk.getD (n - 60) ("", 0)).2 else if 110 ≤ n ∧ n < 156 then .field (.string (am_sk.getD (n - 110) ("", 0)).1 (am_sk.getD (n - 110) ("", 0)).2) "java/lang/String" "value" "[B" else .arg 0
def am_i1 : List Nat := [78, 84, 87, 90, 258, 261, 264, 267, 145, 7, 148, 151, 154, 157, 160, 270, 273, 276, 279, 282, 169, 285, 288, 291, 163, 211, 214, 294, 297, 178, 175, 300, 166, 81, 181, 190, 193, 184, 187, 196, 199, 202, 205, 208, 75, 10, 4, 13, 172]
theorem am_f1 : (List.range 49).all (fun i => am_nq (am_i1.getD i 0) (Cond.exactly (am_tm i) "MarkShelter$Sign")) = true := by decide +kernel
def am_i2 : List Nat := [79, 85, 88, 91, 259, 262, 265, 268, 146, 8, 149, 152, 155, 158, 161, 271, 274, 277, 280, 283, 170, 286, 289, 292, 164, 212, 215, 295, 298, 179, 176, 301, 167, 82, 182, 191, 194, 185, 188, 197, 200, 203, 206, 209, 76, 11, 5, 14, 173]
theorem am_f2 : (List.range 49).all (fun i => am_nq (am_i2.getD i 0) (Cond.eq (.field (am_tm i) "java/lang/Enum" "ordinal" "I") (.int (nI i)))) = true := by decide +kernel
def am_i3 : List Nat := [80, 86, 89, 92, 260, 263, 266, 269, 147, 9, 150, 153, 156, 159, 162, 272, 275, 278, 281, 284, 171, 287, 290, 293, 165, 213, 216, 296, 299, 180, 177, 302, 168, 83, 183, 192, 195, 186, 189, 198, 201, 204, 207, 210, 77, 12, 6, 15, 174]
theorem am_f3 : (List.range 49).all (fun i => am_nq (am_i3.getD i 0) (Cond.eq (.field (am_tm i) "MarkShelter$Sign" "text" "Ljava/lang/String;") (am_tm (60 + k_text.getD i 0)))) = true := by decide +kernel
def am_i4 : List Nat := [593, 608, 617, 626, 1024, 1034, 1043, 1052, 632, 585, 638, 647, 656, 664, 673, 1062, 1070, 1079, 1088, 1099, 693, 1108, 1119, 1130, 681, 761, 768, 1140, 1148, 704, 699, 1156, 688, 603, 709, 724, 729, 714, 719, 734, 739, 744, 749, 755, 581, 564]
theorem am_f4 : (List.range 46).all (fun i => am_nq (am_i4.getD i 0) (Cond.exactly (am_tm (60 + i)) "java/lang/String")) = true := by decide +kernel
def am_i5 : List Nat := [594, 609, 618, 627, 1025, 1035, 1044, 1053, 633, 586, 639, 648, 657, 665, 674, 1063, 1071, 1080, 1089, 1100, 694, 1109, 1120, 1131, 682, 762, 769, 1141, 1149, 705, 700, 1157, 689, 604, 710, 725, 730, 715, 720, 735, 740, 745, 750, 756, 582, 565]
theorem am_f5 : (List.range 46).all (fun i => am_nq (am_i5.getD i 0) (Cond.eq (.field (am_tm (60 + i)) "java/lang/String" "coder" "B") (.int 0))) = true := by decide +kernel
def am_i6 : List Nat := [595, 610, 619, 628, 1026, 1036, 1045, 1054, 634, 587, 640, 649, 658, 666, 675, 1064, 1072, 1081, 1090, 1101, 695, 1110, 1121, 1132, 683, 763, 770, 1142, 1150, 706, 701, 1158, 690, 605, 711, 726, 731, 716, 721, 736, 741, 746, 751, 757, 583, 566]
theorem am_f6 : (List.range 46).all (fun i => am_nq (am_i6.getD i 0) (Cond.arrayOf (am_tm (110 + i)) .byte)) = true := by decide +kernel
def am_i7 : List Nat := [596, 611, 620, 629, 1027, 1037, 1046, 1055, 635, 588, 641, 650, 659, 667, 676, 1065, 1073, 1082, 1091, 1102, 696, 1111, 1122, 1133, 684, 764, 771, 1143, 1151, 707, 702, 1159, 691, 606, 712, 727, 732, 717, 722, 737, 742, 747, 752, 758, 584, 567]
theorem am_f7 : (List.range 46).all (fun i => am_nq (am_i7.getD i 0) (Cond.eq (.length (am_tm (110 + i))) (.int (Int32.ofNat (k_len.getD i 0))))) = true := by decide +kernel
def am_i9 : List (List Nat) := [[597, 598, 599, 600, 601, 602], [612, 613, 614, 615, 616], [621, 622, 623, 624, 625], [630, 631], [1028, 1029, 1030, 1031, 1032], [1038, 1039, 1040, 1041], [1047, 1048, 1049, 1050], [1056, 1057, 1058, 1059, 1060], [636, 637], [589, 590, 591, 592], [642, 643, 644, 645, 646], [651, 652, 653, 654, 655], [660, 661, 662, 663], [668, 669, 670, 671, 672], [677, 678, 679, 680], [1066, 1067, 1068], [1074, 1075, 1076, 1077], [1083, 1084, 1085, 1086], [1092, 1093, 1094, 1095, 1096, 1097], [1103, 1104, 1105, 1106], [697, 698], [1112, 1113, 1114, 1115, 1116, 1117], [1123, 1124, 1125, 1126, 1127, 1128], [1134, 1135, 1136, 1137, 1138], [685, 686, 687], [765, 766, 767], [772, 773], [1144, 1145, 1146], [1152, 1153, 1154], [708], [703], [1160], [692], [607], [713], [728], [733], [718], [723], [738], [743], [748], [753, 754], [759, 760], [], [568, 569, 570, 571, 572, 573, 574, 575, 576, 577, 578, 579, 580]]
theorem am_f9 : (List.range 46).all (fun i => (List.range (k_len.getD i 0)).all (fun j => am_nq ((am_i9.getD i []).getD j 0) (Cond.eq (.elem (am_tm (110 + i)) (.int (Int32.ofNat j))) (.int ((k_byt.getD i []).getD j 0))))) = true := by decide +kernel
def am_i10 : List Nat := [21, 22, 23, 24, 25, 26, 27, 28, 29, 30, 31, 32, 33, 34, 35, 36, 37, 38, 39, 40, 41, 42, 43, 44, 45, 46, 47, 48, 49, 50, 51, 52, 53, 54, 55, 56, 57, 58, 59, 60, 61, 62, 63, 64, 65, 66, 67, 68, 69]
theorem am_f10 : (List.range 49).all (fun i => am_nq (am_i10.getD i 0) (Cond.eq (.elem (am_tm 49) (.int (Int32.ofNat i))) (am_tm i))) = true := by decide +kernel
def am_wj : List Nat := [348, 349, 350, 352, 353, 355, 357, 359, 361, 363, 365, 367, 368, 370, 372, 374, 375, 377, 378, 379, 380, 382, 384, 386, 388, 390, 392, 394, 395]
def am_i11 : List Nat := [229, 230, 231, 232, 233, 234, 235, 236, 237, 238, 239, 240, 241, 242, 243, 244, 245, 246, 247, 248, 249, 250, 251, 252, 253, 254, 255, 256, 257]
theorem am_f11 : (List.range 29).all (fun i => am_nq (am_i11.getD i 0) (Cond.eq (.elem (am_tm 50) (.int (Int32.ofNat i))) (.string "MarkShelterModel" (am_wj.getD i 0)))) = true := by decide +kernel
def am_i12 : List Nat := [784, 794, 804, 811, 1033, 1042, 1051, 1061, 852, 861, 871, 881, 890, 900, 909, 1069, 1078, 1087, 1098, 1107, 957, 1118, 1129, 1139, 994, 1002, 1009, 1147, 1155]
theorem am_f12 : (List.range 29).all (fun i => am_nq (am_i12.getD i 0) (Cond.eq (am_tm (60 + i)) (.string "MarkShelterModel" (am_wj.getD i 0))) || am_nq (am_i12.getD i 0) (Cond.eq (.string "MarkShelterModel" (am_wj.getD i 0)) (am_tm (60 + i)))) = true := by decide +kernel
def am_i13 : List Nat := [222, 223, 224, 225]
theorem am_f13 : (List.range 4).all (fun i => am_nq (am_i13.getD i 0) (Cond.eq (.elem (am_tm 51) (.int (Int32.ofNat i))) (.int (k_wild.getD i 0)))) = true := by decide +kernel
def am_i14 : List Nat := [96, 97, 98, 99, 100, 101, 102, 103, 104, 105, 106, 107, 108, 109, 110, 111, 112, 113, 114, 115, 116, 117, 118, 119, 120, 121, 122, 123, 124, 125, 126, 127, 128, 129, 130, 131, 132, 133, 134, 135, 136, 137, 138, 139, 140, 141, 142, 143, 144]
theorem am_f14 : (List.range 49).all (fun i => am_nq (am_i14.getD i 0) (Cond.eq (.elem (am_tm 52) (.int (Int32.ofNat i))) (.int (k_switch.getD i 0)))) = true := by decide +kernel
theorem am_f15 : (am_nq 18 (Cond.arrayOf (am_tm 49) (.object "MarkShelter$Sign")) && am_nq 19 (Cond.eq (.length (am_tm 49)) (.int (Int32.ofNat 49))) && am_nq 227 (Cond.arrayOf (am_tm 50) (.object "java/lang/String")) && am_nq 228 (Cond.eq (.length (am_tm 50)) (.int (Int32.ofNat 29))) && am_nq 220 (Cond.arrayOf (am_tm 51) .int) && am_nq 221 (Cond.eq (.length (am_tm 51)) (.int (Int32.ofNat 4))) && am_nq 94 (Cond.arrayOf (am_tm 52) .int) && am_nq 95 (Cond.eq (.length (am_tm 52)) (.int (Int32.ofNat 49)))) = true := by decide +kernel
def am_i16 : List Nat := [387, 407, 470, 441, 458, 485, 523, 502, 544]
theorem am_f16 : (List.range k_txt.length).all (fun i => am_nq (am_i16.getD i 0) (Cond.exactly (.string (k_txt.getD i ("", 0, "")).1 (k_txt.getD i ("", 0, "")).2.1) "java/lang/String") && decide (Cond.stringRef (k_txt.getD i ("", 0, "")).1 (k_txt.getD i ("", 0, "")).2.1 (k_txt.getD i ("", 0, "")).2.2 ∈ lw_tbl)) = true := by decide +kernel
theorem am_f17 : (decide (Cond.stringRef "MarkShelterModel" 93 "()[];,+-*/<>=" ∈ lw_tbl) && am_nq 340 (Cond.not (.castable "java/lang/IllegalStateException" "java/lang/IndexOutOfBoundsException"))) = true := by decide +kernel
theorem am_f18 : (am_nq 71 (Cond.isRef (.static "jdk/internal/util/Preconditions" "SIOOBE_FORMATTER" "Ljava/util/function/BiFunction;")) && am_nq 217 (Cond.isRef (.static Bundle.tN "UNASSIGNED_STACK" Bundle.steD)) && am_nq 218 (Cond.isRef (.static Bundle.tN "SUPPRESSED_SENTINEL" Bundle.listD))) = true := by decide +kernel
theorem am_f19 : ([("jdk/internal/util/Preconditions", "SIOOBE_FORMATTER", "Ljava/util/function/BiFunction;"), (Bundle.tN, "UNASSIGNED_STACK", Bundle.steD), (Bundle.tN, "SUPPRESSED_SENTINEL", Bundle.listD)].all (fun q => decide (Cond.laysStatic q.1 q.2.1 q.2.2 ∈ lw_tbl) && decide (Cond.initialized q.1 ∈ lw_tbl))) = true := by decide +kernel
def am_i20 : List Nat := [0, 0, 0, 0, 0, 0, 0, 0, 0, 0, 0, 0, 0, 0, 0, 0, 0, 0, 0, 0, 0, 0, 0, 0, 0, 0, 0, 0, 0, 0, 0, 0, 0, 0, 0, 0, 0, 0, 0, 0, 0, 0, 0, 0, 0, 0, 0, 0, 0, 0, 0, 0, 70, 0]
def am_sk9 (i : Nat) (e : (Nat × Nat) × Value) (w : String × String × String × String × Nat) : Bool :=
  decide (Cond.laysStatic w.1 w.2.1 w.2.2.1 ∈ lw_tbl) && decide (Cond.initialized w.1 ∈ lw_tbl) && (match e.2 with
    | .ref n => decide (n < 53) && decide (am_tm n = .static w.1 w.2.1 w.2.2.1)
    | .int z => am_nq (am_i20.getD i 0) (Cond.eq (.static w.1 w.2.1 w.2.2.1) (.int z))
    | .float _ => decide (w.1 = "jdk/internal/util/Preconditions") && decide (w.2.1 = "SIOOBE_FORMATTER") && decide (w.2.2.1 = "Ljava/util/function/BiFunction;")
    | _ => false)
theorem am_f20 : (List.range sT.length).all (fun i => am_sk9 i (sT.getD i ((0, 0), .null)) (sWs.getD i ("", "", "", "", 0))) = true := by decide +kernel
end
section
/-! THE START: what the Statement gives of it is what the abstract machine's context asks. -/
theorem am_rg {N : Nat} {f : Nat → Bool} (h : (List.range N).all f = true) {i : Nat} (hi : i < N) : f i = true := List.all_eq_true.mp h i (List.mem_range.mpr hi)
noncomputable def am_ads (args : Array Value) (s : State) (b n : Nat) : Nat := match (am_tm n).eval args s none [] s with
  | some (.ref a) => a
  | _ => b
section START
variable {s : State} {args : Array Value} {b L : Nat} {xs : Nat → Int32}
theorem am_nh (hN : ∀ w ∈ am_nl, w.before args s = true) {i : Nat} {w : Cond} (h : am_nq i w = true) : w.before args s = true := hN w (List.mem_of_getElem? (of_decide_eq_true h))
theorem am_ads_of {n a : Nat} (h : (am_tm n).eval args s none [] s = some (.ref a)) : am_ads args s b n = a := by
  unfold am_ads
  rw [h]
theorem am_hA (a : Nat) (h : a < s.heap.size) : ¬ am_A s.heap.size a := fun q => absurd (Nat.lt_of_lt_of_le h q) (Nat.lt_irrefl _)
theorem am_ex {t : Term} {E : String} (h : (Cond.exactly t E).before args s = true) : ∃ a : Nat, t.eval args s none [] s = some (.ref a) ∧ va_O E a (am_A s.heap.size) s s.heap := by
  obtain ⟨a, c, cell, k, q1, q2, q3, q4, q5, q6, -⟩ := Cond.exactly_spec h
  exact ⟨a, q1, cell, q3, q5, by rw [q6]; exact q2, am_hA a (Array.getElem?_eq_some_iff.mp q3).1⟩
theorem am_s1 (hN : ∀ w ∈ am_nl, w.before args s = true) (b : Nat) {i : Nat} (hi : i < 49) : (am_tm i).eval args s none [] s = some (.ref (am_ads args s b i)) ∧ va_O "MarkShelter$Sign" (am_ads args s b i) (am_A s.heap.size) s s.heap := by
  obtain ⟨a, h1, h2⟩ := am_ex (am_nh hN (am_rg am_f1 hi))
  rw [am_ads_of h1]
  exact ⟨h1, h2⟩
theorem am_s4 (hN : ∀ w ∈ am_nl, w.before args s = true) (b : Nat) {i : Nat} (hi : i < 46) : (am_tm (60 + i)).eval args s none [] s = some (.ref (am_ads args s b (60 + i))) ∧ va_O "java/lang/String" (am_ads args s b (60 + i)) (am_A s.heap.size) s s.heap := by
  obtain ⟨a, h1, h2⟩ := am_ex (am_nh hN (am_rg am_f4 hi))
  rw [am_ads_of h1]
  exact ⟨h1, h2⟩
theorem am_klen : (List.range 46).all (fun i => decide (k_len.getD i 0 < 2 ^ 31)) = true := by decide +kernel
theorem am_ktx : (List.range 49).all (fun i => decide (k_text.getD i 0 < 46)) = true := by decide +kernel
theorem am_tm60 : (List.range 46).all (fun i => decide (am_tm (110 + i) = .field (am_tm (60 + i)) "java/lang/String" "value" "[B")) = true := by decide +kernel
theorem am_s6 (hN : ∀ w ∈ am_nl, w.before args s = true) (b : Nat) {i : Nat} (hi : i < 46) : (am_tm (110 + i)).eval args s none [] s = some (.ref (am_ads args s b (110 + i))) ∧ va_T .byte (am_ads args s b (110 + i)) (k_len.getD i 0) (fun j => .int ((k_byt.getD i []).getD j 0)) (am_A s.heap.size) s s.heap := by
  obtain ⟨t, h1, h2⟩ := va_Tof (f := fun j => .int ((k_byt.getD i []).getD j 0)) (A := am_A s.heap.size) (of_decide_eq_true (am_rg am_klen hi)) (am_nh hN (am_rg am_f6 hi)) (va_eqt (am_nh hN (am_rg am_f7 hi))) (fun j hj => va_eqt (am_nh hN (am_rg (am_rg am_f9 hi) hj))) am_hA
  rw [am_ads_of h1]
  exact ⟨h1, h2⟩
theorem am_s2 (hN : ∀ w ∈ am_nl, w.before args s = true) (b : Nat) {i : Nat} (hi : i < 49) : va_OF "java/lang/Enum" "ordinal" "I" (.int (nI i)) (am_ads args s b i) (am_A s.heap.size) s s.heap :=
  vk_OFof (am_s1 hN b hi).1 (va_eqt (am_nh hN (am_rg am_f2 hi))) am_hA
theorem am_s3 (hN : ∀ w ∈ am_nl, w.before args s = true) (b : Nat) {i : Nat} (hi : i < 49) : va_OF "MarkShelter$Sign" "text" "Ljava/lang/String;" (.ref (am_ads args s b (60 + k_text.getD i 0))) (am_ads args s b i) (am_A s.heap.size) s s.heap :=
  vk_OFof (am_s1 hN b hi).1 (va_eqv (am_nh hN (am_rg am_f3 hi)) (am_s4 hN b (of_decide_eq_true (am_rg am_ktx hi))).1) am_hA
theorem am_s5 (hN : ∀ w ∈ am_nl, w.before args s = true) (b : Nat) {i : Nat} (hi : i < 46) : va_OF "java/lang/String" "coder" "B" (.int 0) (am_ads args s b (60 + i)) (am_A s.heap.size) s s.heap :=
  vk_OFof (am_s4 hN b hi).1 (va_eqt (am_nh hN (am_rg am_f5 hi))) am_hA
theorem am_s5v (hN : ∀ w ∈ am_nl, w.before args s = true) (b : Nat) {i : Nat} (hi : i < 46) : va_OF "java/lang/String" "value" "[B" (.ref (am_ads args s b (110 + i))) (am_ads args s b (60 + i)) (am_A s.heap.size) s s.heap := by
  have h1 := (am_s6 hN b hi).1
  rw [of_decide_eq_true (am_rg am_tm60 hi)] at h1
  exact vk_OFof (am_s4 hN b hi).1 h1 am_hA
theorem am_s10 (hN : ∀ w ∈ am_nl, w.before args s = true) (b : Nat) : (am_tm 49).eval args s none [] s = some (.ref (am_ads args s b 49)) ∧ va_T (.object "MarkShelter$Sign") (am_ads args s b 49) 49 (fun j => .ref (am_ads args s b j)) (am_A s.heap.size) s s.heap := by
  have h15 := am_f15
  simp only [Bool.and_eq_true] at h15
  obtain ⟨⟨⟨⟨⟨⟨⟨h1, h2⟩, h3⟩, h4⟩, h5⟩, h6⟩, h7⟩, h8⟩ := h15
  obtain ⟨t, q1, q2⟩ := va_Tof (N := 49) (f := fun j => .ref (am_ads args s b j)) (A := am_A s.heap.size) (by decide) (am_nh hN h1) (va_eqt (am_nh hN h2)) (fun j hj => va_eqv (am_nh hN (am_rg am_f10 hj)) (am_s1 hN b hj).1) am_hA
  rw [am_ads_of q1]
  exact ⟨q1, q2⟩
theorem am_s11 (hN : ∀ w ∈ am_nl, w.before args s = true) (b : Nat) : (am_tm 50).eval args s none [] s = some (.ref (am_ads args s b 50)) ∧ va_T (.object "java/lang/String") (am_ads args s b 50) 29 (fun j => .ref (am_ads args s b (60 + j))) (am_A s.heap.size) s s.heap := by
  have h15 := am_f15
  simp only [Bool.and_eq_true] at h15
  obtain ⟨⟨⟨⟨⟨⟨⟨h1, h2⟩, h3⟩, h4⟩, h5⟩, h6⟩, h7⟩, h8⟩ := h15
  obtain ⟨t, q1, q2⟩ := va_Tof (N := 29) (f := fun j => .ref (am_ads args s b (60 + j))) (A := am_A s.heap.size) (by decide) (am_nh hN h3) (va_eqt (am_nh hN h4)) (fun j hj => by
    refine va_eqv (am_nh hN (am_rg am_f11 hj)) ?_
    have h12 := am_rg am_f12 hj
    rw [Bool.or_eq_true] at h12
    have h9 := (am_s4 hN b (i := j) (by omega)).1
    rcases h12 with h12 | h12
    · exact va_eqR (am_nh hN h12) h9
    · exact va_eqv (am_nh hN h12) h9) am_hA
  rw [am_ads_of q1]
  exact ⟨q1, q2⟩
theorem am_s13 (hN : ∀ w ∈ am_nl, w.before args s = true) (b : Nat) : (am_tm 51).eval args s none [] s = some (.ref (am_ads args s b 51)) ∧ va_T .int (am_ads args s b 51) 4 (fun j => .int (k_wild.getD j 0)) (am_A s.heap.size) s s.heap := by
  have h15 := am_f15
  simp only [Bool.and_eq_true] at h15
  obtain ⟨⟨⟨⟨⟨⟨⟨h1, h2⟩, h3⟩, h4⟩, h5⟩, h6⟩, h7⟩, h8⟩ := h15
  obtain ⟨t, q1, q2⟩ := va_Tof (N := 4) (f := fun j => .int (k_wild.getD j 0)) (A := am_A s.heap.size) (by decide) (am_nh hN h5) (va_eqt (am_nh hN h6)) (fun j hj => va_eqt (am_nh hN (am_rg am_f13 hj))) am_hA
  rw [am_ads_of q1]
  exact ⟨q1, q2⟩
theorem am_s14 (hN : ∀ w ∈ am_nl, w.before args s = true) (b : Nat) : (am_tm 52).eval args s none [] s = some (.ref (am_ads args s b 52)) ∧ va_T .int (am_ads args s b 52) 49 (fun j => .int (k_switch.getD j 0)) (am_A s.heap.size) s s.heap := by
  have h15 := am_f15
  simp only [Bool.and_eq_true] at h15
  obtain ⟨⟨⟨⟨⟨⟨⟨h1, h2⟩, h3⟩, h4⟩, h5⟩, h6⟩, h7⟩, h8⟩ := h15
  obtain ⟨t, q1, q2⟩ := va_Tof (N := 49) (f := fun j => .int (k_switch.getD j 0)) (A := am_A s.heap.size) (by decide) (am_nh hN h7) (va_eqt (am_nh hN h8)) (fun j hj => va_eqt (am_nh hN (am_rg am_f14 hj))) am_hA
  rw [am_ads_of q1]
  exact ⟨q1, q2⟩
theorem am_s53 (ha : args = #[.ref b]) {n : Nat} (hn : am_tm n = .arg 0) : am_ads args s b n = b := am_ads_of (by rw [hn, ha]; rfl)
/-- each constant's term names its cell -/
theorem am_sev (hN : ∀ w ∈ am_nl, w.before args s = true) (b : Nat) {n : Nat} (hn : n < 53) : (am_tm n).eval args s none [] s = some (.ref (am_ads args s b n)) := by
  by_cases h1 : n < 49
  · exact (am_s1 hN b h1).1
  · rcases (by omega : n = 49 ∨ n = 50 ∨ n = 51 ∨ n = 52) with rfl | rfl | rfl | rfl
    · exact (am_s10 hN b).1
    · exact (am_s11 hN b).1
    · exact (am_s13 hN b).1
    · exact (am_s14 hN b).1
theorem am_sT_lt {ty : FieldType} {t N : Nat} {f : Nat → Value} {A : Nat → Prop} {U : State} {H : Heap} (h : va_T ty t N f A U H) : t < H.size := by
  obtain ⟨cell, h1, -⟩ := h
  exact (Array.getElem?_eq_some_iff.mp h1).1
theorem am_sO_lt {E : String} {t : Nat} {A : Nat → Prop} {U : State} {H : Heap} (h : va_O E t A U H) : t < H.size := by
  obtain ⟨cell, h1, -⟩ := h
  exact (Array.getElem?_eq_some_iff.mp h1).1
theorem am_tm_arg : (List.range 200).all (fun n => decide (n < 53) || (decide (60 ≤ n) && decide (n < 106)) || (decide (110 ≤ n) && decide (n < 156)) || decide (am_tm n = .arg 0)) = true := by decide +kernel
theorem am_adb (hN : ∀ w ∈ am_nl, w.before args s = true) (ha : args = #[.ref b]) (hb : b < s.heap.size) {n : Nat} (hn : n < am_NC) : am_ads args s b n < s.heap.size := by
  have h := am_rg am_tm_arg hn
  simp only [Bool.or_eq_true, Bool.and_eq_true, decide_eq_true_eq] at h
  rcases h with ((h | ⟨h1, h2⟩) | ⟨h1, h2⟩) | h
  · by_cases h1 : n < 49
    · exact am_sO_lt (am_s1 hN b h1).2
    · rcases (by omega : n = 49 ∨ n = 50 ∨ n = 51 ∨ n = 52) with rfl | rfl | rfl | rfl
      · exact am_sT_lt (am_s10 hN b).2
      · exact am_sT_lt (am_s11 hN b).2
      · exact am_sT_lt (am_s13 hN b).2
      · exact am_sT_lt (am_s14 hN b).2
  · have := am_sO_lt (am_s4 hN b (i := n - 60) (by omega)).2
    rwa [show 60 + (n - 60) = n by omega] at this
  · have := am_sT_lt (am_s6 hN b (i := n - 110) (by omega)).2
    rwa [show 110 + (n - 110) = n by omega] at this
  · rw [am_s53 ha h]
    exact hb
theorem am_inj (hN : ∀ w ∈ am_nl, w.before args s = true) (b : Nat) : ∀ i j, i < 49 → j < 49 → am_ads args s b i = am_ads args s b j → i = j := by
  intro i j hi hj e
  obtain ⟨cf, k, fi, f, cell, h1, h2, h3, h4, h5, -⟩ := am_s2 hN b hi
  obtain ⟨cf', k', fi', f', cell', h1', h2', h3', h4', h5', -⟩ := am_s2 hN b hj
  rw [h1] at h1'
  cases h1'
  rw [← e, h3] at h3'
  cases h3'
  rw [h5] at h5'
  have hij : nI i = nI j := by simpa using h5'
  exact (nI_eq (by omega) (by omega)).mp hij
end START
end
section
/-! THE LAW OUT OF THE ABSTRACT MACHINE'S RUN. -/
def am_icl : List Nat := [12, 8, 4, 6, 6, 7, 7, 15, 8, 16]
def am_tyl : List FieldType := [.int, .long, .byte, .object "MarkShelter$Sign", .object "MarkShelter$Stray", .object "MarkShelter$Order"]
theorem am_f21 : (List.range 10).all (fun c => decide (Cond.instantiable (vwCl.getD c ("", TX1, 0)).1 (am_icl.getD c 0) ∈ lw_tbl)) = true := by decide +kernel
theorem am_f22 : (decide (Cond.arrayClass .int ∈ lw_tbl) && decide (Cond.arrayClass .long ∈ lw_tbl) && decide (Cond.arrayClass .byte ∈ lw_tbl) && decide (Cond.arrayOver (.object "MarkShelter$Sign") ∈ lw_tbl) && decide (Cond.arrayOver (.object "MarkShelter$Stray") ∈ lw_tbl) && decide (Cond.arrayOver (.object "MarkShelter$Order") ∈ lw_tbl)) = true := by decide +kernel
theorem am_f23 : vwCl.length = 10 := by decide +kernel
theorem am_f24 : sT.length = sWs.length := by decide +kernel
theorem am_f25 : (List.range 200).all (fun n => (List.range 50).all (fun j => match k_rv n j with | some q => decide (q < 200) | none => true)) = true := by decide +kernel
section LAW
variable {s : State} {args : Array Value} {b L : Nat} {xs : Nat → Int32}
theorem am_aO {C : String} (h : (Cond.arrayOver (.object C)).before args s = true) : ∃ c : ClassId, ArrOfT s c (.object C) ∧ va_RA s c (.object C) := by
  obtain ⟨comp, c, k, h1, h2, h3, h4, h5⟩ := Cond.arrayOver_spec h
  exact ⟨c, fun N z => ⟨(fun k h => by cases h), k, h3, comp, h4⟩, k, comp, h3, h4, h1, h5⟩
theorem am_aK (hT : ∀ w ∈ lw_tbl, w.before args s = true) : ∃ (D : va_G) (dA : Nat → ClassId), va_K D vwCl (am_tys dA) s := by
  have h0 : ∀ c : Nat, ∃ q : ClassId × (Nat → Nat), ∀ e, vwCl[c]? = some e → u_Kn s e.1 e.2.1 e.2.2 q.1 q.2 := by
    intro c
    cases hc : vwCl[c]? with
    | none => exact ⟨(0, fun _ => 0), fun e h => by cases h⟩
    | some e =>
      have hlt : c < 10 := by
        have := (List.getElem?_eq_some_iff.mp hc).1
        rwa [am_f23] at this
      have hi := of_decide_eq_true (am_rg am_f21 hlt)
      rw [List.getD_eq_getElem?_getD, hc] at hi
      obtain ⟨cC, iS, h⟩ := u_known (C := e.1) (T := e.2.1) (N := e.2.2) hT (fun w hw => (List.mem_filter.mp (am_lays_in hc w hw)).1) (hT _ hi)
      exact ⟨(cC, iS), fun e' h' => by cases h'; exact h⟩
  have h1 : ∀ t : Nat, ∃ c : ClassId, ∀ ty, am_tyl[t]? = some ty → ArrOfT s c ty ∧ va_RA s c ty := by
    have h22 := am_f22
    simp only [Bool.and_eq_true, decide_eq_true_eq] at h22
    obtain ⟨⟨⟨⟨⟨w1, w2⟩, w3⟩, w4⟩, w5⟩, w6⟩ := h22
    intro t
    rcases t with _ | _ | _ | _ | _ | _ | t
    · obtain ⟨c, k, comp, h1, h2, h3⟩ := Cond.arrayClass_spec (hT _ w1)
      exact ⟨c, fun ty h => by cases h; exact ⟨fun N z => ⟨(fun k h => by cases h), k, h2, comp, h3⟩, h1⟩⟩
    · obtain ⟨c, k, comp, h1, h2, h3⟩ := Cond.arrayClass_spec (hT _ w2)
      exact ⟨c, fun ty h => by cases h; exact ⟨fun N z => ⟨(fun k h => by cases h), k, h2, comp, h3⟩, h1⟩⟩
    · obtain ⟨c, k, comp, h1, h2, h3⟩ := Cond.arrayClass_spec (hT _ w3)
      exact ⟨c, fun ty h => by cases h; exact ⟨fun N z => ⟨(fun k h => by cases h), k, h2, comp, h3⟩, h1⟩⟩
    · obtain ⟨c, h⟩ := am_aO (hT _ w4)
      exact ⟨c, fun ty h' => by cases h'; exact h⟩
    · obtain ⟨c, h⟩ := am_aO (hT _ w5)
      exact ⟨c, fun ty h' => by cases h'; exact h⟩
    · obtain ⟨c, h⟩ := am_aO (hT _ w6)
      exact ⟨c, fun ty h' => by cases h'; exact h⟩
    · exact ⟨0, fun ty h => by simp [am_tyl] at h⟩
  obtain ⟨q, hq⟩ := Classical.axiomOfChoice h0
  obtain ⟨dA, hdA⟩ := Classical.axiomOfChoice h1
  refine ⟨(fun c => (q c).1, fun c => (q c).2), fun t => dA (t - 1), hq, fun k e he => ?_⟩
  rcases k with _ | _ | _ | _ | _ | _ | k
  · cases he; exact hdA 0 _ rfl
  · cases he; exact hdA 1 _ rfl
  · cases he; exact hdA 2 _ rfl
  · cases he; exact hdA 3 _ rfl
  · cases he; exact hdA 4 _ rfl
  · cases he; exact hdA 5 _ rfl
  · simp [am_tys] at he
theorem am_aV (hT : ∀ w ∈ lw_tbl, w.before args s = true) (hN : ∀ w ∈ am_nl, w.before args s = true) (b : Nat) : am_KV (am_ads args s b) s := by
  have h22 := am_f22
  simp only [Bool.and_eq_true, decide_eq_true_eq] at h22
  obtain ⟨⟨⟨⟨⟨w1, w2⟩, w3⟩, w4⟩, w5⟩, w6⟩ := h22
  have h17 := am_f17
  rw [Bool.and_eq_true] at h17
  refine ⟨fun w hw => word_at (State.WarmedH.refl s) (good_of_word (am_gwf hw)) (hT w (List.mem_filter.mp hw).1), fun w hw => ?_, ⟨va_AO.of (hT _ w4), va_AO.of (hT _ w5), va_AO.of (hT _ w6)⟩, fun e he => ?_, vk_R.of (A := args) (hT _ (of_decide_eq_true h17.1)) ?_, va_Nc.of (am_nh hN h17.2)⟩
  · obtain ⟨h1, h2⟩ := List.mem_filter.mp hw
    have h3 := hT w h1
    cases w <;> first | exact va_Nw.of rfl h3 | (exact absurd h2 Bool.false_ne_true)
  · obtain ⟨i, hi⟩ := List.getElem?_of_mem he
    have hlt := (List.getElem?_eq_some_iff.mp hi).1
    have h16 := am_rg am_f16 hlt
    have hgd : k_txt.getD i ("", 0, "") = e := by rw [List.getD_eq_getElem?_getD, hi]; rfl
    rw [Bool.and_eq_true, hgd] at h16
    obtain ⟨a, q1, -⟩ := am_ex (am_nh hN h16.1)
    exact ⟨a, vk_R.of (A := args) (hT _ (of_decide_eq_true h16.2)) q1⟩
  · have h := (am_s4 hN b (i := 45) (by decide)).1
    rwa [show am_tm (60 + 45) = .string "MarkShelterModel" 93 by decide +kernel] at h
theorem am_aZ (hT : ∀ w ∈ lw_tbl, w.before args s = true) (hN : ∀ w ∈ am_nl, w.before args s = true) : (∃ zz : Value, (zz = .null ∨ ∃ a, zz = .ref a) ∧ va_Z "jdk/internal/util/Preconditions" "SIOOBE_FORMATTER" "Ljava/util/function/BiFunction;" zz (am_A s.heap.size) s s.heap) ∧
    vx_Zq Bundle.tN "UNASSIGNED_STACK" Bundle.steD (am_A s.heap.size) s s.heap ∧ vx_Zq Bundle.tN "SUPPRESSED_SENTINEL" Bundle.listD (am_A s.heap.size) s s.heap := by
  have h19 := am_f19
  simp only [List.all_cons, List.all_nil, Bool.and_eq_true, decide_eq_true_eq] at h19
  obtain ⟨⟨a1, a2⟩, ⟨b1, b2⟩, ⟨c1, c2⟩, -⟩ := h19
  have h18 := am_f18
  simp only [Bool.and_eq_true] at h18
  obtain ⟨⟨r1, r2⟩, r3⟩ := h18
  refine ⟨?_, vx_Zqof (hT _ b1) (hT _ b2) (am_nh hN r2) am_hA, vx_Zqof (hT _ c1) (hT _ c2) (am_nh hN r3) am_hA⟩
  rcases va_Zqof (A := am_A s.heap.size) (hT _ a1) (hT _ a2) (am_nh hN r1) am_hA with h | ⟨t, h⟩
  · exact ⟨.null, Or.inl rfl, h⟩
  · exact ⟨.ref t, Or.inr ⟨t, rfl⟩, h⟩
theorem am_aC (hT : ∀ w ∈ lw_tbl, w.before args s = true) (hN : ∀ w ∈ am_nl, w.before args s = true) (ha : args = #[.ref b]) (hL : L ≤ 3072) (hX : va_X b L xs s s.heap) {zz : Value} (hz : va_Z "jdk/internal/util/Preconditions" "SIOOBE_FORMATTER" "Ljava/util/function/BiFunction;" zz (am_A s.heap.size) s s.heap) :
    am_CF (am_ads args s b) zz L xs (am_A s.heap.size) s s.heap := by
  refine ⟨fun i hi => ⟨(am_s1 hN b hi).2, am_s2 hN b hi, am_s3 hN b hi⟩, fun i hi => ⟨(am_s4 hN b hi).2, am_s5v hN b hi, am_s5 hN b hi, (am_s6 hN b hi).2⟩, fun i e w he hw => ?_, (am_s10 hN b).2, (am_s11 hN b).2, (am_s13 hN b).2, (am_s14 hN b).2, ?_⟩
  · have hlt := (List.getElem?_eq_some_iff.mp he).1
    have h20 := am_rg am_f20 hlt
    rw [List.getD_eq_getElem?_getD, he, List.getD_eq_getElem?_getD, hw] at h20
    unfold am_sk9 at h20
    simp only [Option.getD_some, Bool.and_eq_true, decide_eq_true_eq] at h20
    obtain ⟨⟨l1, l2⟩, l3⟩ := h20
    obtain ⟨e1, ev⟩ := e
    cases ev with
    | ref n =>
      simp only [Bool.and_eq_true, decide_eq_true_eq] at l3
      have h := am_sev hN b l3.1
      rw [l3.2] at h
      have hp : am_phi (am_ads args s b) [] n = am_ads args s b n := by
        unfold am_phi
        rw [if_pos (show n < am_NC from Nat.lt_of_lt_of_le l3.1 (by decide))]
      show va_Z _ _ _ (.ref (am_phi (am_ads args s b) [] n)) _ _ _
      rw [hp]
      exact va_Zref (hT _ l1) (hT _ l2) h am_hA
    | int z => exact va_Zof (hT _ l1) (hT _ l2) (va_eqt (am_nh hN l3)) am_hA
    | float z =>
      simp only [Bool.and_eq_true, decide_eq_true_eq] at l3
      obtain ⟨⟨g1, g2⟩, g3⟩ := l3
      rw [g1, g2, g3]
      exact hz
    | _ => exact absurd l3 Bool.false_ne_true
  · rw [am_s53 ha (by decide +kernel)]
    obtain ⟨scr, h1, h2, h3, h4, h5⟩ := hX
    exact ⟨scr, h1, h2, h3, by omega, by rw [h4], fun j hj => h5 j hj, am_hA b (Array.getElem?_eq_some_iff.mp h1).1⟩
theorem am_aH {D : va_G} {dA : Nat → ClassId} {ad : Nat → Nat} {bs : Nat} {H : Heap} : am_WS D dA ad bs L xs [] (am_h0 L xs) H := by
  refine ⟨rfl, ?_, ?_, ⟨Nat.le_refl _, fun a j q h => ?_, fun n h1 h2 => absurd (Nat.lt_of_lt_of_le h2 h1) (Nat.lt_irrefl _)⟩, fun n hn => ⟨rfl, fun j => ⟨rfl, rfl⟩⟩⟩
  · intro k q hk
    simp [am_ws] at hk
  · exact ⟨by intros; simp_all [am_ws], fun k q hk => by simp [am_ws] at hk⟩
  · show q < 200
    have h9 : k_rv a j = some q := h
    by_cases ha : a < 200
    · by_cases hj : j < 50
      · have h25 := am_rg (am_rg am_f25 ha) hj
        rw [h9] at h25
        exact of_decide_eq_true h25
      · exfalso
        unfold k_rv at h9
        (repeat' split at h9) <;> first | omega | (cases h9; done) | (simp at h9; done)
    · exfalso
      unfold k_rv at h9
      (repeat' split at h9) <;> first | omega | (cases h9; done) | (simp at h9; done)
end LAW
end
section
/-! THE CLAIM OUT OF ONE WALK OF THE LAW'S BODY. Your part is whole_start (and what it stands on); all else here is the same for every law, but numbers. -/
def R_law : String := "MarkShelterLaw"
def lw_P (b : Addr) (xs : List Int32) (args : Array Value) (s : State) : Prop := args = #[.ref b] ∧ s.IntsAt b xs ∧ xs.length ≤ 3072 ∧ (Jvm.Cond.and given_1 narrow_1).before args s = true
/-- what a walk over the start with the record d0 says of its end, said of the start itself -/
theorem lw_closed {s t : State} {o : Outcome} {d0 : Drawn} {L : List Loc} {k n : Nat} (hd0 : s.drawn.sameBut d0 lw_cs) (hv : ∃ v, o = .returned v) (hW : (s.setDrawn d0).WarmedH t.vm) (hs : (s.setDrawn d0).sameButNew ({ t with vm := s.vm } : State) L k n) : State.butDraws s t lw_cs (fun t1 => Framed s o t1 L k n) := by
  have h2 : t.drawn = d0 := congrArg State.drawn hs.1
  refine ⟨⟨hv, hW, State.sameButNew.setDrawn hs s.drawn⟩, ?_, by decide⟩
  rw [h2]
  exact hd0
def lw_Q (_ : Array Value) (s : State) (o : Outcome) (t : State) : Prop := o = .returned (some (.int 1)) ∧ State.butDraws s t lw_cs (fun t1 => Framed s o t1 [] 601024 7293033)
def lw_Z (below : List Frame) (a : Array Value) (s : State) : State → Prop := fun t => ∃ o, t.status = .running ∧ Ended t below o ∧ lw_Q a s o t
/-- the law's own end, with 1 on the stack, nothing written that was there before, its room as the claim has it; d0: the record of draws at this point (at the entry s.drawn: begin with 'refine W.base ?_' and 'have hd0 := Drawn.sameBut.refl s.drawn lw_cs') -/
theorem lw_ret {p : Program} {l : Launch} {e : Env} {s : State} {m : MethodId} {below : List Frame} {meth : Method} {c : Code} {b : Nat} {d0 : Drawn} (hd0 : s.drawn.sameBut d0 lw_cs) (hx : p.tables.exec = Jvm.exec) (hb : c.code = code) (hr : meth.sig.returnType = ret) (hlocks : meth.locks = false) {pc : Nat} {H : Heap} {ls : Array Slot} (hdg : decode code pc = .ok (.ireturn, 1)) : W p l e room_1 (s.setDrawn d0) m #[Value.ref b] below meth c H [] 601024 7293033 (lw_Z below #[Value.ref b] s) (F0 m pc ls [.int 1]) := by
  intro T hT X
  obtain ⟨fs, hret, hrun, hended, hW, hframe⟩ := X.leave (v := some (.int 1)) (hlocks := hlocks) (fun h => by rw [hr] at h; cases h)
  have hmeth' : T.vm.method? m = some meth := X.method'
  refine ⟨T.setFrames fs, ?_, .returned (some (.int 1)), hrun, hended, rfl, lw_closed hd0 ⟨_, rfl⟩ hW hframe⟩
  jvm_step X.here [X.here.top, hx, hb, hdg, hmeth', hr, ret, narrow_b1]
  (try refine ⟨rfl, ?_⟩); (try refine ⟨rfl, ?_⟩)
  first | (intro acts; rw [hret _ acts rfl rfl rfl]) | rw [hret _ _ rfl rfl rfl]
  exact Steps.refl _
/-- what holds at the law's entry: the machine, the code, the tables' words (any of lw_tbl by 'hts w (by decide +kernel)'), the script of L ints xs at the cell b, what the Statement gives of the start (any of its parts by flat_of_before) -/
def lw_At (p : Program) (s : State) (m : MethodId) (meth : Method) (c : Code) (b L : Nat) (xs : Nat → Int32) : Prop :=
  p.tables.exec = Jvm.exec ∧ c.code = code ∧ meth.sig.returnType = ret ∧ c.maxLocals = 9 ∧ s.vm.findClass R_law = some m.cls ∧ (∀ w ∈ lw_tbl, w.before #[Value.ref b] s = true) ∧ va_X b L xs s s.heap ∧ b < s.heap.size ∧ meth.locks = false ∧ (Jvm.Cond.and given_1 narrow_1).before #[Value.ref b] s = true
end
section
/-- the law's end: 1 on the stack, in its room -/
theorem am_law_ends {D : va_G} {dA : Nat → ClassId} {ad : Nat → Nat} {zz : Value} {Ln : Nat} {xs : Nat → Int32} {d : Nat} {p : Program} {l : Launch} {e : Env} {s : State} {m : MethodId} {below : List Frame} {meth : Method} {c : Code} {b : Nat} {h' : AH}
    (hx : p.tables.exec = Jvm.exec) (hb : c.code = code) (hr : meth.sig.returnType = ret) (hlocks : meth.locks = false) (hc : nc h' ≤ 601024) (hn : ns h' ≤ 7293033) :
    am_Ends D dA ad zz s.heap.size Ln xs d 264 p l e room_1 s m #[Value.ref b] below meth c [] 0 0 (lw_Z below #[Value.ref b] s) (.inl (some (.int 1))) h' := by
  refine ⟨?_, ?_, ?_⟩
  · intro pc ls H locs as i st v hd hR ho hX hW hS hVS hc9 hs9
    cases ho
    rcases hR with ⟨rfl, x, rfl, hv, hn9⟩ | ⟨rfl, x, rfl, hv, hm⟩ | ⟨rfl, x, rfl, hv, hm⟩ | ⟨rfl, x, rfl, hv, hx9, hm⟩ | ⟨rfl, rfl, hv, hm⟩
    · cases hv
      refine va_forget (fun q hq => hS.2.2 q hq) (W.widen (k := 601024) (n := 7293033) (by omega) (by omega) ?_)
      exact W.base (lw_ret (Drawn.sameBut.refl s.drawn lw_cs) hx hb hr hlocks hd)
    · cases hv
    · cases hv
    · cases hv
      rcases hx9 with h | ⟨a, h⟩ <;> cases h
    · cases hv
  · intro pc ix E ls H locs as st h1 hd ht ho
    cases ho
  · intro pc E ls H locs as rest q ce hm ho
    cases ho
theorem am_mB_law : mB 264 = code := rfl
/-- the claim's start, out of the abstract machine's run of the law -/
theorem am_law {f : Nat} {h' : AH} {p : Program} {e : Env} {s : State} {m : MethodId} {below : List Frame} {meth : Method} {c : Code} (l : Launch) (hflags : l.flags = flags0) {b L : Nat} {xs : Nat → Int32} (hL : L ≤ 3072) (C0 : lw_At p s m meth c b L xs)
    (hex : exec f 2000 264 0 (padL 9 [some (.ref 53)]) [] (am_h0 L xs) = some (.inl (some (.int 1)), h')) (hnc : nc h' ≤ 601024) (hns : ns h' ≤ 7293033) :
    W p l e room_1 s m #[Value.ref b] below meth c s.heap [] 0 0 (lw_Z below #[Value.ref b] s) (entryFrame m ([Value.ref b] : List Value).toArray 9) := by
  obtain ⟨hx, hb, hr, hml, hown, hT, hX, hbl, hlk, hgv⟩ := C0
  have hN : ∀ w ∈ am_nl, w.before #[Value.ref b] s = true := flat_of_before _ hgv
  obtain ⟨D, dA, hK⟩ := am_aK hT
  obtain ⟨⟨zz, hzz, hz⟩, hu1, hu2⟩ := am_aZ hT hN
  have hCF := am_aC hT hN rfl hL hX hz
  have htr : l.stackTraces = false := by
    first | (rw [Launch.stackTraces, hflags]; rfl) | (simp [Launch.stackTraces, hflags, flags0]; done)
  have hC : am_Cx l D dA (am_ads #[Value.ref b] s b) zz s.heap.size L xs 2000 264 p room_1 s m #[Value.ref b] meth c :=
    ⟨hx, by rw [am_mB_law]; exact hb, hml, hr, hlk, hown, htr, fun q => absurd q (by decide +kernel), Or.inl (by decide +kernel), ⟨by decide, by decide⟩, am_aV hT hN b, hK, hCF, ⟨Nat.le_refl _, by omega⟩, hzz, am_inj hN b, fun n hn => am_adb hN rfl hbl hn, hu1, hu2⟩
  have hE := am_law_ends (D := D) (dA := dA) (ad := am_ads #[Value.ref b] s b) (zz := zz) (Ln := L) (xs := xs) (d := 2000) (p := p) (l := l) (e := e) (s := s) (m := m) (below := below) (meth := meth) (c := c) (b := b) (h' := h') hx hb hr hlk hnc hns
  have hSim := am_body f l D dA (am_ads #[Value.ref b] s b) zz s.heap.size L xs 2000 264 p e room_1 s m #[Value.ref b] below meth c [] 0 0 _ 0 _ [] (am_h0 L xs) _ h' hC hE (by show nc h' ≤ 601024 + 0; omega) (by show ns h' ≤ 7293033 + 0; omega) hex
  have hent := am_entry (W := mW 264) (f := am_cv (am_ads #[Value.ref b] s b) zz []) (am_cat (am_zcat hzz)) (av := [Value.ref 53]) (n := 9) (by decide)
  have hb53 : am_phi (am_ads #[Value.ref b] s b) [] 53 = b := by
    unfold am_phi
    rw [if_pos (by decide)]
    exact am_s53 rfl (by decide +kernel)
  have he : ([Value.ref 53].map (am_cv (am_ads #[Value.ref b] s b) zz [])) = [Value.ref b] := by
    show [Value.ref (am_phi (am_ads #[Value.ref b] s b) [] 53)] = _
    rw [hb53]
  have hV : am_VL (nx (am_h0 L xs)) (padL 9 (mkL (mW 264) 0 [Value.ref 53])) := am_entry_V (fun v hv => by
    cases List.mem_singleton.mp hv
    show 53 < 200
    decide)
  rw [he] at hent
  rw [lg_entry_eq]
  exact hSim [] s.heap [] _ ⟨[], rfl⟩ am_aH va_S.rf hent hV (fun v hv => by cases hv) (Nat.zero_le _) (Nat.zero_le _)
end
section
/-! RUNS THAT END AS A PREDICATE SAYS (generated by gen_ok.py). -/
def Ok (d k pc : Nat) (L : ALs) (st : List Value) (h : AH) (Q : AO → AH → Prop) : Prop := ∃ f o h', exec f d k pc L st h = some (o, h') ∧ Q o h'
/-- a method's run -/
def Md (d k : Nat) (av : List Value) (h : AH) (Q : AO → AH → Prop) : Prop := ∃ f o h', aGo (exec f) d k av h = some (o, h') ∧ Q o h'
/-- with exactly this value and this heap -/
def Mx (d k : Nat) (av : List Value) (h : AH) (v : Option Value) (h' : AH) : Prop := ∃ f, aGo (exec f) d k av h = some (.inl v, h')
def am_of (i : Instr) (pc : Nat) : Option Nat := match i with
  | .goto off => am_tg pc off
  | .ifCond _ off => am_tg pc off
  | .if_icmp _ off => am_tg pc off
  | .if_acmp _ off => am_tg pc off
  | .ifnull off => am_tg pc off
  | .ifnonnull off => am_tg pc off
  | _ => none
def At (k pc : Nat) (i : Instr) (q : Nat) : Prop := decode (mB k) pc = .ok (i, q - pc) ∧ ilOK i (q - pc) = true ∧ pc + (q - pc) = q
def AtB (k pc : Nat) (i : Instr) (q t : Nat) : Prop := At k pc i q ∧ am_of i pc = some t
def AtF (k pc q ci j t : Nat) (kk : Nat) : Prop := ∃ ix, At k pc (.getfield ix) q ∧ fR (mC k) ix = some ((kk, ci), j, t)
def AtP (k pc q ci j t : Nat) : Prop := ∃ ix, At k pc (.putfield ix) q ∧ fR (mC k) ix = some ((0, ci), j, t) ∧ pfOK k ci j = true
def AtC (k pc q ik y na kc : Nat) (rk : Nat × Nat) : Prop := ∃ ix, ((ik = 0 ∧ At k pc (.invokestatic ix) q) ∨ (ik = 1 ∧ At k pc (.invokevirtual ix) q) ∨ (ik = 2 ∧ At k pc (.invokespecial ix) q)) ∧ cR (mC k) ix = some (y, na, kc, rk) ∧ ikOK ik kc = true
def AtS (k pc q : Nat) (v : Value) : Prop := (∃ ix, At k pc (.getstatic ix) q ∧ sR (mC k) ix = some v) ∨ (∃ ix a, At k pc (.ldc ix) q ∧ lR (mC k) ix = some (.ref a) ∧ v = .ref a) ∨ ∃ ix a, At k pc (.ldc2_w ix) q ∧ lR (mC k) ix = some (.long a) ∧ v = .long a
def AtN (k pc q ci n : Nat) : Prop := ∃ ix, At k pc (.new ix) q ∧ tR k pc = none ∧ nR (mC k) ix = some (ci, n)
def AtT (k pc E : Nat) : Prop := ∃ ix, At k pc (.new ix) (pc + 3) ∧ tR k pc = some E
def AtA (k pc q t : Nat) : Prop := (t = 1 ∧ At k pc (.newarray .int) q) ∨ (t = 2 ∧ At k pc (.newarray .long) q) ∨ (t = 3 ∧ At k pc (.newarray .byte) q) ∨ ∃ ix, At k pc (.anewarray ix) q ∧ aR (mC k) ix = some t
section OK
variable {d k pc q t j ci n kk y na kc ik E : Nat} {rk : Nat × Nat} {L : ALs} {st : List Value} {h h1 : AH} {Q P : AO → AH → Prop} {x z : Int32} {u w : Int64} {v v0 v1 v2 v3 v4 v5 v6 v7 v8 v9 v10 v11 : Value} {o0 o1 o2 o3 o4 o5 o6 o7 o8 o9 o10 o11 : Option Value} {r a : Nat}
theorem Ok.on {L' : ALs} {st' : List Value} {h' : AH} (e : aOne d k pc L st h = .inl (q, L', st', h')) (K : Ok d k q L' st' h' Q) : Ok d k pc L st h Q := by
  obtain ⟨f, o, h2, h3, h4⟩ := K
  exact ⟨f + 1, o, h2, by show aStep (exec f) d k pc L st h = _; unfold aStep; rw [e]; exact h3, h4⟩
theorem Ok.fin {o : AO} {h' : AH} (e : aOne d k pc L st h = .inr (.inr (some (o, h')))) (K : Q o h') : Ok d k pc L st h Q :=
  ⟨1, o, h', by show aStep (exec 0) d k pc L st h = _; unfold aStep; rw [e], K⟩
theorem Ok.mono {Q' : AO → AH → Prop} (K : Ok d k pc L st h Q) (hq : ∀ o h', Q o h' → Q' o h') : Ok d k pc L st h Q' := by
  obtain ⟨f, o, h2, h3, h4⟩ := K
  exact ⟨f, o, h2, h3, hq _ _ h4⟩
theorem Md.mono {av : List Value} {Q' : AO → AH → Prop} (K : Md d k av h Q) (hq : ∀ o h', Q o h' → Q' o h') : Md d k av h Q' := by
  obtain ⟨f, o, h2, h3, h4⟩ := K
  exact ⟨f, o, h2, h3, hq _ _ h4⟩
theorem Md.of {av : List Value} {L0 : ALs} (hl : (mkL (mW k) 0 av).length ≤ mL k) (e : padL (mL k) (mkL (mW k) 0 av) = L0) (K : Ok d k 0 L0 [] h Q) : Md (d + 1) k av h Q := by
  obtain ⟨f, o, h2, h3, h4⟩ := K
  refine ⟨f, o, h2, ?_, h4⟩
  show (if (mkL (mW k) 0 av).length ≤ mL k then exec f d k 0 (padL (mL k) (mkL (mW k) 0 av)) [] h else none) = _
  rw [if_pos hl, e]
  exact h3
theorem Mx.of {av : List Value} {L0 : ALs} {vo : Option Value} (hl : (mkL (mW k) 0 av).length ≤ mL k) (e : padL (mL k) (mkL (mW k) 0 av) = L0) (K : Ok d k 0 L0 [] h (fun o h' => o = .inl vo ∧ h' = h1)) : Mx (d + 1) k av h vo h1 := by
  obtain ⟨f, o, h2, h3, rfl, rfl⟩ := Md.of hl e K
  exact ⟨f, h3⟩
theorem Mx.md {av : List Value} {vo : Option Value} (K : Mx d k av h vo h1) : Md d k av h (fun o h' => o = .inl vo ∧ h' = h1) := by
  obtain ⟨f, h3⟩ := K
  exact ⟨f, _, _, h3, rfl, rfl⟩
theorem Md.mx {av : List Value} {vo : Option Value} (K : Md d k av h (fun o h' => o = .inl vo ∧ h' = h1)) : Mx d k av h vo h1 := by
  obtain ⟨f, o, h2, h3, rfl, rfl⟩ := K
  exact ⟨f, h3⟩
theorem atc_one (a : AtC k pc q ik y na kc rk) : aOne d k pc L st h = aInv ik d pc (q - pc) L st h (y, na, kc, rk) ∧ pc + (q - pc) = q ∧ ¬ ikOK ik kc = false := by
  obtain ⟨ix, a, b, hok⟩ := a
  have hk9 : ¬ ikOK ik kc = false := by rw [hok]; exact Bool.noConfusion
  rcases a with ⟨rfl, a⟩ | ⟨rfl, a⟩ | ⟨rfl, a⟩
  · exact ⟨by unfold aOne; rw [a.1]; dsimp only; rw [if_pos a.2.1, b], a.2.2, hk9⟩
  · exact ⟨by unfold aOne; rw [a.1]; dsimp only; rw [if_pos a.2.1, b], a.2.2, hk9⟩
  · exact ⟨by unfold aOne; rw [a.1]; dsimp only; rw [if_pos a.2.1, b], a.2.2, hk9⟩
theorem ok_null (a : At k pc .aconst_null q) (K : Ok d k q L (.null :: st) h Q) : Ok d k pc L (st) h Q := Ok.on (by unfold aOne; rw [a.1]; (try dsimp only); rw [if_pos a.2.1, a.2.2]) K
theorem ok_iconst {c : Int} (a : At k pc (.iconst c) q) (e : Int32.ofInt c = x) (K : Ok d k q L (.int x :: st) h Q) : Ok d k pc L st h Q := by subst e; exact Ok.on (by unfold aOne; rw [a.1]; (try dsimp only); rw [if_pos a.2.1, a.2.2]) K
theorem ok_bipush {c : Int} (a : At k pc (.bipush c) q) (e : (Int8.ofInt c).toInt32 = x) (K : Ok d k q L (.int x :: st) h Q) : Ok d k pc L st h Q := by subst e; exact Ok.on (by unfold aOne; rw [a.1]; (try dsimp only); rw [if_pos a.2.1, a.2.2]) K
theorem ok_sipush {c : Int} (a : At k pc (.sipush c) q) (e : (Int16.ofInt c).toInt32 = x) (K : Ok d k q L (.int x :: st) h Q) : Ok d k pc L st h Q := by subst e; exact Ok.on (by unfold aOne; rw [a.1]; (try dsimp only); rw [if_pos a.2.1, a.2.2]) K
theorem ok_lconst {c : Fin 2} (a : At k pc (.lconst c) q) (e : Int64.ofNat (c : Nat) = u) (K : Ok d k q L (.long u :: st) h Q) : Ok d k pc L st h Q := by subst e; exact Ok.on (by unfold aOne; rw [a.1]; (try dsimp only); rw [if_pos a.2.1, a.2.2]) K
theorem ok_dconst (a : At k pc (.dconst 0) q) (K : Ok d k q L (.double 0 :: st) h Q) : Ok d k pc L st h Q := Ok.on (by unfold aOne; rw [a.1]; (try dsimp only); rw [if_pos a.2.1, a.2.2, if_pos rfl]) K
theorem ok_iln0 (a : At k pc (.iload_n 0) q) (K : Ok d k q (some (.int x) :: L) (.int x :: st) h Q) : Ok d k pc (some (.int x) :: L) st h Q := Ok.on (by unfold aOne; rw [a.1]; (try dsimp only); rw [if_pos a.2.1, a.2.2]; first | rfl | (simp [ldA]; done) | (simp [ldA, hv]; done)) K
theorem ok_lln0 (a : At k pc (.lload_n 0) q) (K : Ok d k q (some (.long u) :: L) (.long u :: st) h Q) : Ok d k pc (some (.long u) :: L) st h Q := Ok.on (by unfold aOne; rw [a.1]; (try dsimp only); rw [if_pos a.2.1, a.2.2]; first | rfl | (simp [ldA]; done) | (simp [ldA, hv]; done)) K
theorem ok_aln0 (a : At k pc (.aload_n 0) q) (K : Ok d k q (some (.ref r) :: L) (.ref r :: st) h Q) : Ok d k pc (some (.ref r) :: L) st h Q := Ok.on (by unfold aOne; rw [a.1]; (try dsimp only); rw [if_pos a.2.1, a.2.2]; first | rfl | (simp [ldA]; done) | (simp [ldA, hv]; done)) K
theorem ok_anln0 (a : At k pc (.aload_n 0) q) (K : Ok d k q (some (.null) :: L) (.null :: st) h Q) : Ok d k pc (some (.null) :: L) st h Q := Ok.on (by unfold aOne; rw [a.1]; (try dsimp only); rw [if_pos a.2.1, a.2.2]; first | rfl | (simp [ldA]; done) | (simp [ldA, hv]; done)) K
theorem ok_iln1 (a : At k pc (.iload_n 1) q) (K : Ok d k q (o0 :: some (.int x) :: L) (.int x :: st) h Q) : Ok d k pc (o0 :: some (.int x) :: L) st h Q := Ok.on (by unfold aOne; rw [a.1]; (try dsimp only); rw [if_pos a.2.1, a.2.2]; first | rfl | (simp [ldA]; done) | (simp [ldA, hv]; done)) K
theorem ok_lln1 (a : At k pc (.lload_n 1) q) (K : Ok d k q (o0 :: some (.long u) :: L) (.long u :: st) h Q) : Ok d k pc (o0 :: some (.long u) :: L) st h Q := Ok.on (by unfold aOne; rw [a.1]; (try dsimp only); rw [if_pos a.2.1, a.2.2]; first | rfl | (simp [ldA]; done) | (simp [ldA, hv]; done)) K
theorem ok_aln1 (a : At k pc (.aload_n 1) q) (K : Ok d k q (o0 :: some (.ref r) :: L) (.ref r :: st) h Q) : Ok d k pc (o0 :: some (.ref r) :: L) st h Q := Ok.on (by unfold aOne; rw [a.1]; (try dsimp only); rw [if_pos a.2.1, a.2.2]; first | rfl | (simp [ldA]; done) | (simp [ldA, hv]; done)) K
theorem ok_anln1 (a : At k pc (.aload_n 1) q) (K : Ok d k q (o0 :: some (.null) :: L) (.null :: st) h Q) : Ok d k pc (o0 :: some (.null) :: L) st h Q := Ok.on (by unfold aOne; rw [a.1]; (try dsimp only); rw [if_pos a.2.1, a.2.2]; first | rfl | (simp [ldA]; done) | (simp [ldA, hv]; done)) K
theorem ok_iln2 (a : At k pc (.iload_n 2) q) (K : Ok d k q (o0 :: o1 :: some (.int x) :: L) (.int x :: st) h Q) : Ok d k pc (o0 :: o1 :: some (.int x) :: L) st h Q := Ok.on (by unfold aOne; rw [a.1]; (try dsimp only); rw [if_pos a.2.1, a.2.2]; first | rfl | (simp [ldA]; done) | (simp [ldA, hv]; done)) K
theorem ok_lln2 (a : At k pc (.lload_n 2) q) (K : Ok d k q (o0 :: o1 :: some (.long u) :: L) (.long u :: st) h Q) : Ok d k pc (o0 :: o1 :: some (.long u) :: L) st h Q := Ok.on (by unfold aOne; rw [a.1]; (try dsimp only); rw [if_pos a.2.1, a.2.2]; first | rfl | (simp [ldA]; done) | (simp [ldA, hv]; done)) K
theorem ok_aln2 (a : At k pc (.aload_n 2) q) (K : Ok d k q (o0 :: o1 :: some (.ref r) :: L) (.ref r :: st) h Q) : Ok d k pc (o0 :: o1 :: some (.ref r) :: L) st h Q := Ok.on (by unfold aOne; rw [a.1]; (try dsimp only); rw [if_pos a.2.1, a.2.2]; first | rfl | (simp [ldA]; done) | (simp [ldA, hv]; done)) K
theorem ok_anln2 (a : At k pc (.aload_n 2) q) (K : Ok d k q (o0 :: o1 :: some (.null) :: L) (.null :: st) h Q) : Ok d k pc (o0 :: o1 :: some (.null) :: L) st h Q := Ok.on (by unfold aOne; rw [a.1]; (try dsimp only); rw [if_pos a.2.1, a.2.2]; first | rfl | (simp [ldA]; done) | (simp [ldA, hv]; done)) K
theorem ok_iln3 (a : At k pc (.iload_n 3) q) (K : Ok d k q (o0 :: o1 :: o2 :: some (.int x) :: L) (.int x :: st) h Q) : Ok d k pc (o0 :: o1 :: o2 :: some (.int x) :: L) st h Q := Ok.on (by unfold aOne; rw [a.1]; (try dsimp only); rw [if_pos a.2.1, a.2.2]; first | rfl | (simp [ldA]; done) | (simp [ldA, hv]; done)) K
theorem ok_lln3 (a : At k pc (.lload_n 3) q) (K : Ok d k q (o0 :: o1 :: o2 :: some (.long u) :: L) (.long u :: st) h Q) : Ok d k pc (o0 :: o1 :: o2 :: some (.long u) :: L) st h Q := Ok.on (by unfold aOne; rw [a.1]; (try dsimp only); rw [if_pos a.2.1, a.2.2]; first | rfl | (simp [ldA]; done) | (simp [ldA, hv]; done)) K
theorem ok_aln3 (a : At k pc (.aload_n 3) q) (K : Ok d k q (o0 :: o1 :: o2 :: some (.ref r) :: L) (.ref r :: st) h Q) : Ok d k pc (o0 :: o1 :: o2 :: some (.ref r) :: L) st h Q := Ok.on (by unfold aOne; rw [a.1]; (try dsimp only); rw [if_pos a.2.1, a.2.2]; first | rfl | (simp [ldA]; done) | (simp [ldA, hv]; done)) K
theorem ok_anln3 (a : At k pc (.aload_n 3) q) (K : Ok d k q (o0 :: o1 :: o2 :: some (.null) :: L) (.null :: st) h Q) : Ok d k pc (o0 :: o1 :: o2 :: some (.null) :: L) st h Q := Ok.on (by unfold aOne; rw [a.1]; (try dsimp only); rw [if_pos a.2.1, a.2.2]; first | rfl | (simp [ldA]; done) | (simp [ldA, hv]; done)) K
theorem ok_il4 (a : At k pc (.iload 4) q) (K : Ok d k q (o0 :: o1 :: o2 :: o3 :: some (.int x) :: L) (.int x :: st) h Q) : Ok d k pc (o0 :: o1 :: o2 :: o3 :: some (.int x) :: L) st h Q := Ok.on (by unfold aOne; rw [a.1]; (try dsimp only); rw [if_pos a.2.1, a.2.2]; first | rfl | (simp [ldA]; done) | (simp [ldA, hv]; done)) K
theorem ok_ll4 (a : At k pc (.lload 4) q) (K : Ok d k q (o0 :: o1 :: o2 :: o3 :: some (.long u) :: L) (.long u :: st) h Q) : Ok d k pc (o0 :: o1 :: o2 :: o3 :: some (.long u) :: L) st h Q := Ok.on (by unfold aOne; rw [a.1]; (try dsimp only); rw [if_pos a.2.1, a.2.2]; first | rfl | (simp [ldA]; done) | (simp [ldA, hv]; done)) K
theorem ok_al4 (a : At k pc (.aload 4) q) (K : Ok d k q (o0 :: o1 :: o2 :: o3 :: some (.ref r) :: L) (.ref r :: st) h Q) : Ok d k pc (o0 :: o1 :: o2 :: o3 :: some (.ref r) :: L) st h Q := Ok.on (by unfold aOne; rw [a.1]; (try dsimp only); rw [if_pos a.2.1, a.2.2]; first | rfl | (simp [ldA]; done) | (simp [ldA, hv]; done)) K
theorem ok_anl4 (a : At k pc (.aload 4) q) (K : Ok d k q (o0 :: o1 :: o2 :: o3 :: some (.null) :: L) (.null :: st) h Q) : Ok d k pc (o0 :: o1 :: o2 :: o3 :: some (.null) :: L) st h Q := Ok.on (by unfold aOne; rw [a.1]; (try dsimp only); rw [if_pos a.2.1, a.2.2]; first | rfl | (simp [ldA]; done) | (simp [ldA, hv]; done)) K
theorem ok_il5 (a : At k pc (.iload 5) q) (K : Ok d k q (o0 :: o1 :: o2 :: o3 :: o4 :: some (.int x) :: L) (.int x :: st) h Q) : Ok d k pc (o0 :: o1 :: o2 :: o3 :: o4 :: some (.int x) :: L) st h Q := Ok.on (by unfold aOne; rw [a.1]; (try dsimp only); rw [if_pos a.2.1, a.2.2]; first | rfl | (simp [ldA]; done) | (simp [ldA, hv]; done)) K
theorem ok_ll5 (a : At k pc (.lload 5) q) (K : Ok d k q (o0 :: o1 :: o2 :: o3 :: o4 :: some (.long u) :: L) (.long u :: st) h Q) : Ok d k pc (o0 :: o1 :: o2 :: o3 :: o4 :: some (.long u) :: L) st h Q := Ok.on (by unfold aOne; rw [a.1]; (try dsimp only); rw [if_pos a.2.1, a.2.2]; first | rfl | (simp [ldA]; done) | (simp [ldA, hv]; done)) K
theorem ok_al5 (a : At k pc (.aload 5) q) (K : Ok d k q (o0 :: o1 :: o2 :: o3 :: o4 :: some (.ref r) :: L) (.ref r :: st) h Q) : Ok d k pc (o0 :: o1 :: o2 :: o3 :: o4 :: some (.ref r) :: L) st h Q := Ok.on (by unfold aOne; rw [a.1]; (try dsimp only); rw [if_pos a.2.1, a.2.2]; first | rfl | (simp [ldA]; done) | (simp [ldA, hv]; done)) K
theorem ok_anl5 (a : At k pc (.aload 5) q) (K : Ok d k q (o0 :: o1 :: o2 :: o3 :: o4 :: some (.null) :: L) (.null :: st) h Q) : Ok d k pc (o0 :: o1 :: o2 :: o3 :: o4 :: some (.null) :: L) st h Q := Ok.on (by unfold aOne; rw [a.1]; (try dsimp only); rw [if_pos a.2.1, a.2.2]; first | rfl | (simp [ldA]; done) | (simp [ldA, hv]; done)) K
theorem ok_il6 (a : At k pc (.iload 6) q) (K : Ok d k q (o0 :: o1 :: o2 :: o3 :: o4 :: o5 :: some (.int x) :: L) (.int x :: st) h Q) : Ok d k pc (o0 :: o1 :: o2 :: o3 :: o4 :: o5 :: some (.int x) :: L) st h Q := Ok.on (by unfold aOne; rw [a.1]; (try dsimp only); rw [if_pos a.2.1, a.2.2]; first | rfl | (simp [ldA]; done) | (simp [ldA, hv]; done)) K
theorem ok_ll6 (a : At k pc (.lload 6) q) (K : Ok d k q (o0 :: o1 :: o2 :: o3 :: o4 :: o5 :: some (.long u) :: L) (.long u :: st) h Q) : Ok d k pc (o0 :: o1 :: o2 :: o3 :: o4 :: o5 :: some (.long u) :: L) st h Q := Ok.on (by unfold aOne; rw [a.1]; (try dsimp only); rw [if_pos a.2.1, a.2.2]; first | rfl | (simp [ldA]; done) | (simp [ldA, hv]; done)) K
theorem ok_al6 (a : At k pc (.aload 6) q) (K : Ok d k q (o0 :: o1 :: o2 :: o3 :: o4 :: o5 :: some (.ref r) :: L) (.ref r :: st) h Q) : Ok d k pc (o0 :: o1 :: o2 :: o3 :: o4 :: o5 :: some (.ref r) :: L) st h Q := Ok.on (by unfold aOne; rw [a.1]; (try dsimp only); rw [if_pos a.2.1, a.2.2]; first | rfl | (simp [ldA]; done) | (simp [ldA, hv]; done)) K
theorem ok_anl6 (a : At k pc (.aload 6) q) (K : Ok d k q (o0 :: o1 :: o2 :: o3 :: o4 :: o5 :: some (.null) :: L) (.null :: st) h Q) : Ok d k pc (o0 :: o1 :: o2 :: o3 :: o4 :: o5 :: some (.null) :: L) st h Q := Ok.on (by unfold aOne; rw [a.1]; (try dsimp only); rw [if_pos a.2.1, a.2.2]; first | rfl | (simp [ldA]; done) | (simp [ldA, hv]; done)) K
theorem ok_il7 (a : At k pc (.iload 7) q) (K : Ok d k q (o0 :: o1 :: o2 :: o3 :: o4 :: o5 :: o6 :: some (.int x) :: L) (.int x :: st) h Q) : Ok d k pc (o0 :: o1 :: o2 :: o3 :: o4 :: o5 :: o6 :: some (.int x) :: L) st h Q := Ok.on (by unfold aOne; rw [a.1]; (try dsimp only); rw [if_pos a.2.1, a.2.2]; first | rfl | (simp [ldA]; done) | (simp [ldA, hv]; done)) K
theorem ok_ll7 (a : At k pc (.lload 7) q) (K : Ok d k q (o0 :: o1 :: o2 :: o3 :: o4 :: o5 :: o6 :: some (.long u) :: L) (.long u :: st) h Q) : Ok d k pc (o0 :: o1 :: o2 :: o3 :: o4 :: o5 :: o6 :: some (.long u) :: L) st h Q := Ok.on (by unfold aOne; rw [a.1]; (try dsimp only); rw [if_pos a.2.1, a.2.2]; first | rfl | (simp [ldA]; done) | (simp [ldA, hv]; done)) K
theorem ok_al7 (a : At k pc (.aload 7) q) (K : Ok d k q (o0 :: o1 :: o2 :: o3 :: o4 :: o5 :: o6 :: some (.ref r) :: L) (.ref r :: st) h Q) : Ok d k pc (o0 :: o1 :: o2 :: o3 :: o4 :: o5 :: o6 :: some (.ref r) :: L) st h Q := Ok.on (by unfold aOne; rw [a.1]; (try dsimp only); rw [if_pos a.2.1, a.2.2]; first | rfl | (simp [ldA]; done) | (simp [ldA, hv]; done)) K
theorem ok_anl7 (a : At k pc (.aload 7) q) (K : Ok d k q (o0 :: o1 :: o2 :: o3 :: o4 :: o5 :: o6 :: some (.null) :: L) (.null :: st) h Q) : Ok d k pc (o0 :: o1 :: o2 :: o3 :: o4 :: o5 :: o6 :: some (.null) :: L) st h Q := Ok.on (by unfold aOne; rw [a.1]; (try dsimp only); rw [if_pos a.2.1, a.2.2]; first | rfl | (simp [ldA]; done) | (simp [ldA, hv]; done)) K
theorem ok_il8 (a : At k pc (.iload 8) q) (K : Ok d k q (o0 :: o1 :: o2 :: o3 :: o4 :: o5 :: o6 :: o7 :: some (.int x) :: L) (.int x :: st) h Q) : Ok d k pc (o0 :: o1 :: o2 :: o3 :: o4 :: o5 :: o6 :: o7 :: some (.int x) :: L) st h Q := Ok.on (by unfold aOne; rw [a.1]; (try dsimp only); rw [if_pos a.2.1, a.2.2]; first | rfl | (simp [ldA]; done) | (simp [ldA, hv]; done)) K
theorem ok_ll8 (a : At k pc (.lload 8) q) (K : Ok d k q (o0 :: o1 :: o2 :: o3 :: o4 :: o5 :: o6 :: o7 :: some (.long u) :: L) (.long u :: st) h Q) : Ok d k pc (o0 :: o1 :: o2 :: o3 :: o4 :: o5 :: o6 :: o7 :: some (.long u) :: L) st h Q := Ok.on (by unfold aOne; rw [a.1]; (try dsimp only); rw [if_pos a.2.1, a.2.2]; first | rfl | (simp [ldA]; done) | (simp [ldA, hv]; done)) K
theorem ok_al8 (a : At k pc (.aload 8) q) (K : Ok d k q (o0 :: o1 :: o2 :: o3 :: o4 :: o5 :: o6 :: o7 :: some (.ref r) :: L) (.ref r :: st) h Q) : Ok d k pc (o0 :: o1 :: o2 :: o3 :: o4 :: o5 :: o6 :: o7 :: some (.ref r) :: L) st h Q := Ok.on (by unfold aOne; rw [a.1]; (try dsimp only); rw [if_pos a.2.1, a.2.2]; first | rfl | (simp [ldA]; done) | (simp [ldA, hv]; done)) K
theorem ok_anl8 (a : At k pc (.aload 8) q) (K : Ok d k q (o0 :: o1 :: o2 :: o3 :: o4 :: o5 :: o6 :: o7 :: some (.null) :: L) (.null :: st) h Q) : Ok d k pc (o0 :: o1 :: o2 :: o3 :: o4 :: o5 :: o6 :: o7 :: some (.null) :: L) st h Q := Ok.on (by unfold aOne; rw [a.1]; (try dsimp only); rw [if_pos a.2.1, a.2.2]; first | rfl | (simp [ldA]; done) | (simp [ldA, hv]; done)) K
theorem ok_il9 (a : At k pc (.iload 9) q) (K : Ok d k q (o0 :: o1 :: o2 :: o3 :: o4 :: o5 :: o6 :: o7 :: o8 :: some (.int x) :: L) (.int x :: st) h Q) : Ok d k pc (o0 :: o1 :: o2 :: o3 :: o4 :: o5 :: o6 :: o7 :: o8 :: some (.int x) :: L) st h Q := Ok.on (by unfold aOne; rw [a.1]; (try dsimp only); rw [if_pos a.2.1, a.2.2]; first | rfl | (simp [ldA]; done) | (simp [ldA, hv]; done)) K
theorem ok_ll9 (a : At k pc (.lload 9) q) (K : Ok d k q (o0 :: o1 :: o2 :: o3 :: o4 :: o5 :: o6 :: o7 :: o8 :: some (.long u) :: L) (.long u :: st) h Q) : Ok d k pc (o0 :: o1 :: o2 :: o3 :: o4 :: o5 :: o6 :: o7 :: o8 :: some (.long u) :: L) st h Q := Ok.on (by unfold aOne; rw [a.1]; (try dsimp only); rw [if_pos a.2.1, a.2.2]; first | rfl | (simp [ldA]; done) | (simp [ldA, hv]; done)) K
theorem ok_al9 (a : At k pc (.aload 9) q) (K : Ok d k q (o0 :: o1 :: o2 :: o3 :: o4 :: o5 :: o6 :: o7 :: o8 :: some (.ref r) :: L) (.ref r :: st) h Q) : Ok d k pc (o0 :: o1 :: o2 :: o3 :: o4 :: o5 :: o6 :: o7 :: o8 :: some (.ref r) :: L) st h Q := Ok.on (by unfold aOne; rw [a.1]; (try dsimp only); rw [if_pos a.2.1, a.2.2]; first | rfl | (simp [ldA]; done) | (simp [ldA, hv]; done)) K
theorem ok_anl9 (a : At k pc (.aload 9) q) (K : Ok d k q (o0 :: o1 :: o2 :: o3 :: o4 :: o5 :: o6 :: o7 :: o8 :: some (.null) :: L) (.null :: st) h Q) : Ok d k pc (o0 :: o1 :: o2 :: o3 :: o4 :: o5 :: o6 :: o7 :: o8 :: some (.null) :: L) st h Q := Ok.on (by unfold aOne; rw [a.1]; (try dsimp only); rw [if_pos a.2.1, a.2.2]; first | rfl | (simp [ldA]; done) | (simp [ldA, hv]; done)) K
theorem ok_il10 (a : At k pc (.iload 10) q) (K : Ok d k q (o0 :: o1 :: o2 :: o3 :: o4 :: o5 :: o6 :: o7 :: o8 :: o9 :: some (.int x) :: L) (.int x :: st) h Q) : Ok d k pc (o0 :: o1 :: o2 :: o3 :: o4 :: o5 :: o6 :: o7 :: o8 :: o9 :: some (.int x) :: L) st h Q := Ok.on (by unfold aOne; rw [a.1]; (try dsimp only); rw [if_pos a.2.1, a.2.2]; first | rfl | (simp [ldA]; done) | (simp [ldA, hv]; done)) K
theorem ok_ll10 (a : At k pc (.lload 10) q) (K : Ok d k q (o0 :: o1 :: o2 :: o3 :: o4 :: o5 :: o6 :: o7 :: o8 :: o9 :: some (.long u) :: L) (.long u :: st) h Q) : Ok d k pc (o0 :: o1 :: o2 :: o3 :: o4 :: o5 :: o6 :: o7 :: o8 :: o9 :: some (.long u) :: L) st h Q := Ok.on (by unfold aOne; rw [a.1]; (try dsimp only); rw [if_pos a.2.1, a.2.2]; first | rfl | (simp [ldA]; done) | (simp [ldA, hv]; done)) K
theorem ok_al10 (a : At k pc (.aload 10) q) (K : Ok d k q (o0 :: o1 :: o2 :: o3 :: o4 :: o5 :: o6 :: o7 :: o8 :: o9 :: some (.ref r) :: L) (.ref r :: st) h Q) : Ok d k pc (o0 :: o1 :: o2 :: o3 :: o4 :: o5 :: o6 :: o7 :: o8 :: o9 :: some (.ref r) :: L) st h Q := Ok.on (by unfold aOne; rw [a.1]; (try dsimp only); rw [if_pos a.2.1, a.2.2]; first | rfl | (simp [ldA]; done) | (simp [ldA, hv]; done)) K
theorem ok_anl10 (a : At k pc (.aload 10) q) (K : Ok d k q (o0 :: o1 :: o2 :: o3 :: o4 :: o5 :: o6 :: o7 :: o8 :: o9 :: some (.null) :: L) (.null :: st) h Q) : Ok d k pc (o0 :: o1 :: o2 :: o3 :: o4 :: o5 :: o6 :: o7 :: o8 :: o9 :: some (.null) :: L) st h Q := Ok.on (by unfold aOne; rw [a.1]; (try dsimp only); rw [if_pos a.2.1, a.2.2]; first | rfl | (simp [ldA]; done) | (simp [ldA, hv]; done)) K
theorem ok_il11 (a : At k pc (.iload 11) q) (K : Ok d k q (o0 :: o1 :: o2 :: o3 :: o4 :: o5 :: o6 :: o7 :: o8 :: o9 :: o10 :: some (.int x) :: L) (.int x :: st) h Q) : Ok d k pc (o0 :: o1 :: o2 :: o3 :: o4 :: o5 :: o6 :: o7 :: o8 :: o9 :: o10 :: some (.int x) :: L) st h Q := Ok.on (by unfold aOne; rw [a.1]; (try dsimp only); rw [if_pos a.2.1, a.2.2]; first | rfl | (simp [ldA]; done) | (simp [ldA, hv]; done)) K
theorem ok_ll11 (a : At k pc (.lload 11) q) (K : Ok d k q (o0 :: o1 :: o2 :: o3 :: o4 :: o5 :: o6 :: o7 :: o8 :: o9 :: o10 :: some (.long u) :: L) (.long u :: st) h Q) : Ok d k pc (o0 :: o1 :: o2 :: o3 :: o4 :: o5 :: o6 :: o7 :: o8 :: o9 :: o10 :: some (.long u) :: L) st h Q := Ok.on (by unfold aOne; rw [a.1]; (try dsimp only); rw [if_pos a.2.1, a.2.2]; first | rfl | (simp [ldA]; done) | (simp [ldA, hv]; done)) K
theorem ok_al11 (a : At k pc (.aload 11) q) (K : Ok d k q (o0 :: o1 :: o2 :: o3 :: o4 :: o5 :: o6 :: o7 :: o8 :: o9 :: o10 :: some (.ref r) :: L) (.ref r :: st) h Q) : Ok d k pc (o0 :: o1 :: o2 :: o3 :: o4 :: o5 :: o6 :: o7 :: o8 :: o9 :: o10 :: some (.ref r) :: L) st h Q := Ok.on (by unfold aOne; rw [a.1]; (try dsimp only); rw [if_pos a.2.1, a.2.2]; first | rfl | (simp [ldA]; done) | (simp [ldA, hv]; done)) K
theorem ok_anl11 (a : At k pc (.aload 11) q) (K : Ok d k q (o0 :: o1 :: o2 :: o3 :: o4 :: o5 :: o6 :: o7 :: o8 :: o9 :: o10 :: some (.null) :: L) (.null :: st) h Q) : Ok d k pc (o0 :: o1 :: o2 :: o3 :: o4 :: o5 :: o6 :: o7 :: o8 :: o9 :: o10 :: some (.null) :: L) st h Q := Ok.on (by unfold aOne; rw [a.1]; (try dsimp only); rw [if_pos a.2.1, a.2.2]; first | rfl | (simp [ldA]; done) | (simp [ldA, hv]; done)) K
theorem ok_dload {g : UInt64} (a : At k pc (.dload j) q) (e : ldA L j = some (.double g)) (K : Ok d k q L (.double g :: st) h Q) : Ok d k pc L st h Q := Ok.on (by unfold aOne; rw [a.1]; (try dsimp only); rw [if_pos a.2.1, a.2.2, e]) K
theorem ok_isn {j : Fin 4} {L1 : ALs} (a : At k pc (.istore_n j) q) (c : (j : Nat) < mL k) (e : st1 (mW k) L (j : Nat) (some (.int x)) = L1) (K : Ok d k q L1 st h Q) : Ok d k pc L (.int x :: st) h Q := by subst e; exact Ok.on (by unfold aOne; rw [a.1]; (try dsimp only); rw [if_pos a.2.1, a.2.2, if_pos c]) K
theorem ok_asn {j : Fin 4} {L1 : ALs} (a : At k pc (.astore_n j) q) (c : (j : Nat) < mL k) (e : st1 (mW k) L (j : Nat) (some (.ref r)) = L1) (K : Ok d k q L1 st h Q) : Ok d k pc L (.ref r :: st) h Q := by subst e; exact Ok.on (by unfold aOne; rw [a.1]; (try dsimp only); rw [if_pos a.2.1, a.2.2, if_pos ⟨rfl, c⟩]) K
theorem ok_azn {j : Fin 4} {L1 : ALs} (a : At k pc (.astore_n j) q) (c : (j : Nat) < mL k) (e : st1 (mW k) L (j : Nat) (some .null) = L1) (K : Ok d k q L1 st h Q) : Ok d k pc L (.null :: st) h Q := by subst e; exact Ok.on (by unfold aOne; rw [a.1]; (try dsimp only); rw [if_pos a.2.1, a.2.2, if_pos ⟨rfl, c⟩]) K
theorem ok_lsn {j : Fin 4} {L1 : ALs} (a : At k pc (.lstore_n j) q) (c : (j : Nat) + 1 < mL k ∧ (mW k).contains (j : Nat)) (e : st2 (mW k) L (j : Nat) (.long u) = L1) (K : Ok d k q L1 st h Q) : Ok d k pc L (.long u :: st) h Q := by subst e; exact Ok.on (by unfold aOne; rw [a.1]; (try dsimp only); rw [if_pos a.2.1, a.2.2, if_pos c]) K
theorem ok_is {L1 : ALs} (a : At k pc (.istore j) q) (c : j < mL k) (e : st1 (mW k) L j (some (.int x)) = L1) (K : Ok d k q L1 st h Q) : Ok d k pc L (.int x :: st) h Q := by subst e; exact Ok.on (by unfold aOne; rw [a.1]; (try dsimp only); rw [if_pos a.2.1, a.2.2, if_pos c]) K
theorem ok_as {L1 : ALs} (a : At k pc (.astore j) q) (c : j < mL k) (e : st1 (mW k) L j (some (.ref r)) = L1) (K : Ok d k q L1 st h Q) : Ok d k pc L (.ref r :: st) h Q := by subst e; exact Ok.on (by unfold aOne; rw [a.1]; (try dsimp only); rw [if_pos a.2.1, a.2.2, if_pos ⟨rfl, c⟩]) K
theorem ok_az {L1 : ALs} (a : At k pc (.astore j) q) (c : j < mL k) (e : st1 (mW k) L j (some .null) = L1) (K : Ok d k q L1 st h Q) : Ok d k pc L (.null :: st) h Q := by subst e; exact Ok.on (by unfold aOne; rw [a.1]; (try dsimp only); rw [if_pos a.2.1, a.2.2, if_pos ⟨rfl, c⟩]) K
theorem ok_ls {L1 : ALs} (a : At k pc (.lstore j) q) (c : j + 1 < mL k ∧ (mW k).contains j) (e : st2 (mW k) L j (.long u) = L1) (K : Ok d k q L1 st h Q) : Ok d k pc L (.long u :: st) h Q := by subst e; exact Ok.on (by unfold aOne; rw [a.1]; (try dsimp only); rw [if_pos a.2.1, a.2.2, if_pos c]) K
theorem ok_ds {g : UInt64} {L1 : ALs} (a : At k pc (.dstore j) q) (c : j + 1 < mL k ∧ (mW k).contains j) (e : st2 (mW k) L j (.double g) = L1) (K : Ok d k q L1 st h Q) : Ok d k pc L (.double g :: st) h Q := by subst e; exact Ok.on (by unfold aOne; rw [a.1]; (try dsimp only); rw [if_pos a.2.1, a.2.2, if_pos c]) K
theorem ok_iinc {L1 : ALs} {c : Int} (a : At k pc (.iinc j c) q) (e0 : ldA L j = some (.int x)) (e1 : j < mL k) (e2 : x + Int32.ofInt c = z) (e : st1 (mW k) L j (some (.int z)) = L1) (K : Ok d k q L1 st h Q) : Ok d k pc L st h Q := by subst e e2; exact Ok.on (by unfold aOne; rw [a.1]; (try dsimp only); rw [if_pos a.2.1, a.2.2, e0]; (try dsimp only); rw [if_pos e1]) K
theorem ok_dupi (a : At k pc .dup q) (K : Ok d k q L (.int x :: .int x :: st) h Q) : Ok d k pc L (.int x :: st) h Q := Ok.on (by unfold aOne; rw [a.1]; (try dsimp only); rw [if_pos a.2.1, a.2.2]) K
theorem ok_dupr (a : At k pc .dup q) (K : Ok d k q L (.ref r :: .ref r :: st) h Q) : Ok d k pc L (.ref r :: st) h Q := Ok.on (by unfold aOne; rw [a.1]; (try dsimp only); rw [if_pos a.2.1, a.2.2]) K
theorem ok_popi (a : At k pc .pop q) (K : Ok d k q L (st) h Q) : Ok d k pc L (.int x :: st) h Q := Ok.on (by unfold aOne; rw [a.1]; (try dsimp only); rw [if_pos a.2.1, a.2.2]) K
theorem ok_popr (a : At k pc .pop q) (K : Ok d k q L (st) h Q) : Ok d k pc L (.ref r :: st) h Q := Ok.on (by unfold aOne; rw [a.1]; (try dsimp only); rw [if_pos a.2.1, a.2.2]) K
theorem ok_iadd (a : At k pc .iadd q) (K : Ok d k q L (.int (x + z) :: st) h Q) : Ok d k pc L (.int z :: .int x :: st) h Q := Ok.on (by unfold aOne; rw [a.1]; (try dsimp only); rw [if_pos a.2.1, a.2.2]) K
theorem ok_isub (a : At k pc .isub q) (K : Ok d k q L (.int (x - z) :: st) h Q) : Ok d k pc L (.int z :: .int x :: st) h Q := Ok.on (by unfold aOne; rw [a.1]; (try dsimp only); rw [if_pos a.2.1, a.2.2]) K
theorem ok_imul (a : At k pc .imul q) (K : Ok d k q L (.int (x * z) :: st) h Q) : Ok d k pc L (.int z :: .int x :: st) h Q := Ok.on (by unfold aOne; rw [a.1]; (try dsimp only); rw [if_pos a.2.1, a.2.2]) K
theorem ok_iand (a : At k pc .iand q) (K : Ok d k q L (.int (x &&& z) :: st) h Q) : Ok d k pc L (.int z :: .int x :: st) h Q := Ok.on (by unfold aOne; rw [a.1]; (try dsimp only); rw [if_pos a.2.1, a.2.2]) K
theorem ok_ior (a : At k pc .ior q) (K : Ok d k q L (.int (x ||| z) :: st) h Q) : Ok d k pc L (.int z :: .int x :: st) h Q := Ok.on (by unfold aOne; rw [a.1]; (try dsimp only); rw [if_pos a.2.1, a.2.2]) K
theorem ok_ishr (a : At k pc .ishr q) (K : Ok d k q L (.int (x >>> (z &&& 31)) :: st) h Q) : Ok d k pc L (.int z :: .int x :: st) h Q := Ok.on (by unfold aOne; rw [a.1]; (try dsimp only); rw [if_pos a.2.1, a.2.2]) K
theorem ok_iushr (a : At k pc .iushr q) (K : Ok d k q L (.int ((x.toUInt32 >>> (z.toUInt32 &&& Int32.toUInt32 31)).toInt32) :: st) h Q) : Ok d k pc L (.int z :: .int x :: st) h Q := Ok.on (by unfold aOne; rw [a.1]; (try dsimp only); rw [if_pos a.2.1, a.2.2]) K
theorem ok_idiv (a : At k pc .idiv q) (c : ¬ z = 0) (K : Ok d k q L (.int (x / z) :: st) h Q) : Ok d k pc L (.int z :: .int x :: st) h Q := Ok.on (by unfold aOne; rw [a.1]; (try dsimp only); rw [if_pos a.2.1, a.2.2, if_neg c]) K
theorem ok_irem (a : At k pc .irem q) (c : ¬ z = 0) (K : Ok d k q L (.int (x - x / z * z) :: st) h Q) : Ok d k pc L (.int z :: .int x :: st) h Q := Ok.on (by unfold aOne; rw [a.1]; (try dsimp only); rw [if_pos a.2.1, a.2.2, if_neg c]) K
theorem ok_ineg (a : At k pc .ineg q) (K : Ok d k q L (.int (-x) :: st) h Q) : Ok d k pc L (.int x :: st) h Q := Ok.on (by unfold aOne; rw [a.1]; (try dsimp only); rw [if_pos a.2.1, a.2.2]) K
theorem ok_ladd (a : At k pc .ladd q) (K : Ok d k q L (.long (u + w) :: st) h Q) : Ok d k pc L (.long w :: .long u :: st) h Q := Ok.on (by unfold aOne; rw [a.1]; (try dsimp only); rw [if_pos a.2.1, a.2.2]) K
theorem ok_lmul (a : At k pc .lmul q) (K : Ok d k q L (.long (u * w) :: st) h Q) : Ok d k pc L (.long w :: .long u :: st) h Q := Ok.on (by unfold aOne; rw [a.1]; (try dsimp only); rw [if_pos a.2.1, a.2.2]) K
theorem ok_lcmp (a : At k pc .lcmp q) (K : Ok d k q L (.int (lg_cmp u w) :: st) h Q) : Ok d k pc L (.long w :: .long u :: st) h Q := Ok.on (by unfold aOne; rw [a.1]; (try dsimp only); rw [if_pos a.2.1, a.2.2]) K
theorem ok_i2l (a : At k pc .i2l q) (K : Ok d k q L (.long x.toInt64 :: st) h Q) : Ok d k pc L (.int x :: st) h Q := Ok.on (by unfold aOne; rw [a.1]; (try dsimp only); rw [if_pos a.2.1, a.2.2]) K
theorem ok_l2i (a : At k pc .l2i q) (K : Ok d k q L (.int u.toInt32 :: st) h Q) : Ok d k pc L (.long u :: st) h Q := Ok.on (by unfold aOne; rw [a.1]; (try dsimp only); rw [if_pos a.2.1, a.2.2]) K
theorem ok_i2b (a : At k pc .i2b q) (K : Ok d k q L (.int x.toInt8.toInt32 :: st) h Q) : Ok d k pc L (.int x :: st) h Q := Ok.on (by unfold aOne; rw [a.1]; (try dsimp only); rw [if_pos a.2.1, a.2.2]) K
theorem ok_i2c (a : At k pc .i2c q) (K : Ok d k q L (.int (x.toUInt32 % 65536).toInt32 :: st) h Q) : Ok d k pc L (.int x :: st) h Q := Ok.on (by unfold aOne; rw [a.1]; (try dsimp only); rw [if_pos a.2.1, a.2.2]) K
theorem ok_i2d (a : At k pc .i2d q) (K : Ok d k q L (.double (FP.i2d x) :: st) h Q) : Ok d k pc L (.int x :: st) h Q := Ok.on (by unfold aOne; rw [a.1]; (try dsimp only); rw [if_pos a.2.1, a.2.2]) K
theorem ok_ddiv {g e : UInt64} (a : At k pc .ddiv q) (c : FP.ddiv e g &&& 0x7fffffffffffffff ≤ 0x7ff0000000000000) (K : Ok d k q L (.double (FP.ddiv e g) :: st) h Q) : Ok d k pc L (.double g :: .double e :: st) h Q := Ok.on (by unfold aOne; rw [a.1]; (try dsimp only); rw [if_pos a.2.1, a.2.2, if_pos c]) K
theorem ok_dcmp {g e : UInt64} {op : CmpOp} (a : At k pc (.dcmp op) q) (K : Ok d k q L (.int (Op.cmpValue (FP.dcmp e g) op) :: st) h Q) : Ok d k pc L (.double g :: .double e :: st) h Q := Ok.on (by unfold aOne; rw [a.1]; (try dsimp only); rw [if_pos a.2.1, a.2.2]) K
theorem ok_goto {off : Int} (a : AtB k pc (.goto off) q t) (K : Ok d k t L st h Q) : Ok d k pc L st h Q := Ok.on (by obtain ⟨a, b⟩ := a; unfold aOne; rw [a.1]; (try dsimp only); rw [if_pos a.2.1]; unfold am_of at b; dsimp only at b; rw [b]) K
theorem ok_ifeq_t {off : Int} (a : AtB k pc (.ifCond .eq off) q t) (c : x = 0) (K : Ok d k t L st h Q) : Ok d k pc L (.int x :: st) h Q := Ok.on (by obtain ⟨a, b⟩ := a; unfold aOne; rw [a.1]; (try dsimp only); rw [if_pos a.2.1]; unfold am_of at b; dsimp only at b; unfold aIf; rw [b]; (try dsimp only); rw [if_pos c]) K
theorem ok_ifeq_f {off : Int} (a : AtB k pc (.ifCond .eq off) q t) (c : ¬ (x = 0)) (K : Ok d k q L st h Q) : Ok d k pc L (.int x :: st) h Q := Ok.on (by obtain ⟨a, b⟩ := a; unfold aOne; rw [a.1]; (try dsimp only); rw [if_pos a.2.1]; unfold am_of at b; dsimp only at b; unfold aIf; rw [b]; (try dsimp only); rw [if_neg c, a.2.2]) K
theorem ok_ifeq {off : Int} (a : AtB k pc (.ifCond .eq off) q t) (K1 : x = 0 → Ok d k t L st h Q) (K2 : ¬ (x = 0) → Ok d k q L st h Q) : Ok d k pc L (.int x :: st) h Q := (Classical.em (x = 0)).elim (fun c => ok_ifeq_t a c (K1 c)) (fun c => ok_ifeq_f a c (K2 c))
theorem ok_ifne_t {off : Int} (a : AtB k pc (.ifCond .ne off) q t) (c : ¬ x = 0) (K : Ok d k t L st h Q) : Ok d k pc L (.int x :: st) h Q := Ok.on (by obtain ⟨a, b⟩ := a; unfold aOne; rw [a.1]; (try dsimp only); rw [if_pos a.2.1]; unfold am_of at b; dsimp only at b; unfold aIf; rw [b]; (try dsimp only); rw [if_pos c]) K
theorem ok_ifne_f {off : Int} (a : AtB k pc (.ifCond .ne off) q t) (c : ¬ (¬ x = 0)) (K : Ok d k q L st h Q) : Ok d k pc L (.int x :: st) h Q := Ok.on (by obtain ⟨a, b⟩ := a; unfold aOne; rw [a.1]; (try dsimp only); rw [if_pos a.2.1]; unfold am_of at b; dsimp only at b; unfold aIf; rw [b]; (try dsimp only); rw [if_neg c, a.2.2]) K
theorem ok_ifne {off : Int} (a : AtB k pc (.ifCond .ne off) q t) (K1 : ¬ x = 0 → Ok d k t L st h Q) (K2 : ¬ (¬ x = 0) → Ok d k q L st h Q) : Ok d k pc L (.int x :: st) h Q := (Classical.em (¬ x = 0)).elim (fun c => ok_ifne_t a c (K1 c)) (fun c => ok_ifne_f a c (K2 c))
theorem ok_iflt_t {off : Int} (a : AtB k pc (.ifCond .lt off) q t) (c : x < 0) (K : Ok d k t L st h Q) : Ok d k pc L (.int x :: st) h Q := Ok.on (by obtain ⟨a, b⟩ := a; unfold aOne; rw [a.1]; (try dsimp only); rw [if_pos a.2.1]; unfold am_of at b; dsimp only at b; unfold aIf; rw [b]; (try dsimp only); rw [if_pos c]) K
theorem ok_iflt_f {off : Int} (a : AtB k pc (.ifCond .lt off) q t) (c : ¬ (x < 0)) (K : Ok d k q L st h Q) : Ok d k pc L (.int x :: st) h Q := Ok.on (by obtain ⟨a, b⟩ := a; unfold aOne; rw [a.1]; (try dsimp only); rw [if_pos a.2.1]; unfold am_of at b; dsimp only at b; unfold aIf; rw [b]; (try dsimp only); rw [if_neg c, a.2.2]) K
theorem ok_iflt {off : Int} (a : AtB k pc (.ifCond .lt off) q t) (K1 : x < 0 → Ok d k t L st h Q) (K2 : ¬ (x < 0) → Ok d k q L st h Q) : Ok d k pc L (.int x :: st) h Q := (Classical.em (x < 0)).elim (fun c => ok_iflt_t a c (K1 c)) (fun c => ok_iflt_f a c (K2 c))
theorem ok_ifge_t {off : Int} (a : AtB k pc (.ifCond .ge off) q t) (c : 0 ≤ x) (K : Ok d k t L st h Q) : Ok d k pc L (.int x :: st) h Q := Ok.on (by obtain ⟨a, b⟩ := a; unfold aOne; rw [a.1]; (try dsimp only); rw [if_pos a.2.1]; unfold am_of at b; dsimp only at b; unfold aIf; rw [b]; (try dsimp only); rw [if_pos c]) K
theorem ok_ifge_f {off : Int} (a : AtB k pc (.ifCond .ge off) q t) (c : ¬ (0 ≤ x)) (K : Ok d k q L st h Q) : Ok d k pc L (.int x :: st) h Q := Ok.on (by obtain ⟨a, b⟩ := a; unfold aOne; rw [a.1]; (try dsimp only); rw [if_pos a.2.1]; unfold am_of at b; dsimp only at b; unfold aIf; rw [b]; (try dsimp only); rw [if_neg c, a.2.2]) K
theorem ok_ifge {off : Int} (a : AtB k pc (.ifCond .ge off) q t) (K1 : 0 ≤ x → Ok d k t L st h Q) (K2 : ¬ (0 ≤ x) → Ok d k q L st h Q) : Ok d k pc L (.int x :: st) h Q := (Classical.em (0 ≤ x)).elim (fun c => ok_ifge_t a c (K1 c)) (fun c => ok_ifge_f a c (K2 c))
theorem ok_ifgt_t {off : Int} (a : AtB k pc (.ifCond .gt off) q t) (c : 0 < x) (K : Ok d k t L st h Q) : Ok d k pc L (.int x :: st) h Q := Ok.on (by obtain ⟨a, b⟩ := a; unfold aOne; rw [a.1]; (try dsimp only); rw [if_pos a.2.1]; unfold am_of at b; dsimp only at b; unfold aIf; rw [b]; (try dsimp only); rw [if_pos c]) K
theorem ok_ifgt_f {off : Int} (a : AtB k pc (.ifCond .gt off) q t) (c : ¬ (0 < x)) (K : Ok d k q L st h Q) : Ok d k pc L (.int x :: st) h Q := Ok.on (by obtain ⟨a, b⟩ := a; unfold aOne; rw [a.1]; (try dsimp only); rw [if_pos a.2.1]; unfold am_of at b; dsimp only at b; unfold aIf; rw [b]; (try dsimp only); rw [if_neg c, a.2.2]) K
theorem ok_ifgt {off : Int} (a : AtB k pc (.ifCond .gt off) q t) (K1 : 0 < x → Ok d k t L st h Q) (K2 : ¬ (0 < x) → Ok d k q L st h Q) : Ok d k pc L (.int x :: st) h Q := (Classical.em (0 < x)).elim (fun c => ok_ifgt_t a c (K1 c)) (fun c => ok_ifgt_f a c (K2 c))
theorem ok_ifle_t {off : Int} (a : AtB k pc (.ifCond .le off) q t) (c : x ≤ 0) (K : Ok d k t L st h Q) : Ok d k pc L (.int x :: st) h Q := Ok.on (by obtain ⟨a, b⟩ := a; unfold aOne; rw [a.1]; (try dsimp only); rw [if_pos a.2.1]; unfold am_of at b; dsimp only at b; unfold aIf; rw [b]; (try dsimp only); rw [if_pos c]) K
theorem ok_ifle_f {off : Int} (a : AtB k pc (.ifCond .le off) q t) (c : ¬ (x ≤ 0)) (K : Ok d k q L st h Q) : Ok d k pc L (.int x :: st) h Q := Ok.on (by obtain ⟨a, b⟩ := a; unfold aOne; rw [a.1]; (try dsimp only); rw [if_pos a.2.1]; unfold am_of at b; dsimp only at b; unfold aIf; rw [b]; (try dsimp only); rw [if_neg c, a.2.2]) K
theorem ok_ifle {off : Int} (a : AtB k pc (.ifCond .le off) q t) (K1 : x ≤ 0 → Ok d k t L st h Q) (K2 : ¬ (x ≤ 0) → Ok d k q L st h Q) : Ok d k pc L (.int x :: st) h Q := (Classical.em (x ≤ 0)).elim (fun c => ok_ifle_t a c (K1 c)) (fun c => ok_ifle_f a c (K2 c))
theorem ok_iceq_t {off : Int} (a : AtB k pc (.if_icmp .eq off) q t) (c : x = z) (K : Ok d k t L st h Q) : Ok d k pc L (.int z :: .int x :: st) h Q := Ok.on (by obtain ⟨a, b⟩ := a; unfold aOne; rw [a.1]; (try dsimp only); rw [if_pos a.2.1]; unfold am_of at b; dsimp only at b; unfold aIf; rw [b]; (try dsimp only); rw [if_pos c]) K
theorem ok_iceq_f {off : Int} (a : AtB k pc (.if_icmp .eq off) q t) (c : ¬ (x = z)) (K : Ok d k q L st h Q) : Ok d k pc L (.int z :: .int x :: st) h Q := Ok.on (by obtain ⟨a, b⟩ := a; unfold aOne; rw [a.1]; (try dsimp only); rw [if_pos a.2.1]; unfold am_of at b; dsimp only at b; unfold aIf; rw [b]; (try dsimp only); rw [if_neg c, a.2.2]) K
theorem ok_iceq {off : Int} (a : AtB k pc (.if_icmp .eq off) q t) (K1 : x = z → Ok d k t L st h Q) (K2 : ¬ (x = z) → Ok d k q L st h Q) : Ok d k pc L (.int z :: .int x :: st) h Q := (Classical.em (x = z)).elim (fun c => ok_iceq_t a c (K1 c)) (fun c => ok_iceq_f a c (K2 c))
theorem ok_icne_t {off : Int} (a : AtB k pc (.if_icmp .ne off) q t) (c : ¬ x = z) (K : Ok d k t L st h Q) : Ok d k pc L (.int z :: .int x :: st) h Q := Ok.on (by obtain ⟨a, b⟩ := a; unfold aOne; rw [a.1]; (try dsimp only); rw [if_pos a.2.1]; unfold am_of at b; dsimp only at b; unfold aIf; rw [b]; (try dsimp only); rw [if_pos c]) K
theorem ok_icne_f {off : Int} (a : AtB k pc (.if_icmp .ne off) q t) (c : ¬ (¬ x = z)) (K : Ok d k q L st h Q) : Ok d k pc L (.int z :: .int x :: st) h Q := Ok.on (by obtain ⟨a, b⟩ := a; unfold aOne; rw [a.1]; (try dsimp only); rw [if_pos a.2.1]; unfold am_of at b; dsimp only at b; unfold aIf; rw [b]; (try dsimp only); rw [if_neg c, a.2.2]) K
theorem ok_icne {off : Int} (a : AtB k pc (.if_icmp .ne off) q t) (K1 : ¬ x = z → Ok d k t L st h Q) (K2 : ¬ (¬ x = z) → Ok d k q L st h Q) : Ok d k pc L (.int z :: .int x :: st) h Q := (Classical.em (¬ x = z)).elim (fun c => ok_icne_t a c (K1 c)) (fun c => ok_icne_f a c (K2 c))
theorem ok_iclt_t {off : Int} (a : AtB k pc (.if_icmp .lt off) q t) (c : x < z) (K : Ok d k t L st h Q) : Ok d k pc L (.int z :: .int x :: st) h Q := Ok.on (by obtain ⟨a, b⟩ := a; unfold aOne; rw [a.1]; (try dsimp only); rw [if_pos a.2.1]; unfold am_of at b; dsimp only at b; unfold aIf; rw [b]; (try dsimp only); rw [if_pos c]) K
theorem ok_iclt_f {off : Int} (a : AtB k pc (.if_icmp .lt off) q t) (c : ¬ (x < z)) (K : Ok d k q L st h Q) : Ok d k pc L (.int z :: .int x :: st) h Q := Ok.on (by obtain ⟨a, b⟩ := a; unfold aOne; rw [a.1]; (try dsimp only); rw [if_pos a.2.1]; unfold am_of at b; dsimp only at b; unfold aIf; rw [b]; (try dsimp only); rw [if_neg c, a.2.2]) K
theorem ok_iclt {off : Int} (a : AtB k pc (.if_icmp .lt off) q t) (K1 : x < z → Ok d k t L st h Q) (K2 : ¬ (x < z) → Ok d k q L st h Q) : Ok d k pc L (.int z :: .int x :: st) h Q := (Classical.em (x < z)).elim (fun c => ok_iclt_t a c (K1 c)) (fun c => ok_iclt_f a c (K2 c))
theorem ok_icge_t {off : Int} (a : AtB k pc (.if_icmp .ge off) q t) (c : z ≤ x) (K : Ok d k t L st h Q) : Ok d k pc L (.int z :: .int x :: st) h Q := Ok.on (by obtain ⟨a, b⟩ := a; unfold aOne; rw [a.1]; (try dsimp only); rw [if_pos a.2.1]; unfold am_of at b; dsimp only at b; unfold aIf; rw [b]; (try dsimp only); rw [if_pos c]) K
theorem ok_icge_f {off : Int} (a : AtB k pc (.if_icmp .ge off) q t) (c : ¬ (z ≤ x)) (K : Ok d k q L st h Q) : Ok d k pc L (.int z :: .int x :: st) h Q := Ok.on (by obtain ⟨a, b⟩ := a; unfold aOne; rw [a.1]; (try dsimp only); rw [if_pos a.2.1]; unfold am_of at b; dsimp only at b; unfold aIf; rw [b]; (try dsimp only); rw [if_neg c, a.2.2]) K
theorem ok_icge {off : Int} (a : AtB k pc (.if_icmp .ge off) q t) (K1 : z ≤ x → Ok d k t L st h Q) (K2 : ¬ (z ≤ x) → Ok d k q L st h Q) : Ok d k pc L (.int z :: .int x :: st) h Q := (Classical.em (z ≤ x)).elim (fun c => ok_icge_t a c (K1 c)) (fun c => ok_icge_f a c (K2 c))
theorem ok_icgt_t {off : Int} (a : AtB k pc (.if_icmp .gt off) q t) (c : z < x) (K : Ok d k t L st h Q) : Ok d k pc L (.int z :: .int x :: st) h Q := Ok.on (by obtain ⟨a, b⟩ := a; unfold aOne; rw [a.1]; (try dsimp only); rw [if_pos a.2.1]; unfold am_of at b; dsimp only at b; unfold aIf; rw [b]; (try dsimp only); rw [if_pos c]) K
theorem ok_icgt_f {off : Int} (a : AtB k pc (.if_icmp .gt off) q t) (c : ¬ (z < x)) (K : Ok d k q L st h Q) : Ok d k pc L (.int z :: .int x :: st) h Q := Ok.on (by obtain ⟨a, b⟩ := a; unfold aOne; rw [a.1]; (try dsimp only); rw [if_pos a.2.1]; unfold am_of at b; dsimp only at b; unfold aIf; rw [b]; (try dsimp only); rw [if_neg c, a.2.2]) K
theorem ok_icgt {off : Int} (a : AtB k pc (.if_icmp .gt off) q t) (K1 : z < x → Ok d k t L st h Q) (K2 : ¬ (z < x) → Ok d k q L st h Q) : Ok d k pc L (.int z :: .int x :: st) h Q := (Classical.em (z < x)).elim (fun c => ok_icgt_t a c (K1 c)) (fun c => ok_icgt_f a c (K2 c))
theorem ok_icle_t {off : Int} (a : AtB k pc (.if_icmp .le off) q t) (c : x ≤ z) (K : Ok d k t L st h Q) : Ok d k pc L (.int z :: .int x :: st) h Q := Ok.on (by obtain ⟨a, b⟩ := a; unfold aOne; rw [a.1]; (try dsimp only); rw [if_pos a.2.1]; unfold am_of at b; dsimp only at b; unfold aIf; rw [b]; (try dsimp only); rw [if_pos c]) K
theorem ok_icle_f {off : Int} (a : AtB k pc (.if_icmp .le off) q t) (c : ¬ (x ≤ z)) (K : Ok d k q L st h Q) : Ok d k pc L (.int z :: .int x :: st) h Q := Ok.on (by obtain ⟨a, b⟩ := a; unfold aOne; rw [a.1]; (try dsimp only); rw [if_pos a.2.1]; unfold am_of at b; dsimp only at b; unfold aIf; rw [b]; (try dsimp only); rw [if_neg c, a.2.2]) K
theorem ok_icle {off : Int} (a : AtB k pc (.if_icmp .le off) q t) (K1 : x ≤ z → Ok d k t L st h Q) (K2 : ¬ (x ≤ z) → Ok d k q L st h Q) : Ok d k pc L (.int z :: .int x :: st) h Q := (Classical.em (x ≤ z)).elim (fun c => ok_icle_t a c (K1 c)) (fun c => ok_icle_f a c (K2 c))
theorem ok_aceq_t {off : Int} (a : AtB k pc (.if_acmp .eq off) q t) (g : (r < 49 ∧ n < 49) ∨ (am_NC ≤ r ∧ am_NC ≤ n)) (c : r = n) (K : Ok d k t L st h Q) : Ok d k pc L (.ref n :: .ref r :: st) h Q := Ok.on (by obtain ⟨a, b⟩ := a; unfold aOne; rw [a.1]; (try dsimp only); rw [if_pos a.2.1]; unfold am_of at b; dsimp only at b; rw [if_pos g]; unfold aIf; rw [b]; (try dsimp only); rw [if_pos c]) K
theorem ok_aceq_f {off : Int} (a : AtB k pc (.if_acmp .eq off) q t) (g : (r < 49 ∧ n < 49) ∨ (am_NC ≤ r ∧ am_NC ≤ n)) (c : ¬ (r = n)) (K : Ok d k q L st h Q) : Ok d k pc L (.ref n :: .ref r :: st) h Q := Ok.on (by obtain ⟨a, b⟩ := a; unfold aOne; rw [a.1]; (try dsimp only); rw [if_pos a.2.1]; unfold am_of at b; dsimp only at b; rw [if_pos g]; unfold aIf; rw [b]; (try dsimp only); rw [if_neg c, a.2.2]) K
theorem ok_aceq {off : Int} (a : AtB k pc (.if_acmp .eq off) q t) (g : (r < 49 ∧ n < 49) ∨ (am_NC ≤ r ∧ am_NC ≤ n)) (K1 : r = n → Ok d k t L st h Q) (K2 : ¬ (r = n) → Ok d k q L st h Q) : Ok d k pc L (.ref n :: .ref r :: st) h Q := (Classical.em (r = n)).elim (fun c => ok_aceq_t a g c (K1 c)) (fun c => ok_aceq_f a g c (K2 c))
theorem ok_acne_t {off : Int} (a : AtB k pc (.if_acmp .ne off) q t) (g : (r < 49 ∧ n < 49) ∨ (am_NC ≤ r ∧ am_NC ≤ n)) (c : ¬ r = n) (K : Ok d k t L st h Q) : Ok d k pc L (.ref n :: .ref r :: st) h Q := Ok.on (by obtain ⟨a, b⟩ := a; unfold aOne; rw [a.1]; (try dsimp only); rw [if_pos a.2.1]; unfold am_of at b; dsimp only at b; rw [if_pos g]; unfold aIf; rw [b]; (try dsimp only); rw [if_pos c]) K
theorem ok_acne_f {off : Int} (a : AtB k pc (.if_acmp .ne off) q t) (g : (r < 49 ∧ n < 49) ∨ (am_NC ≤ r ∧ am_NC ≤ n)) (c : ¬ (¬ r = n)) (K : Ok d k q L st h Q) : Ok d k pc L (.ref n :: .ref r :: st) h Q := Ok.on (by obtain ⟨a, b⟩ := a; unfold aOne; rw [a.1]; (try dsimp only); rw [if_pos a.2.1]; unfold am_of at b; dsimp only at b; rw [if_pos g]; unfold aIf; rw [b]; (try dsimp only); rw [if_neg c, a.2.2]) K
theorem ok_acne {off : Int} (a : AtB k pc (.if_acmp .ne off) q t) (g : (r < 49 ∧ n < 49) ∨ (am_NC ≤ r ∧ am_NC ≤ n)) (K1 : ¬ r = n → Ok d k t L st h Q) (K2 : ¬ (¬ r = n) → Ok d k q L st h Q) : Ok d k pc L (.ref n :: .ref r :: st) h Q := (Classical.em (¬ r = n)).elim (fun c => ok_acne_t a g c (K1 c)) (fun c => ok_acne_f a g c (K2 c))
theorem ok_ifnull_r {off : Int} (a : AtB k pc (.ifnull off) q t) (K : Ok d k q L st h Q) : Ok d k pc L (.ref r :: st) h Q := Ok.on (by obtain ⟨a, b⟩ := a; unfold am_of at b; dsimp only at b; unfold aOne; rw [a.1]; dsimp only; rw [if_pos a.2.1, a.2.2]) K
theorem ok_ifnull_n {off : Int} (a : AtB k pc (.ifnull off) q t) (K : Ok d k t L st h Q) : Ok d k pc L (.null :: st) h Q := Ok.on (by obtain ⟨a, b⟩ := a; unfold am_of at b; dsimp only at b; unfold aOne; rw [a.1]; dsimp only; rw [if_pos a.2.1]; (try dsimp only); rw [b]) K
theorem ok_ifnonnull_n {off : Int} (a : AtB k pc (.ifnonnull off) q t) (K : Ok d k q L st h Q) : Ok d k pc L (.null :: st) h Q := Ok.on (by obtain ⟨a, b⟩ := a; unfold am_of at b; dsimp only at b; unfold aOne; rw [a.1]; dsimp only; rw [if_pos a.2.1, a.2.2]) K
theorem ok_ifnonnull_r {off : Int} (a : AtB k pc (.ifnonnull off) q t) (K : Ok d k t L st h Q) : Ok d k pc L (.ref r :: st) h Q := Ok.on (by obtain ⟨a, b⟩ := a; unfold am_of at b; dsimp only at b; unfold aOne; rw [a.1]; dsimp only; rw [if_pos a.2.1]; (try dsimp only); rw [b]) K
theorem ok_switch {df lo hi : Int} {offs : Array Int} {m : Nat} (a : At k pc (.tableswitch df lo hi offs) q) (c : ¬ (x.toInt < lo ∨ hi < x.toInt)) {off : Int} (e : offs[(x.toInt - lo).toNat]? = some off) (b : am_tg pc off = some m) (K : Ok d k m L st h Q) : Ok d k pc L (.int x :: st) h Q := Ok.on (by unfold aOne; rw [a.1]; (try dsimp only); rw [if_pos a.2.1]; (try dsimp only); rw [if_neg c, e]; (try dsimp only); rw [b]) K
theorem ok_switch_d {df lo hi : Int} {offs : Array Int} {m : Nat} (a : At k pc (.tableswitch df lo hi offs) q) (c : x.toInt < lo ∨ hi < x.toInt) (b : am_tg pc df = some m) (K : Ok d k m L st h Q) : Ok d k pc L (.int x :: st) h Q := Ok.on (by unfold aOne; rw [a.1]; (try dsimp only); rw [if_pos a.2.1]; (try dsimp only); rw [if_pos c, b]) K
theorem ok_getI (a : AtF k pc q ci j 1 kk) (c : kd h r = (kk, ci)) (K : Ok d k q L (.int (iv h r j) :: st) h Q) : Ok d k pc L (.ref r :: st) h Q := Ok.on (by obtain ⟨ix, a, b⟩ := a; unfold aOne; rw [a.1]; (try dsimp only); rw [if_pos a.2.1, a.2.2]; (try dsimp only); rw [b]; (try dsimp only); rw [if_pos c]; rfl) K
theorem ok_getJ (a : AtF k pc q ci j 2 kk) (c : kd h r = (kk, ci)) (K : Ok d k q L (.long (jv h r j) :: st) h Q) : Ok d k pc L (.ref r :: st) h Q := Ok.on (by obtain ⟨ix, a, b⟩ := a; unfold aOne; rw [a.1]; (try dsimp only); rw [if_pos a.2.1, a.2.2]; (try dsimp only); rw [b]; (try dsimp only); rw [if_pos c]; rfl) K
theorem ok_getR (a : AtF k pc q ci j 4 kk) (c : kd h r = (kk, ci)) (e : rv h r j = some n) (K : Ok d k q L (.ref n :: st) h Q) : Ok d k pc L (.ref r :: st) h Q := Ok.on (by obtain ⟨ix, a, b⟩ := a; unfold aOne; rw [a.1]; (try dsimp only); rw [if_pos a.2.1, a.2.2]; (try dsimp only); rw [b]; (try dsimp only); rw [if_pos c]; rw [e]; rfl) K
theorem ok_getN (a : AtF k pc q ci j 4 kk) (c : kd h r = (kk, ci)) (e : rv h r j = none) (K : Ok d k q L (.null :: st) h Q) : Ok d k pc L (.ref r :: st) h Q := Ok.on (by obtain ⟨ix, a, b⟩ := a; unfold aOne; rw [a.1]; (try dsimp only); rw [if_pos a.2.1, a.2.2]; (try dsimp only); rw [b]; (try dsimp only); rw [if_pos c]; rw [e]; rfl) K
theorem ok_putI (a : AtP k pc q ci j 1) (c : kd h r = (0, ci)) (K : Ok d k q L st (setI h r j x) Q) : Ok d k pc L (.int x :: .ref r :: st) h Q := Ok.on (by obtain ⟨ix, a, b, p⟩ := a; unfold aOne; rw [a.1]; (try dsimp only); rw [if_pos a.2.1, a.2.2]; (try dsimp only); rw [b]; (try dsimp only); rw [if_pos ⟨c, rfl, p⟩]; rfl) K
theorem ok_putJ (a : AtP k pc q ci j 2) (c : kd h r = (0, ci)) (K : Ok d k q L st (setJ h r j u) Q) : Ok d k pc L (.long u :: .ref r :: st) h Q := Ok.on (by obtain ⟨ix, a, b, p⟩ := a; unfold aOne; rw [a.1]; (try dsimp only); rw [if_pos a.2.1, a.2.2]; (try dsimp only); rw [b]; (try dsimp only); rw [if_pos ⟨c, rfl, p⟩]; rfl) K
theorem ok_putR (a : AtP k pc q ci j 4) (c : kd h r = (0, ci)) (K : Ok d k q L st (setR h r j (some n)) Q) : Ok d k pc L (.ref n :: .ref r :: st) h Q := Ok.on (by obtain ⟨ix, a, b, p⟩ := a; unfold aOne; rw [a.1]; (try dsimp only); rw [if_pos a.2.1, a.2.2]; (try dsimp only); rw [b]; (try dsimp only); rw [if_pos ⟨c, rfl, p⟩]; rfl) K
theorem ok_const (a : AtS k pc q v) (K : Ok d k q L (v :: st) h Q) : Ok d k pc L st h Q := by
  rcases a with ⟨ix, a, b⟩ | ⟨ix, r, a, b, rfl⟩ | ⟨ix, r, a, b, rfl⟩ <;> exact Ok.on (by unfold aOne; rw [a.1]; (try dsimp only); rw [if_pos a.2.1, a.2.2]; (try dsimp only); rw [b]) K
theorem ok_alen {kx : Nat} (a : At k pc .arraylength q) (c : kd h r = (kx, n)) (g : (1 ≤ kx ∧ kx ≤ 6) ∨ (12 ≤ kx ∧ kx ≤ 15)) (K : Ok d k q L (.int (nI n) :: st) h Q) : Ok d k pc L (.ref r :: st) h Q := Ok.on (by unfold aOne; rw [a.1]; (try dsimp only); rw [if_pos a.2.1, a.2.2]; (try dsimp only); rw [c, if_pos g]) K
theorem ok_iald (a : At k pc .iaload q) (c : kd h r = (1, n)) (g : inR x n = true) (K : Ok d k q L (.int (iv h r x.toNatClampNeg) :: st) h Q) : Ok d k pc L (.int x :: .ref r :: st) h Q := Ok.on (by unfold aOne; rw [a.1]; (try dsimp only); rw [if_pos a.2.1, a.2.2]; (try dsimp only); rw [c, if_pos (by first | exact ⟨rfl, g⟩ | exact ⟨Or.inl rfl, g⟩ | exact ⟨Or.inr rfl, g⟩)]) K
theorem ok_iald12 (a : At k pc .iaload q) (c : kd h r = (12, n)) (g : inR x n = true) (K : Ok d k q L (.int (iv h r x.toNatClampNeg) :: st) h Q) : Ok d k pc L (.int x :: .ref r :: st) h Q := Ok.on (by unfold aOne; rw [a.1]; (try dsimp only); rw [if_pos a.2.1, a.2.2]; (try dsimp only); rw [c, if_pos (by first | exact ⟨rfl, g⟩ | exact ⟨Or.inl rfl, g⟩ | exact ⟨Or.inr rfl, g⟩)]) K
theorem ok_bald (a : At k pc .baload q) (c : kd h r = (3, n)) (g : inR x n = true) (K : Ok d k q L (.int (iv h r x.toNatClampNeg) :: st) h Q) : Ok d k pc L (.int x :: .ref r :: st) h Q := Ok.on (by unfold aOne; rw [a.1]; (try dsimp only); rw [if_pos a.2.1, a.2.2]; (try dsimp only); rw [c, if_pos (by first | exact ⟨rfl, g⟩ | exact ⟨Or.inl rfl, g⟩ | exact ⟨Or.inr rfl, g⟩)]) K
theorem ok_bald13 (a : At k pc .baload q) (c : kd h r = (13, n)) (g : inR x n = true) (K : Ok d k q L (.int (iv h r x.toNatClampNeg) :: st) h Q) : Ok d k pc L (.int x :: .ref r :: st) h Q := Ok.on (by unfold aOne; rw [a.1]; (try dsimp only); rw [if_pos a.2.1, a.2.2]; (try dsimp only); rw [c, if_pos (by first | exact ⟨rfl, g⟩ | exact ⟨Or.inl rfl, g⟩ | exact ⟨Or.inr rfl, g⟩)]) K
theorem ok_lald (a : At k pc .laload q) (c : kd h r = (2, n)) (g : inR x n = true) (K : Ok d k q L (.long (jv h r x.toNatClampNeg) :: st) h Q) : Ok d k pc L (.int x :: .ref r :: st) h Q := Ok.on (by unfold aOne; rw [a.1]; (try dsimp only); rw [if_pos a.2.1, a.2.2]; (try dsimp only); rw [c, if_pos (by first | exact ⟨rfl, g⟩ | exact ⟨Or.inl rfl, g⟩ | exact ⟨Or.inr rfl, g⟩)]) K
theorem ok_aald {kx m : Nat} (a : At k pc .aaload q) (c : kd h r = (kx, n)) (gk : (4 ≤ kx ∧ kx ≤ 6) ∨ kx = 14 ∨ kx = 15) (g : inR x n = true) (e : rv h r x.toNatClampNeg = some m) (K : Ok d k q L (.ref m :: st) h Q) : Ok d k pc L (.int x :: .ref r :: st) h Q := Ok.on (by unfold aOne; rw [a.1]; (try dsimp only); rw [if_pos a.2.1, a.2.2]; (try dsimp only); rw [c, if_pos ⟨gk, g⟩, e]; rfl) K
theorem ok_iast (a : At k pc .iastore q) (c : kd h r = (1, n)) (g : inR x n = true) (K : Ok d k q L st (setI h r x.toNatClampNeg z) Q) : Ok d k pc L (.int z :: .int x :: .ref r :: st) h Q := Ok.on (by unfold aOne; rw [a.1]; (try dsimp only); rw [if_pos a.2.1, a.2.2]; (try dsimp only); rw [c, if_pos ⟨rfl, g⟩]) K
theorem ok_bast (a : At k pc .bastore q) (c : kd h r = (3, n)) (g : inR x n = true) (K : Ok d k q L st (setI h r x.toNatClampNeg z.toInt8.toInt32) Q) : Ok d k pc L (.int z :: .int x :: .ref r :: st) h Q := Ok.on (by unfold aOne; rw [a.1]; (try dsimp only); rw [if_pos a.2.1, a.2.2]; (try dsimp only); rw [c, if_pos ⟨rfl, g⟩]) K
theorem ok_last (a : At k pc .lastore q) (c : kd h r = (2, n)) (g : inR x n = true) (K : Ok d k q L st (setJ h r x.toNatClampNeg u) Q) : Ok d k pc L (.long u :: .int x :: .ref r :: st) h Q := Ok.on (by unfold aOne; rw [a.1]; (try dsimp only); rw [if_pos a.2.1, a.2.2]; (try dsimp only); rw [c, if_pos ⟨rfl, g⟩]) K
theorem ok_aast {m : Nat} (a : At k pc .aastore q) (c : (kd h r = (4, n) ∧ kd h m = (10, 0)) ∨ (kd h r = (5, n) ∧ kd h m = (0, 4)) ∨ (kd h r = (6, n) ∧ kd h m = (0, 2))) (g : inR x n = true) (K : Ok d k q L st (setR h r x.toNatClampNeg (some m)) Q) : Ok d k pc L (.ref m :: .int x :: .ref r :: st) h Q := Ok.on (by unfold aOne; rw [a.1]; (try dsimp only); rw [if_pos a.2.1, a.2.2]; rcases c with ⟨c1, c2⟩ | ⟨c1, c2⟩ | ⟨c1, c2⟩ <;> rw [c1, c2, if_pos (by first | exact ⟨g, Or.inl ⟨rfl, rfl⟩⟩ | exact ⟨g, Or.inr (Or.inl ⟨rfl, rfl⟩)⟩ | exact ⟨g, Or.inr (Or.inr ⟨rfl, rfl⟩)⟩)]) K
theorem ok_newarr (a : AtA k pc q t) (c : ¬ x < 0 ∧ x.toNatClampNeg ≤ 10000) (e : x.toNatClampNeg = n) (K : Ok d k q L (.ref (nx h) :: st) (mkA h (t, n) n) Q) : Ok d k pc L (.int x :: st) h Q := by
  subst e
  rcases a with ⟨rfl, a⟩ | ⟨rfl, a⟩ | ⟨rfl, a⟩ | ⟨ix, a, b⟩
  · exact Ok.on (by unfold aOne; rw [a.1]; (try dsimp only); rw [if_pos a.2.1]; unfold aNewA; (try dsimp only); rw [if_pos c, a.2.2]) K
  · exact Ok.on (by unfold aOne; rw [a.1]; (try dsimp only); rw [if_pos a.2.1]; unfold aNewA; (try dsimp only); rw [if_pos c, a.2.2]) K
  · exact Ok.on (by unfold aOne; rw [a.1]; (try dsimp only); rw [if_pos a.2.1]; unfold aNewA; (try dsimp only); rw [if_pos c, a.2.2]) K
  · exact Ok.on (by unfold aOne; rw [a.1]; (try dsimp only); rw [if_pos a.2.1, b]; (try dsimp only); unfold aNewA; (try dsimp only); rw [if_pos c, a.2.2]) K
theorem ok_new (a : AtN k pc q ci n) (K : Ok d k q L (.ref (nx h) :: st) (mkA h (0, ci) n) Q) : Ok d k pc L st h Q := by
  obtain ⟨ix, a, b, c⟩ := a
  exact Ok.on (by unfold aOne; rw [a.1]; (try dsimp only); rw [if_pos a.2.1, a.2.2, b]; (try dsimp only); rw [c]) K
theorem ok_throw (a : AtT k pc E) (c : 10 ≤ d ∧ st.length ≤ 4) (K : Q (.inr E) (bump h 1 6)) : Ok d k pc L st h Q := by
  obtain ⟨ix, a, b⟩ := a
  exact Ok.fin (by unfold aOne; rw [a.1]; (try dsimp only); rw [if_pos a.2.1, b]; (try dsimp only); rw [if_pos c]) K
theorem ok_iret (a : At k pc .ireturn q) (e : am_nar (mR k) x = some z) (K : Q (.inl (some (.int z))) h) : Ok d k pc L [.int x] h Q := Ok.fin (by unfold aOne; rw [a.1]; (try dsimp only); rw [if_pos a.2.1, e]) K
theorem ok_lret (a : At k pc .lreturn q) (e : mR k = 2) (K : Q (.inl (some (.long u))) h) : Ok d k pc L [.long u] h Q := Ok.fin (by unfold aOne; rw [a.1]; (try dsimp only); rw [if_pos a.2.1, if_pos e]) K
theorem ok_dret {g : UInt64} (a : At k pc .dreturn q) (e : mR k = 3) (K : Q (.inl (some (.double g))) h) : Ok d k pc L [.double g] h Q := Ok.fin (by unfold aOne; rw [a.1]; (try dsimp only); rw [if_pos a.2.1, if_pos e]) K
theorem ok_aret (a : At k pc .areturn q) (e : mR k = 4) (K : Q (.inl (some (.ref r))) h) : Ok d k pc L [.ref r] h Q := Ok.fin (by unfold aOne; rw [a.1]; (try dsimp only); rw [if_pos a.2.1, if_pos e]) K
theorem ok_anret (a : At k pc .areturn q) (e : mR k = 4) (K : Q (.inl (some .null)) h) : Ok d k pc L [.null] h Q := Ok.fin (by unfold aOne; rw [a.1]; (try dsimp only); rw [if_pos a.2.1, if_pos e]) K
theorem ok_ret (a : At k pc .return_ q) (e : mR k = 0) (K : Q (.inl none) h) : Ok d k pc L [] h Q := Ok.fin (by unfold aOne; rw [a.1]; (try dsimp only); rw [if_pos a.2.1, if_pos e]) K
/-- a callee's end, seen from its call -/
def OkE (d k pc q : Nat) (L : ALs) (rest : List Value) (Q : AO → AH → Prop) : AO → AH → Prop
  | .inl v, h => Ok d k q L (v.toList ++ rest) h Q
  | .inr E, h => (mH k = [] ∧ Q (.inr E) h) ∨ ∃ p i, mH k ≠ [] ∧ hdl k pc E = some (p, i) ∧ Ok d k p (st1 (mW k) L i none) [] h Q
theorem Ok.call {av rest : List Value} (e : aOne d k pc L st h = .inr (.inl (y, av, q - pc, L, rest, h))) (hq : pc + (q - pc) = q) (M : Md d y av h P) (K : ∀ o h', P o h' → OkE d k pc q L rest Q o h') : Ok d k pc L st h Q := by
  obtain ⟨f, o, h2, h3, h4⟩ := M
  have h5 := K _ _ h4
  cases o with
  | inl v =>
    obtain ⟨f', o', h6, h7, h8⟩ := h5
    refine ⟨f + f' + 1, o', h6, ?_, h8⟩
    show aStep (exec (f + f')) d k pc L st h = _
    unfold aStep
    rw [e]
    dsimp only
    have hg : aGo (exec (f + f')) d y av h = some (.inl v, h2) := by
      unfold aGo at h3 ⊢
      cases d with
      | zero => cases h3
      | succ d =>
        dsimp only at h3 ⊢
        split at h3
        · rename_i hc
          rw [if_pos hc]
          exact am_le_add f f' _ _ _ _ _ _ _ h3
        · cases h3
    rw [hg]
    show exec (f + f') d k (pc + (q - pc)) L (v.toList ++ rest) h2 = _
    rw [hq, Nat.add_comm f f']
    exact am_le_add f' f _ _ _ _ _ _ _ h7
  | inr E =>
    have hg : ∀ f', aGo (exec (f + f')) d y av h = some (.inr E, h2) := by
      intro f'
      unfold aGo at h3 ⊢
      cases d with
      | zero => cases h3
      | succ d =>
        dsimp only at h3 ⊢
        split at h3
        · rename_i hc
          rw [if_pos hc]
          exact am_le_add f f' _ _ _ _ _ _ _ h3
        · cases h3
    rcases h5 with ⟨h5, h6⟩ | ⟨p, i, h5, h6, f', o', h7, h8, h9⟩
    · refine ⟨f + 0 + 1, _, h2, ?_, h6⟩
      show aStep (exec (f + 0)) d k pc L st h = _
      unfold aStep
      rw [e]
      dsimp only
      rw [hg 0]
      unfold aEnd
      dsimp only
      rw [h5]
    · refine ⟨f + f' + 1, o', h7, ?_, h9⟩
      show aStep (exec (f + f')) d k pc L st h = _
      unfold aStep
      rw [e]
      dsimp only
      rw [hg f']
      unfold aEnd
      dsimp only
      split
      · rename_i hh
        exact absurd hh h5
      · rw [h6]
        dsimp only
        rw [Nat.add_comm f f']
        exact am_le_add f' f _ _ _ _ _ _ _ h8
theorem ok_cls0 (a : AtC k pc q ik y 0 kc rk) (hkc : kc = 0 ∨ kc = 1 ∨ kc = 7) (hst : st.length ≤ 4) (M : Md d y [] h P) (K : ∀ o h', P o h' → OkE d k pc q L st Q o h') : Ok d k pc L (st) h Q := by
  obtain ⟨e1, e2, e3⟩ := atc_one (d := d) (L := L) (st := st) (h := h) a
  refine Ok.call (y := y) (av := []) (rest := st) ?_ e2 M K
  rw [e1]
  unfold aInv
  dsimp only
  rw [if_neg e3]
  rw [if_pos hkc]
  show (if 0 ≤ (st).length ∧ st.length ≤ 4 then (.inr (.inl (y, [], q - pc, L, st, h)) : ACt) else aNo) = _
  rw [if_pos ⟨by simp, hst⟩]
theorem ok_cxs0 {vo : Option Value} (a : AtC k pc q ik y 0 kc rk) (hkc : kc = 0 ∨ kc = 1 ∨ kc = 7) (hst : st.length ≤ 4) (M : Mx d y [] h vo h1) (K : Ok d k q L (vo.toList ++ st) h1 Q) : Ok d k pc L (st) h Q := ok_cls0 a hkc hst M.md (fun _ _ e => by obtain ⟨rfl, rfl⟩ := e; exact K)
theorem ok_cli0 (a : AtC k pc q ik y 0 kc rk) (hkc : kc = 2 ∨ kc = 3 ∨ kc = 4 ∨ kc = 5) (g : kd h r = rk) (hst : st.length ≤ 4) (M : Md d y [.ref r] h P) (K : ∀ o h', P o h' → OkE d k pc q L st Q o h') : Ok d k pc L (.ref r :: st) h Q := by
  obtain ⟨e1, e2, e3⟩ := atc_one (d := d) (L := L) (st := .ref r :: st) (h := h) a
  refine Ok.call (y := y) (av := [.ref r]) (rest := st) ?_ e2 M K
  rw [e1]
  unfold aInv
  dsimp only
  rw [if_neg e3]
  rw [if_neg (by omega), if_pos hkc]
  show (match (.ref r :: st) with
     | .ref b :: rest => if kd h b = rk ∧ rest.length ≤ 4 then (.inr (.inl (y, .ref b :: [], q - pc, L, rest, h)) : ACt) else aNo
     | _ => aNo) = _
  dsimp only
  rw [if_pos ⟨g, hst⟩]
theorem ok_cxi0 {vo : Option Value} (a : AtC k pc q ik y 0 kc rk) (hkc : kc = 2 ∨ kc = 3 ∨ kc = 4 ∨ kc = 5) (g : kd h r = rk) (hst : st.length ≤ 4) (M : Mx d y [.ref r] h vo h1) (K : Ok d k q L (vo.toList ++ st) h1 Q) : Ok d k pc L (.ref r :: st) h Q := ok_cli0 a hkc g hst M.md (fun _ _ e => by obtain ⟨rfl, rfl⟩ := e; exact K)
theorem ok_cls1 (a : AtC k pc q ik y 1 kc rk) (hkc : kc = 0 ∨ kc = 1 ∨ kc = 7) (hst : st.length ≤ 4) (M : Md d y [v0] h P) (K : ∀ o h', P o h' → OkE d k pc q L st Q o h') : Ok d k pc L (v0 :: st) h Q := by
  obtain ⟨e1, e2, e3⟩ := atc_one (d := d) (L := L) (st := v0 :: st) (h := h) a
  refine Ok.call (y := y) (av := [v0]) (rest := st) ?_ e2 M K
  rw [e1]
  unfold aInv
  dsimp only
  rw [if_neg e3]
  rw [if_pos hkc]
  show (if 1 ≤ (v0 :: st).length ∧ st.length ≤ 4 then (.inr (.inl (y, [v0], q - pc, L, st, h)) : ACt) else aNo) = _
  rw [if_pos ⟨by simp, hst⟩]
theorem ok_cxs1 {vo : Option Value} (a : AtC k pc q ik y 1 kc rk) (hkc : kc = 0 ∨ kc = 1 ∨ kc = 7) (hst : st.length ≤ 4) (M : Mx d y [v0] h vo h1) (K : Ok d k q L (vo.toList ++ st) h1 Q) : Ok d k pc L (v0 :: st) h Q := ok_cls1 a hkc hst M.md (fun _ _ e => by obtain ⟨rfl, rfl⟩ := e; exact K)
theorem ok_cli1 (a : AtC k pc q ik y 1 kc rk) (hkc : kc = 2 ∨ kc = 3 ∨ kc = 4 ∨ kc = 5) (g : kd h r = rk) (hst : st.length ≤ 4) (M : Md d y [.ref r, v0] h P) (K : ∀ o h', P o h' → OkE d k pc q L st Q o h') : Ok d k pc L (v0 :: .ref r :: st) h Q := by
  obtain ⟨e1, e2, e3⟩ := atc_one (d := d) (L := L) (st := v0 :: .ref r :: st) (h := h) a
  refine Ok.call (y := y) (av := [.ref r, v0]) (rest := st) ?_ e2 M K
  rw [e1]
  unfold aInv
  dsimp only
  rw [if_neg e3]
  rw [if_neg (by omega), if_pos hkc]
  show (match (.ref r :: st) with
     | .ref b :: rest => if kd h b = rk ∧ rest.length ≤ 4 then (.inr (.inl (y, .ref b :: [v0], q - pc, L, rest, h)) : ACt) else aNo
     | _ => aNo) = _
  dsimp only
  rw [if_pos ⟨g, hst⟩]
theorem ok_cxi1 {vo : Option Value} (a : AtC k pc q ik y 1 kc rk) (hkc : kc = 2 ∨ kc = 3 ∨ kc = 4 ∨ kc = 5) (g : kd h r = rk) (hst : st.length ≤ 4) (M : Mx d y [.ref r, v0] h vo h1) (K : Ok d k q L (vo.toList ++ st) h1 Q) : Ok d k pc L (v0 :: .ref r :: st) h Q := ok_cli1 a hkc g hst M.md (fun _ _ e => by obtain ⟨rfl, rfl⟩ := e; exact K)
theorem ok_cls2 (a : AtC k pc q ik y 2 kc rk) (hkc : kc = 0 ∨ kc = 1 ∨ kc = 7) (hst : st.length ≤ 4) (M : Md d y [v0, v1] h P) (K : ∀ o h', P o h' → OkE d k pc q L st Q o h') : Ok d k pc L (v1 :: v0 :: st) h Q := by
  obtain ⟨e1, e2, e3⟩ := atc_one (d := d) (L := L) (st := v1 :: v0 :: st) (h := h) a
  refine Ok.call (y := y) (av := [v0, v1]) (rest := st) ?_ e2 M K
  rw [e1]
  unfold aInv
  dsimp only
  rw [if_neg e3]
  rw [if_pos hkc]
  show (if 2 ≤ (v1 :: v0 :: st).length ∧ st.length ≤ 4 then (.inr (.inl (y, [v0, v1], q - pc, L, st, h)) : ACt) else aNo) = _
  rw [if_pos ⟨by simp, hst⟩]
theorem ok_cxs2 {vo : Option Value} (a : AtC k pc q ik y 2 kc rk) (hkc : kc = 0 ∨ kc = 1 ∨ kc = 7) (hst : st.length ≤ 4) (M : Mx d y [v0, v1] h vo h1) (K : Ok d k q L (vo.toList ++ st) h1 Q) : Ok d k pc L (v1 :: v0 :: st) h Q := ok_cls2 a hkc hst M.md (fun _ _ e => by obtain ⟨rfl, rfl⟩ := e; exact K)
theorem ok_cli2 (a : AtC k pc q ik y 2 kc rk) (hkc : kc = 2 ∨ kc = 3 ∨ kc = 4 ∨ kc = 5) (g : kd h r = rk) (hst : st.length ≤ 4) (M : Md d y [.ref r, v0, v1] h P) (K : ∀ o h', P o h' → OkE d k pc q L st Q o h') : Ok d k pc L (v1 :: v0 :: .ref r :: st) h Q := by
  obtain ⟨e1, e2, e3⟩ := atc_one (d := d) (L := L) (st := v1 :: v0 :: .ref r :: st) (h := h) a
  refine Ok.call (y := y) (av := [.ref r, v0, v1]) (rest := st) ?_ e2 M K
  rw [e1]
  unfold aInv
  dsimp only
  rw [if_neg e3]
  rw [if_neg (by omega), if_pos hkc]
  show (match (.ref r :: st) with
     | .ref b :: rest => if kd h b = rk ∧ rest.length ≤ 4 then (.inr (.inl (y, .ref b :: [v0, v1], q - pc, L, rest, h)) : ACt) else aNo
     | _ => aNo) = _
  dsimp only
  rw [if_pos ⟨g, hst⟩]
theorem ok_cxi2 {vo : Option Value} (a : AtC k pc q ik y 2 kc rk) (hkc : kc = 2 ∨ kc = 3 ∨ kc = 4 ∨ kc = 5) (g : kd h r = rk) (hst : st.length ≤ 4) (M : Mx d y [.ref r, v0, v1] h vo h1) (K : Ok d k q L (vo.toList ++ st) h1 Q) : Ok d k pc L (v1 :: v0 :: .ref r :: st) h Q := ok_cli2 a hkc g hst M.md (fun _ _ e => by obtain ⟨rfl, rfl⟩ := e; exact K)
theorem ok_cls3 (a : AtC k pc q ik y 3 kc rk) (hkc : kc = 0 ∨ kc = 1 ∨ kc = 7) (hst : st.length ≤ 4) (M : Md d y [v0, v1, v2] h P) (K : ∀ o h', P o h' → OkE d k pc q L st Q o h') : Ok d k pc L (v2 :: v1 :: v0 :: st) h Q := by
  obtain ⟨e1, e2, e3⟩ := atc_one (d := d) (L := L) (st := v2 :: v1 :: v0 :: st) (h := h) a
  refine Ok.call (y := y) (av := [v0, v1, v2]) (rest := st) ?_ e2 M K
  rw [e1]
  unfold aInv
  dsimp only
  rw [if_neg e3]
  rw [if_pos hkc]
  show (if 3 ≤ (v2 :: v1 :: v0 :: st).length ∧ st.length ≤ 4 then (.inr (.inl (y, [v0, v1, v2], q - pc, L, st, h)) : ACt) else aNo) = _
  rw [if_pos ⟨by simp, hst⟩]
theorem ok_cxs3 {vo : Option Value} (a : AtC k pc q ik y 3 kc rk) (hkc : kc = 0 ∨ kc = 1 ∨ kc = 7) (hst : st.length ≤ 4) (M : Mx d y [v0, v1, v2] h vo h1) (K : Ok d k q L (vo.toList ++ st) h1 Q) : Ok d k pc L (v2 :: v1 :: v0 :: st) h Q := ok_cls3 a hkc hst M.md (fun _ _ e => by obtain ⟨rfl, rfl⟩ := e; exact K)
theorem ok_cli3 (a : AtC k pc q ik y 3 kc rk) (hkc : kc = 2 ∨ kc = 3 ∨ kc = 4 ∨ kc = 5) (g : kd h r = rk) (hst : st.length ≤ 4) (M : Md d y [.ref r, v0, v1, v2] h P) (K : ∀ o h', P o h' → OkE d k pc q L st Q o h') : Ok d k pc L (v2 :: v1 :: v0 :: .ref r :: st) h Q := by
  obtain ⟨e1, e2, e3⟩ := atc_one (d := d) (L := L) (st := v2 :: v1 :: v0 :: .ref r :: st) (h := h) a
  refine Ok.call (y := y) (av := [.ref r, v0, v1, v2]) (rest := st) ?_ e2 M K
  rw [e1]
  unfold aInv
  dsimp only
  rw [if_neg e3]
  rw [if_neg (by omega), if_pos hkc]
  show (match (.ref r :: st) with
     | .ref b :: rest => if kd h b = rk ∧ rest.length ≤ 4 then (.inr (.inl (y, .ref b :: [v0, v1, v2], q - pc, L, rest, h)) : ACt) else aNo
     | _ => aNo) = _
  dsimp only
  rw [if_pos ⟨g, hst⟩]
theorem ok_cxi3 {vo : Option Value} (a : AtC k pc q ik y 3 kc rk) (hkc : kc = 2 ∨ kc = 3 ∨ kc = 4 ∨ kc = 5) (g : kd h r = rk) (hst : st.length ≤ 4) (M : Mx d y [.ref r, v0, v1, v2] h vo h1) (K : Ok d k q L (vo.toList ++ st) h1 Q) : Ok d k pc L (v2 :: v1 :: v0 :: .ref r :: st) h Q := ok_cli3 a hkc g hst M.md (fun _ _ e => by obtain ⟨rfl, rfl⟩ := e; exact K)
theorem ok_cls4 (a : AtC k pc q ik y 4 kc rk) (hkc : kc = 0 ∨ kc = 1 ∨ kc = 7) (hst : st.length ≤ 4) (M : Md d y [v0, v1, v2, v3] h P) (K : ∀ o h', P o h' → OkE d k pc q L st Q o h') : Ok d k pc L (v3 :: v2 :: v1 :: v0 :: st) h Q := by
  obtain ⟨e1, e2, e3⟩ := atc_one (d := d) (L := L) (st := v3 :: v2 :: v1 :: v0 :: st) (h := h) a
  refine Ok.call (y := y) (av := [v0, v1, v2, v3]) (rest := st) ?_ e2 M K
  rw [e1]
  unfold aInv
  dsimp only
  rw [if_neg e3]
  rw [if_pos hkc]
  show (if 4 ≤ (v3 :: v2 :: v1 :: v0 :: st).length ∧ st.length ≤ 4 then (.inr (.inl (y, [v0, v1, v2, v3], q - pc, L, st, h)) : ACt) else aNo) = _
  rw [if_pos ⟨by simp, hst⟩]
theorem ok_cxs4 {vo : Option Value} (a : AtC k pc q ik y 4 kc rk) (hkc : kc = 0 ∨ kc = 1 ∨ kc = 7) (hst : st.length ≤ 4) (M : Mx d y [v0, v1, v2, v3] h vo h1) (K : Ok d k q L (vo.toList ++ st) h1 Q) : Ok d k pc L (v3 :: v2 :: v1 :: v0 :: st) h Q := ok_cls4 a hkc hst M.md (fun _ _ e => by obtain ⟨rfl, rfl⟩ := e; exact K)
theorem ok_cli4 (a : AtC k pc q ik y 4 kc rk) (hkc : kc = 2 ∨ kc = 3 ∨ kc = 4 ∨ kc = 5) (g : kd h r = rk) (hst : st.length ≤ 4) (M : Md d y [.ref r, v0, v1, v2, v3] h P) (K : ∀ o h', P o h' → OkE d k pc q L st Q o h') : Ok d k pc L (v3 :: v2 :: v1 :: v0 :: .ref r :: st) h Q := by
  obtain ⟨e1, e2, e3⟩ := atc_one (d := d) (L := L) (st := v3 :: v2 :: v1 :: v0 :: .ref r :: st) (h := h) a
  refine Ok.call (y := y) (av := [.ref r, v0, v1, v2, v3]) (rest := st) ?_ e2 M K
  rw [e1]
  unfold aInv
  dsimp only
  rw [if_neg e3]
  rw [if_neg (by omega), if_pos hkc]
  show (match (.ref r :: st) with
     | .ref b :: rest => if kd h b = rk ∧ rest.length ≤ 4 then (.inr (.inl (y, .ref b :: [v0, v1, v2, v3], q - pc, L, rest, h)) : ACt) else aNo
     | _ => aNo) = _
  dsimp only
  rw [if_pos ⟨g, hst⟩]
theorem ok_cxi4 {vo : Option Value} (a : AtC k pc q ik y 4 kc rk) (hkc : kc = 2 ∨ kc = 3 ∨ kc = 4 ∨ kc = 5) (g : kd h r = rk) (hst : st.length ≤ 4) (M : Mx d y [.ref r, v0, v1, v2, v3] h vo h1) (K : Ok d k q L (vo.toList ++ st) h1 Q) : Ok d k pc L (v3 :: v2 :: v1 :: v0 :: .ref r :: st) h Q := ok_cli4 a hkc g hst M.md (fun _ _ e => by obtain ⟨rfl, rfl⟩ := e; exact K)
theorem ok_cls5 (a : AtC k pc q ik y 5 kc rk) (hkc : kc = 0 ∨ kc = 1 ∨ kc = 7) (hst : st.length ≤ 4) (M : Md d y [v0, v1, v2, v3, v4] h P) (K : ∀ o h', P o h' → OkE d k pc q L st Q o h') : Ok d k pc L (v4 :: v3 :: v2 :: v1 :: v0 :: st) h Q := by
  obtain ⟨e1, e2, e3⟩ := atc_one (d := d) (L := L) (st := v4 :: v3 :: v2 :: v1 :: v0 :: st) (h := h) a
  refine Ok.call (y := y) (av := [v0, v1, v2, v3, v4]) (rest := st) ?_ e2 M K
  rw [e1]
  unfold aInv
  dsimp only
  rw [if_neg e3]
  rw [if_pos hkc]
  show (if 5 ≤ (v4 :: v3 :: v2 :: v1 :: v0 :: st).length ∧ st.length ≤ 4 then (.inr (.inl (y, [v0, v1, v2, v3, v4], q - pc, L, st, h)) : ACt) else aNo) = _
  rw [if_pos ⟨by simp, hst⟩]
theorem ok_cxs5 {vo : Option Value} (a : AtC k pc q ik y 5 kc rk) (hkc : kc = 0 ∨ kc = 1 ∨ kc = 7) (hst : st.length ≤ 4) (M : Mx d y [v0, v1, v2, v3, v4] h vo h1) (K : Ok d k q L (vo.toList ++ st) h1 Q) : Ok d k pc L (v4 :: v3 :: v2 :: v1 :: v0 :: st) h Q := ok_cls5 a hkc hst M.md (fun _ _ e => by obtain ⟨rfl, rfl⟩ := e; exact K)
theorem ok_cli5 (a : AtC k pc q ik y 5 kc rk) (hkc : kc = 2 ∨ kc = 3 ∨ kc = 4 ∨ kc = 5) (g : kd h r = rk) (hst : st.length ≤ 4) (M : Md d y [.ref r, v0, v1, v2, v3, v4] h P) (K : ∀ o h', P o h' → OkE d k pc q L st Q o h') : Ok d k pc L (v4 :: v3 :: v2 :: v1 :: v0 :: .ref r :: st) h Q := by
  obtain ⟨e1, e2, e3⟩ := atc_one (d := d) (L := L) (st := v4 :: v3 :: v2 :: v1 :: v0 :: .ref r :: st) (h := h) a
  refine Ok.call (y := y) (av := [.ref r, v0, v1, v2, v3, v4]) (rest := st) ?_ e2 M K
  rw [e1]
  unfold aInv
  dsimp only
  rw [if_neg e3]
  rw [if_neg (by omega), if_pos hkc]
  show (match (.ref r :: st) with
     | .ref b :: rest => if kd h b = rk ∧ rest.length ≤ 4 then (.inr (.inl (y, .ref b :: [v0, v1, v2, v3, v4], q - pc, L, rest, h)) : ACt) else aNo
     | _ => aNo) = _
  dsimp only
  rw [if_pos ⟨g, hst⟩]
theorem ok_cxi5 {vo : Option Value} (a : AtC k pc q ik y 5 kc rk) (hkc : kc = 2 ∨ kc = 3 ∨ kc = 4 ∨ kc = 5) (g : kd h r = rk) (hst : st.length ≤ 4) (M : Mx d y [.ref r, v0, v1, v2, v3, v4] h vo h1) (K : Ok d k q L (vo.toList ++ st) h1 Q) : Ok d k pc L (v4 :: v3 :: v2 :: v1 :: v0 :: .ref r :: st) h Q := ok_cli5 a hkc g hst M.md (fun _ _ e => by obtain ⟨rfl, rfl⟩ := e; exact K)
theorem ok_prim {L' : ALs} {st' : List Value} {h' : AH} {d0 : Nat} (a : AtC k pc q ik y na kc rk) (hd : d = d0 + 1) (e : aInv ik (d0 + 1) pc (q - pc) L st h (y, na, kc, rk) = .inl (pc + (q - pc), L', st', h')) (K : Ok d k q L' st' h' Q) : Ok d k pc L st h Q := by
  subst hd
  obtain ⟨e1, e2, e3⟩ := atc_one (d := d0 + 1) (L := L) (st := st) (h := h) a
  rw [e2] at e
  exact Ok.on (e1.trans e) K
end OK
end
section
theorem zz_last : True := trivial
end
