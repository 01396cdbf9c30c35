section
-- ===== PART A: goes FIRST, ahead of the names: the tables' words, and 'selects' of the private methods out of them =====
/-- a private method of a class that the tables say can be made, by its rows of tables_1 -/
def lw_okq (q : MethodName × Nat) : Prop := (q.1.cls ≠ "java/lang/invoke/MethodHandle" ∧ q.1.cls ≠ "java/lang/invoke/VarHandle") ∧ Cond.instantiable q.1.cls q.2 ∈ tables_1 ∧ Cond.privateMethod q.1 ∈ tables_1 ∧ Cond.instanceMethod q.1 ∈ tables_1
theorem lw_p0 : lw_okq (⟨"SpeakClock", "tapeFour", "(I)V"⟩, 14) := ⟨⟨by decide +kernel, by decide +kernel⟩, List.mem_of_getElem? (i := 25) (by decide +kernel), List.mem_of_getElem? (i := 547) (by decide +kernel), List.mem_of_getElem? (i := 548) (by decide +kernel)⟩
theorem lw_p1 : lw_okq (⟨"SpeakClock$Tokens", "isLetter", "(I)Z"⟩, 8) := ⟨⟨by decide +kernel, by decide +kernel⟩, List.mem_of_getElem? (i := 45) (by decide +kernel), List.mem_of_getElem? (i := 578) (by decide +kernel), List.mem_of_getElem? (i := 579) (by decide +kernel)⟩
theorem lw_p2 : lw_okq (⟨"SpeakClock$Tokens", "readWord", "()V"⟩, 8) := ⟨⟨by decide +kernel, by decide +kernel⟩, List.mem_of_getElem? (i := 45) (by decide +kernel), List.mem_of_getElem? (i := 582) (by decide +kernel), List.mem_of_getElem? (i := 583) (by decide +kernel)⟩
theorem lw_p3 : lw_okq (⟨"SpeakClock$Tokens", "wordKind", "()I"⟩, 8) := ⟨⟨by decide +kernel, by decide +kernel⟩, List.mem_of_getElem? (i := 45) (by decide +kernel), List.mem_of_getElem? (i := 586) (by decide +kernel), List.mem_of_getElem? (i := 587) (by decide +kernel)⟩
theorem lw_p4 : lw_okq (⟨"SpeakClock$Tokens", "isDigit", "(I)Z"⟩, 8) := ⟨⟨by decide +kernel, by decide +kernel⟩, List.mem_of_getElem? (i := 45) (by decide +kernel), List.mem_of_getElem? (i := 590) (by decide +kernel), List.mem_of_getElem? (i := 591) (by decide +kernel)⟩
theorem lw_p5 : lw_okq (⟨"SpeakClock$Tokens", "readNumber", "()V"⟩, 8) := ⟨⟨by decide +kernel, by decide +kernel⟩, List.mem_of_getElem? (i := 45) (by decide +kernel), List.mem_of_getElem? (i := 594) (by decide +kernel), List.mem_of_getElem? (i := 595) (by decide +kernel)⟩
theorem lw_p6 : lw_okq (⟨"SpeakClock$Tokens", "lengthenSign", "()V"⟩, 8) := ⟨⟨by decide +kernel, by decide +kernel⟩, List.mem_of_getElem? (i := 45) (by decide +kernel), List.mem_of_getElem? (i := 602) (by decide +kernel), List.mem_of_getElem? (i := 603) (by decide +kernel)⟩
theorem lw_p7 : lw_okq (⟨"SpeakClock$LineReader", "readsLine", "()Z"⟩, 9) := ⟨⟨by decide +kernel, by decide +kernel⟩, List.mem_of_getElem? (i := 33) (by decide +kernel), List.mem_of_getElem? (i := 606) (by decide +kernel), List.mem_of_getElem? (i := 607) (by decide +kernel)⟩
theorem lw_p8 : lw_okq (⟨"SpeakClock$LineReader", "readsMan", "()Z"⟩, 9) := ⟨⟨by decide +kernel, by decide +kernel⟩, List.mem_of_getElem? (i := 33) (by decide +kernel), List.mem_of_getElem? (i := 610) (by decide +kernel), List.mem_of_getElem? (i := 611) (by decide +kernel)⟩
theorem lw_p9 : lw_okq (⟨"SpeakClock$LineReader", "fails", "(I)Z"⟩, 9) := ⟨⟨by decide +kernel, by decide +kernel⟩, List.mem_of_getElem? (i := 33) (by decide +kernel), List.mem_of_getElem? (i := 614) (by decide +kernel), List.mem_of_getElem? (i := 615) (by decide +kernel)⟩
theorem lw_p10 : lw_okq (⟨"SpeakClock$LineReader", "readsNumber", "(II)Z"⟩, 9) := ⟨⟨by decide +kernel, by decide +kernel⟩, List.mem_of_getElem? (i := 33) (by decide +kernel), List.mem_of_getElem? (i := 623) (by decide +kernel), List.mem_of_getElem? (i := 624) (by decide +kernel)⟩
theorem lw_p11 : lw_okq (⟨"SpeakClock$LineReader", "skipsMinus", "()Z"⟩, 9) := ⟨⟨by decide +kernel, by decide +kernel⟩, List.mem_of_getElem? (i := 33) (by decide +kernel), List.mem_of_getElem? (i := 627) (by decide +kernel), List.mem_of_getElem? (i := 628) (by decide +kernel)⟩
theorem lw_p12 : lw_okq (⟨"SpeakClock$LineReader", "readsEnd", "()Z"⟩, 9) := ⟨⟨by decide +kernel, by decide +kernel⟩, List.mem_of_getElem? (i := 33) (by decide +kernel), List.mem_of_getElem? (i := 631) (by decide +kernel), List.mem_of_getElem? (i := 632) (by decide +kernel)⟩
theorem lw_p13 : lw_okq (⟨"SpeakClock$LineReader", "readsRing", "()Z"⟩, 9) := ⟨⟨by decide +kernel, by decide +kernel⟩, List.mem_of_getElem? (i := 33) (by decide +kernel), List.mem_of_getElem? (i := 635) (by decide +kernel), List.mem_of_getElem? (i := 636) (by decide +kernel)⟩
theorem lw_p14 : lw_okq (⟨"SpeakClock$LineReader", "readsPerson", "()Z"⟩, 9) := ⟨⟨by decide +kernel, by decide +kernel⟩, List.mem_of_getElem? (i := 33) (by decide +kernel), List.mem_of_getElem? (i := 639) (by decide +kernel), List.mem_of_getElem? (i := 640) (by decide +kernel)⟩
theorem lw_p15 : lw_okq (⟨"SpeakClock$LineReader", "readsMeet", "()Z"⟩, 9) := ⟨⟨by decide +kernel, by decide +kernel⟩, List.mem_of_getElem? (i := 33) (by decide +kernel), List.mem_of_getElem? (i := 643) (by decide +kernel), List.mem_of_getElem? (i := 644) (by decide +kernel)⟩
def lw_privs_1 : List (MethodName × Nat) := [(⟨"SpeakClock", "tapeFour", "(I)V"⟩, 14), (⟨"SpeakClock$Tokens", "isLetter", "(I)Z"⟩, 8), (⟨"SpeakClock$Tokens", "readWord", "()V"⟩, 8), (⟨"SpeakClock$Tokens", "wordKind", "()I"⟩, 8), (⟨"SpeakClock$Tokens", "isDigit", "(I)Z"⟩, 8), (⟨"SpeakClock$Tokens", "readNumber", "()V"⟩, 8), (⟨"SpeakClock$Tokens", "lengthenSign", "()V"⟩, 8), (⟨"SpeakClock$LineReader", "readsLine", "()Z"⟩, 9), (⟨"SpeakClock$LineReader", "readsMan", "()Z"⟩, 9), (⟨"SpeakClock$LineReader", "fails", "(I)Z"⟩, 9), (⟨"SpeakClock$LineReader", "readsNumber", "(II)Z"⟩, 9), (⟨"SpeakClock$LineReader", "skipsMinus", "()Z"⟩, 9), (⟨"SpeakClock$LineReader", "readsEnd", "()Z"⟩, 9), (⟨"SpeakClock$LineReader", "readsRing", "()Z"⟩, 9), (⟨"SpeakClock$LineReader", "readsPerson", "()Z"⟩, 9), (⟨"SpeakClock$LineReader", "readsMeet", "()Z"⟩, 9)]
theorem lw_r1 : ∀ q ∈ lw_privs_1, lw_okq q := List.forall_mem_cons.mpr ⟨lw_p0, List.forall_mem_cons.mpr ⟨lw_p1, List.forall_mem_cons.mpr ⟨lw_p2, List.forall_mem_cons.mpr ⟨lw_p3, List.forall_mem_cons.mpr ⟨lw_p4, List.forall_mem_cons.mpr ⟨lw_p5, List.forall_mem_cons.mpr ⟨lw_p6, List.forall_mem_cons.mpr ⟨lw_p7, List.forall_mem_cons.mpr ⟨lw_p8, List.forall_mem_cons.mpr ⟨lw_p9, List.forall_mem_cons.mpr ⟨lw_p10, List.forall_mem_cons.mpr ⟨lw_p11, List.forall_mem_cons.mpr ⟨lw_p12, List.forall_mem_cons.mpr ⟨lw_p13, List.forall_mem_cons.mpr ⟨lw_p14, List.forall_mem_cons.mpr ⟨lw_p15, fun _ h => absurd h List.not_mem_nil⟩⟩⟩⟩⟩⟩⟩⟩⟩⟩⟩⟩⟩⟩⟩⟩
theorem lw_p16 : lw_okq (⟨"SpeakClock$LineReader", "readsCold", "()Z"⟩, 9) := ⟨⟨by decide +kernel, by decide +kernel⟩, List.mem_of_getElem? (i := 33) (by decide +kernel), List.mem_of_getElem? (i := 647) (by decide +kernel), List.mem_of_getElem? (i := 648) (by decide +kernel)⟩
theorem lw_p17 : lw_okq (⟨"SpeakClock$LineReader", "readsCrowd", "()Z"⟩, 9) := ⟨⟨by decide +kernel, by decide +kernel⟩, List.mem_of_getElem? (i := 33) (by decide +kernel), List.mem_of_getElem? (i := 651) (by decide +kernel), List.mem_of_getElem? (i := 652) (by decide +kernel)⟩
theorem lw_p18 : lw_okq (⟨"SpeakClock$LineReader", "readsSeed", "()Z"⟩, 9) := ⟨⟨by decide +kernel, by decide +kernel⟩, List.mem_of_getElem? (i := 33) (by decide +kernel), List.mem_of_getElem? (i := 655) (by decide +kernel), List.mem_of_getElem? (i := 656) (by decide +kernel)⟩
theorem lw_p19 : lw_okq (⟨"SpeakClock$LineReader", "readsLaw", "()Z"⟩, 9) := ⟨⟨by decide +kernel, by decide +kernel⟩, List.mem_of_getElem? (i := 33) (by decide +kernel), List.mem_of_getElem? (i := 660) (by decide +kernel), List.mem_of_getElem? (i := 661) (by decide +kernel)⟩
theorem lw_p20 : lw_okq (⟨"SpeakClock$LawReader", "unpile", "(LSpeakClock$Laws;I)V"⟩, 5) := ⟨⟨by decide +kernel, by decide +kernel⟩, List.mem_of_getElem? (i := 39) (by decide +kernel), List.mem_of_getElem? (i := 672) (by decide +kernel), List.mem_of_getElem? (i := 673) (by decide +kernel)⟩
theorem lw_p21 : lw_okq (⟨"SpeakClock$LawReader", "takesValue", "(LSpeakClock$Laws;)I"⟩, 5) := ⟨⟨by decide +kernel, by decide +kernel⟩, List.mem_of_getElem? (i := 39) (by decide +kernel), List.mem_of_getElem? (i := 683) (by decide +kernel), List.mem_of_getElem? (i := 684) (by decide +kernel)⟩
theorem lw_p22 : lw_okq (⟨"SpeakClock$LawReader", "pileUp", "(I)V"⟩, 5) := ⟨⟨by decide +kernel, by decide +kernel⟩, List.mem_of_getElem? (i := 39) (by decide +kernel), List.mem_of_getElem? (i := 687) (by decide +kernel), List.mem_of_getElem? (i := 688) (by decide +kernel)⟩
theorem lw_p23 : lw_okq (⟨"SpeakClock$LawReader", "topLevel", "()I"⟩, 5) := ⟨⟨by decide +kernel, by decide +kernel⟩, List.mem_of_getElem? (i := 39) (by decide +kernel), List.mem_of_getElem? (i := 691) (by decide +kernel), List.mem_of_getElem? (i := 692) (by decide +kernel)⟩
theorem lw_p24 : lw_okq (⟨"SpeakClock$LawReader", "pilesKnot", "(LSpeakClock$Laws;I)I"⟩, 5) := ⟨⟨by decide +kernel, by decide +kernel⟩, List.mem_of_getElem? (i := 39) (by decide +kernel), List.mem_of_getElem? (i := 695) (by decide +kernel), List.mem_of_getElem? (i := 696) (by decide +kernel)⟩
theorem lw_p25 : lw_okq (⟨"SpeakClock$LawReader", "takesSign", "(LSpeakClock$Laws;)I"⟩, 5) := ⟨⟨by decide +kernel, by decide +kernel⟩, List.mem_of_getElem? (i := 39) (by decide +kernel), List.mem_of_getElem? (i := 699) (by decide +kernel), List.mem_of_getElem? (i := 700) (by decide +kernel)⟩
theorem lw_p26 : lw_okq (⟨"SpeakClock", "isMeeting", "(I)Z"⟩, 14) := ⟨⟨by decide +kernel, by decide +kernel⟩, List.mem_of_getElem? (i := 25) (by decide +kernel), List.mem_of_getElem? (i := 725) (by decide +kernel), List.mem_of_getElem? (i := 726) (by decide +kernel)⟩
theorem lw_p27 : lw_okq (⟨"SpeakClock", "isPerson", "(I)Z"⟩, 14) := ⟨⟨by decide +kernel, by decide +kernel⟩, List.mem_of_getElem? (i := 25) (by decide +kernel), List.mem_of_getElem? (i := 733) (by decide +kernel), List.mem_of_getElem? (i := 734) (by decide +kernel)⟩
theorem lw_p28 : lw_okq (⟨"SpeakClock$Way", "takeRings", "(LSpeakClock$Day;)V"⟩, 9) := ⟨⟨by decide +kernel, by decide +kernel⟩, List.mem_of_getElem? (i := 405) (by decide +kernel), List.mem_of_getElem? (i := 816) (by decide +kernel), List.mem_of_getElem? (i := 817) (by decide +kernel)⟩
theorem lw_p29 : lw_okq (⟨"SpeakClock$Way", "isStrangerRinging", "(LSpeakClock$Day;)Z"⟩, 9) := ⟨⟨by decide +kernel, by decide +kernel⟩, List.mem_of_getElem? (i := 405) (by decide +kernel), List.mem_of_getElem? (i := 821) (by decide +kernel), List.mem_of_getElem? (i := 822) (by decide +kernel)⟩
theorem lw_p30 : lw_okq (⟨"SpeakClock$Way", "startTalk", "(LSpeakClock$Day;)V"⟩, 9) := ⟨⟨by decide +kernel, by decide +kernel⟩, List.mem_of_getElem? (i := 405) (by decide +kernel), List.mem_of_getElem? (i := 836) (by decide +kernel), List.mem_of_getElem? (i := 837) (by decide +kernel)⟩
theorem lw_p31 : lw_okq (⟨"SpeakClock$Way", "isCold", "(I)Z"⟩, 9) := ⟨⟨by decide +kernel, by decide +kernel⟩, List.mem_of_getElem? (i := 405) (by decide +kernel), List.mem_of_getElem? (i := 854) (by decide +kernel), List.mem_of_getElem? (i := 855) (by decide +kernel)⟩
def lw_privs_2 : List (MethodName × Nat) := [(⟨"SpeakClock$LineReader", "readsCold", "()Z"⟩, 9), (⟨"SpeakClock$LineReader", "readsCrowd", "()Z"⟩, 9), (⟨"SpeakClock$LineReader", "readsSeed", "()Z"⟩, 9), (⟨"SpeakClock$LineReader", "readsLaw", "()Z"⟩, 9), (⟨"SpeakClock$LawReader", "unpile", "(LSpeakClock$Laws;I)V"⟩, 5), (⟨"SpeakClock$LawReader", "takesValue", "(LSpeakClock$Laws;)I"⟩, 5), (⟨"SpeakClock$LawReader", "pileUp", "(I)V"⟩, 5), (⟨"SpeakClock$LawReader", "topLevel", "()I"⟩, 5), (⟨"SpeakClock$LawReader", "pilesKnot", "(LSpeakClock$Laws;I)I"⟩, 5), (⟨"SpeakClock$LawReader", "takesSign", "(LSpeakClock$Laws;)I"⟩, 5), (⟨"SpeakClock", "isMeeting", "(I)Z"⟩, 14), (⟨"SpeakClock", "isPerson", "(I)Z"⟩, 14), (⟨"SpeakClock$Way", "takeRings", "(LSpeakClock$Day;)V"⟩, 9), (⟨"SpeakClock$Way", "isStrangerRinging", "(LSpeakClock$Day;)Z"⟩, 9), (⟨"SpeakClock$Way", "startTalk", "(LSpeakClock$Day;)V"⟩, 9), (⟨"SpeakClock$Way", "isCold", "(I)Z"⟩, 9)]
theorem lw_r2 : ∀ q ∈ lw_privs_2, lw_okq q := List.forall_mem_cons.mpr ⟨lw_p16, List.forall_mem_cons.mpr ⟨lw_p17, List.forall_mem_cons.mpr ⟨lw_p18, List.forall_mem_cons.mpr ⟨lw_p19, List.forall_mem_cons.mpr ⟨lw_p20, List.forall_mem_cons.mpr ⟨lw_p21, List.forall_mem_cons.mpr ⟨lw_p22, List.forall_mem_cons.mpr ⟨lw_p23, List.forall_mem_cons.mpr ⟨lw_p24, List.forall_mem_cons.mpr ⟨lw_p25, List.forall_mem_cons.mpr ⟨lw_p26, List.forall_mem_cons.mpr ⟨lw_p27, List.forall_mem_cons.mpr ⟨lw_p28, List.forall_mem_cons.mpr ⟨lw_p29, List.forall_mem_cons.mpr ⟨lw_p30, List.forall_mem_cons.mpr ⟨lw_p31, fun _ h => absurd h List.not_mem_nil⟩⟩⟩⟩⟩⟩⟩⟩⟩⟩⟩⟩⟩⟩⟩⟩
theorem lw_p32 : lw_okq (⟨"SpeakClock$Way", "goOnTalking", "(LSpeakClock$Day;)V"⟩, 9) := ⟨⟨by decide +kernel, by decide +kernel⟩, List.mem_of_getElem? (i := 405) (by decide +kernel), List.mem_of_getElem? (i := 859) (by decide +kernel), List.mem_of_getElem? (i := 860) (by decide +kernel)⟩
theorem lw_p33 : lw_okq (⟨"SpeakClock$Way", "driftAll", "(LSpeakClock$Day;)V"⟩, 9) := ⟨⟨by decide +kernel, by decide +kernel⟩, List.mem_of_getElem? (i := 405) (by decide +kernel), List.mem_of_getElem? (i := 865) (by decide +kernel), List.mem_of_getElem? (i := 866) (by decide +kernel)⟩
theorem lw_p34 : lw_okq (⟨"SpeakClock$Way", "meet", "(LSpeakClock$Day;I)V"⟩, 9) := ⟨⟨by decide +kernel, by decide +kernel⟩, List.mem_of_getElem? (i := 405) (by decide +kernel), List.mem_of_getElem? (i := 873) (by decide +kernel), List.mem_of_getElem? (i := 874) (by decide +kernel)⟩
theorem lw_p35 : lw_okq (⟨"SpeakClock", "startTrial", "()V"⟩, 14) := ⟨⟨by decide +kernel, by decide +kernel⟩, List.mem_of_getElem? (i := 25) (by decide +kernel), List.mem_of_getElem? (i := 885) (by decide +kernel), List.mem_of_getElem? (i := 886) (by decide +kernel)⟩
theorem lw_p36 : lw_okq (⟨"SpeakClock", "passTrial", "(I)V"⟩, 14) := ⟨⟨by decide +kernel, by decide +kernel⟩, List.mem_of_getElem? (i := 25) (by decide +kernel), List.mem_of_getElem? (i := 894) (by decide +kernel), List.mem_of_getElem? (i := 895) (by decide +kernel)⟩
theorem lw_p37 : lw_okq (⟨"SpeakClock", "minutesTillTold", "(I)I"⟩, 14) := ⟨⟨by decide +kernel, by decide +kernel⟩, List.mem_of_getElem? (i := 25) (by decide +kernel), List.mem_of_getElem? (i := 906) (by decide +kernel), List.mem_of_getElem? (i := 907) (by decide +kernel)⟩
theorem lw_p38 : lw_okq (⟨"SpeakClock", "spreadIfRinging", "(I)I"⟩, 14) := ⟨⟨by decide +kernel, by decide +kernel⟩, List.mem_of_getElem? (i := 25) (by decide +kernel), List.mem_of_getElem? (i := 924) (by decide +kernel), List.mem_of_getElem? (i := 925) (by decide +kernel)⟩
theorem lw_p39 : lw_okq (⟨"SpeakClock", "isKeptInTrial", "(I)Z"⟩, 14) := ⟨⟨by decide +kernel, by decide +kernel⟩, List.mem_of_getElem? (i := 25) (by decide +kernel), List.mem_of_getElem? (i := 956) (by decide +kernel), List.mem_of_getElem? (i := 957) (by decide +kernel)⟩
theorem lw_p40 : lw_okq (⟨"SpeakClock", "areTwo", "(II)Z"⟩, 14) := ⟨⟨by decide +kernel, by decide +kernel⟩, List.mem_of_getElem? (i := 25) (by decide +kernel), List.mem_of_getElem? (i := 972) (by decide +kernel), List.mem_of_getElem? (i := 973) (by decide +kernel)⟩
theorem lw_p41 : lw_okq (⟨"SpeakClock", "isRest", "(III)Z"⟩, 14) := ⟨⟨by decide +kernel, by decide +kernel⟩, List.mem_of_getElem? (i := 25) (by decide +kernel), List.mem_of_getElem? (i := 976) (by decide +kernel), List.mem_of_getElem? (i := 977) (by decide +kernel)⟩
theorem lw_p42 : lw_okq (⟨"SpeakClock", "isAllSeenSo", "()Z"⟩, 14) := ⟨⟨by decide +kernel, by decide +kernel⟩, List.mem_of_getElem? (i := 25) (by decide +kernel), List.mem_of_getElem? (i := 1046) (by decide +kernel), List.mem_of_getElem? (i := 1047) (by decide +kernel)⟩
theorem lw_p43 : lw_okq (⟨"java/lang/Throwable", "fillInStackTrace", "(I)Ljava/lang/Throwable;"⟩, 6) := ⟨⟨by decide +kernel, by decide +kernel⟩, List.mem_of_getElem? (i := 1142) (by decide +kernel), List.mem_of_getElem? (i := 1140) (by decide +kernel), List.mem_of_getElem? (i := 1141) (by decide +kernel)⟩
theorem lw_p44 : lw_okq (⟨"SpeakClockModel", "plain", "()V"⟩, 85) := ⟨⟨by decide +kernel, by decide +kernel⟩, List.mem_of_getElem? (i := 1188) (by decide +kernel), List.mem_of_getElem? (i := 1194) (by decide +kernel), List.mem_of_getElem? (i := 1195) (by decide +kernel)⟩
theorem lw_p45 : lw_okq (⟨"SpeakClockModel", "keepText", "()V"⟩, 85) := ⟨⟨by decide +kernel, by decide +kernel⟩, List.mem_of_getElem? (i := 1188) (by decide +kernel), List.mem_of_getElem? (i := 1198) (by decide +kernel), List.mem_of_getElem? (i := 1199) (by decide +kernel)⟩
theorem lw_p46 : lw_okq (⟨"SpeakClockModel", "begin", "()V"⟩, 85) := ⟨⟨by decide +kernel, by decide +kernel⟩, List.mem_of_getElem? (i := 1188) (by decide +kernel), List.mem_of_getElem? (i := 1205) (by decide +kernel), List.mem_of_getElem? (i := 1206) (by decide +kernel)⟩
theorem lw_p47 : lw_okq (⟨"SpeakClockModel", "atFirst", "(I)V"⟩, 85) := ⟨⟨by decide +kernel, by decide +kernel⟩, List.mem_of_getElem? (i := 1188) (by decide +kernel), List.mem_of_getElem? (i := 1209) (by decide +kernel), List.mem_of_getElem? (i := 1210) (by decide +kernel)⟩
def lw_privs_3 : List (MethodName × Nat) := [(⟨"SpeakClock$Way", "goOnTalking", "(LSpeakClock$Day;)V"⟩, 9), (⟨"SpeakClock$Way", "driftAll", "(LSpeakClock$Day;)V"⟩, 9), (⟨"SpeakClock$Way", "meet", "(LSpeakClock$Day;I)V"⟩, 9), (⟨"SpeakClock", "startTrial", "()V"⟩, 14), (⟨"SpeakClock", "passTrial", "(I)V"⟩, 14), (⟨"SpeakClock", "minutesTillTold", "(I)I"⟩, 14), (⟨"SpeakClock", "spreadIfRinging", "(I)I"⟩, 14), (⟨"SpeakClock", "isKeptInTrial", "(I)Z"⟩, 14), (⟨"SpeakClock", "areTwo", "(II)Z"⟩, 14), (⟨"SpeakClock", "isRest", "(III)Z"⟩, 14), (⟨"SpeakClock", "isAllSeenSo", "()Z"⟩, 14), (⟨"java/lang/Throwable", "fillInStackTrace", "(I)Ljava/lang/Throwable;"⟩, 6), (⟨"SpeakClockModel", "plain", "()V"⟩, 85), (⟨"SpeakClockModel", "keepText", "()V"⟩, 85), (⟨"SpeakClockModel", "begin", "()V"⟩, 85), (⟨"SpeakClockModel", "atFirst", "(I)V"⟩, 85)]
theorem lw_r3 : ∀ q ∈ lw_privs_3, lw_okq q := List.forall_mem_cons.mpr ⟨lw_p32, List.forall_mem_cons.mpr ⟨lw_p33, List.forall_mem_cons.mpr ⟨lw_p34, List.forall_mem_cons.mpr ⟨lw_p35, List.forall_mem_cons.mpr ⟨lw_p36, List.forall_mem_cons.mpr ⟨lw_p37, List.forall_mem_cons.mpr ⟨lw_p38, List.forall_mem_cons.mpr ⟨lw_p39, List.forall_mem_cons.mpr ⟨lw_p40, List.forall_mem_cons.mpr ⟨lw_p41, List.forall_mem_cons.mpr ⟨lw_p42, List.forall_mem_cons.mpr ⟨lw_p43, List.forall_mem_cons.mpr ⟨lw_p44, List.forall_mem_cons.mpr ⟨lw_p45, List.forall_mem_cons.mpr ⟨lw_p46, List.forall_mem_cons.mpr ⟨lw_p47, fun _ h => absurd h List.not_mem_nil⟩⟩⟩⟩⟩⟩⟩⟩⟩⟩⟩⟩⟩⟩⟩⟩
theorem lw_p48 : lw_okq (⟨"SpeakClockModel", "plainTried", "()V"⟩, 85) := ⟨⟨by decide +kernel, by decide +kernel⟩, List.mem_of_getElem? (i := 1188) (by decide +kernel), List.mem_of_getElem? (i := 1213) (by decide +kernel), List.mem_of_getElem? (i := 1214) (by decide +kernel)⟩
theorem lw_p49 : lw_okq (⟨"SpeakClockModel", "token", "()V"⟩, 85) := ⟨⟨by decide +kernel, by decide +kernel⟩, List.mem_of_getElem? (i := 1188) (by decide +kernel), List.mem_of_getElem? (i := 1485) (by decide +kernel), List.mem_of_getElem? (i := 1486) (by decide +kernel)⟩
theorem lw_p50 : lw_okq (⟨"SpeakClockModel", "isSmall", "(I)Z"⟩, 85) := ⟨⟨by decide +kernel, by decide +kernel⟩, List.mem_of_getElem? (i := 1188) (by decide +kernel), List.mem_of_getElem? (i := 1489) (by decide +kernel), List.mem_of_getElem? (i := 1490) (by decide +kernel)⟩
theorem lw_p51 : lw_okq (⟨"SpeakClockModel", "wordAt", "(II)I"⟩, 85) := ⟨⟨by decide +kernel, by decide +kernel⟩, List.mem_of_getElem? (i := 1188) (by decide +kernel), List.mem_of_getElem? (i := 1493) (by decide +kernel), List.mem_of_getElem? (i := 1494) (by decide +kernel)⟩
theorem lw_p52 : lw_okq (⟨"SpeakClockModel", "packed", "(II)I"⟩, 85) := ⟨⟨by decide +kernel, by decide +kernel⟩, List.mem_of_getElem? (i := 1188) (by decide +kernel), List.mem_of_getElem? (i := 1497) (by decide +kernel), List.mem_of_getElem? (i := 1498) (by decide +kernel)⟩
theorem lw_p53 : lw_okq (⟨"SpeakClockModel", "isDigit", "(I)Z"⟩, 85) := ⟨⟨by decide +kernel, by decide +kernel⟩, List.mem_of_getElem? (i := 1188) (by decide +kernel), List.mem_of_getElem? (i := 1501) (by decide +kernel), List.mem_of_getElem? (i := 1502) (by decide +kernel)⟩
theorem lw_p54 : lw_okq (⟨"SpeakClockModel", "signToken", "()V"⟩, 85) := ⟨⟨by decide +kernel, by decide +kernel⟩, List.mem_of_getElem? (i := 1188) (by decide +kernel), List.mem_of_getElem? (i := 1506) (by decide +kernel), List.mem_of_getElem? (i := 1507) (by decide +kernel)⟩
theorem lw_p55 : lw_okq (⟨"SpeakClockModel", "lineRead", "()Z"⟩, 85) := ⟨⟨by decide +kernel, by decide +kernel⟩, List.mem_of_getElem? (i := 1188) (by decide +kernel), List.mem_of_getElem? (i := 1510) (by decide +kernel), List.mem_of_getElem? (i := 1511) (by decide +kernel)⟩
theorem lw_p56 : lw_okq (⟨"SpeakClockModel", "wrong", "(I)Z"⟩, 85) := ⟨⟨by decide +kernel, by decide +kernel⟩, List.mem_of_getElem? (i := 1188) (by decide +kernel), List.mem_of_getElem? (i := 1514) (by decide +kernel), List.mem_of_getElem? (i := 1515) (by decide +kernel)⟩
theorem lw_p57 : lw_okq (⟨"SpeakClockModel", "manLine", "()Z"⟩, 85) := ⟨⟨by decide +kernel, by decide +kernel⟩, List.mem_of_getElem? (i := 1188) (by decide +kernel), List.mem_of_getElem? (i := 1518) (by decide +kernel), List.mem_of_getElem? (i := 1519) (by decide +kernel)⟩
theorem lw_p58 : lw_okq (⟨"SpeakClockModel", "number", "(II)Z"⟩, 85) := ⟨⟨by decide +kernel, by decide +kernel⟩, List.mem_of_getElem? (i := 1188) (by decide +kernel), List.mem_of_getElem? (i := 1525) (by decide +kernel), List.mem_of_getElem? (i := 1526) (by decide +kernel)⟩
theorem lw_p59 : lw_okq (⟨"SpeakClockModel", "signed", "(I)Z"⟩, 85) := ⟨⟨by decide +kernel, by decide +kernel⟩, List.mem_of_getElem? (i := 1188) (by decide +kernel), List.mem_of_getElem? (i := 1532) (by decide +kernel), List.mem_of_getElem? (i := 1533) (by decide +kernel)⟩
theorem lw_p60 : lw_okq (⟨"SpeakClockModel", "isSign", "(I)Z"⟩, 85) := ⟨⟨by decide +kernel, by decide +kernel⟩, List.mem_of_getElem? (i := 1188) (by decide +kernel), List.mem_of_getElem? (i := 1536) (by decide +kernel), List.mem_of_getElem? (i := 1537) (by decide +kernel)⟩
theorem lw_p61 : lw_okq (⟨"SpeakClockModel", "ringLine", "()Z"⟩, 85) := ⟨⟨by decide +kernel, by decide +kernel⟩, List.mem_of_getElem? (i := 1188) (by decide +kernel), List.mem_of_getElem? (i := 1540) (by decide +kernel), List.mem_of_getElem? (i := 1541) (by decide +kernel)⟩
theorem lw_p62 : lw_okq (⟨"SpeakClockModel", "manThere", "()Z"⟩, 85) := ⟨⟨by decide +kernel, by decide +kernel⟩, List.mem_of_getElem? (i := 1188) (by decide +kernel), List.mem_of_getElem? (i := 1544) (by decide +kernel), List.mem_of_getElem? (i := 1545) (by decide +kernel)⟩
theorem lw_p63 : lw_okq (⟨"SpeakClockModel", "meetLine", "()Z"⟩, 85) := ⟨⟨by decide +kernel, by decide +kernel⟩, List.mem_of_getElem? (i := 1188) (by decide +kernel), List.mem_of_getElem? (i := 1548) (by decide +kernel), List.mem_of_getElem? (i := 1549) (by decide +kernel)⟩
def lw_privs_4 : List (MethodName × Nat) := [(⟨"SpeakClockModel", "plainTried", "()V"⟩, 85), (⟨"SpeakClockModel", "token", "()V"⟩, 85), (⟨"SpeakClockModel", "isSmall", "(I)Z"⟩, 85), (⟨"SpeakClockModel", "wordAt", "(II)I"⟩, 85), (⟨"SpeakClockModel", "packed", "(II)I"⟩, 85), (⟨"SpeakClockModel", "isDigit", "(I)Z"⟩, 85), (⟨"SpeakClockModel", "signToken", "()V"⟩, 85), (⟨"SpeakClockModel", "lineRead", "()Z"⟩, 85), (⟨"SpeakClockModel", "wrong", "(I)Z"⟩, 85), (⟨"SpeakClockModel", "manLine", "()Z"⟩, 85), (⟨"SpeakClockModel", "number", "(II)Z"⟩, 85), (⟨"SpeakClockModel", "signed", "(I)Z"⟩, 85), (⟨"SpeakClockModel", "isSign", "(I)Z"⟩, 85), (⟨"SpeakClockModel", "ringLine", "()Z"⟩, 85), (⟨"SpeakClockModel", "manThere", "()Z"⟩, 85), (⟨"SpeakClockModel", "meetLine", "()Z"⟩, 85)]
theorem lw_r4 : ∀ q ∈ lw_privs_4, lw_okq q := List.forall_mem_cons.mpr ⟨lw_p48, List.forall_mem_cons.mpr ⟨lw_p49, List.forall_mem_cons.mpr ⟨lw_p50, List.forall_mem_cons.mpr ⟨lw_p51, List.forall_mem_cons.mpr ⟨lw_p52, List.forall_mem_cons.mpr ⟨lw_p53, List.forall_mem_cons.mpr ⟨lw_p54, List.forall_mem_cons.mpr ⟨lw_p55, List.forall_mem_cons.mpr ⟨lw_p56, List.forall_mem_cons.mpr ⟨lw_p57, List.forall_mem_cons.mpr ⟨lw_p58, List.forall_mem_cons.mpr ⟨lw_p59, List.forall_mem_cons.mpr ⟨lw_p60, List.forall_mem_cons.mpr ⟨lw_p61, List.forall_mem_cons.mpr ⟨lw_p62, List.forall_mem_cons.mpr ⟨lw_p63, fun _ h => absurd h List.not_mem_nil⟩⟩⟩⟩⟩⟩⟩⟩⟩⟩⟩⟩⟩⟩⟩⟩
theorem lw_p64 : lw_okq (⟨"SpeakClockModel", "coldLine", "()Z"⟩, 85) := ⟨⟨by decide +kernel, by decide +kernel⟩, List.mem_of_getElem? (i := 1188) (by decide +kernel), List.mem_of_getElem? (i := 1552) (by decide +kernel), List.mem_of_getElem? (i := 1553) (by decide +kernel)⟩
theorem lw_p65 : lw_okq (⟨"SpeakClockModel", "onceLine", "(II)Z"⟩, 85) := ⟨⟨by decide +kernel, by decide +kernel⟩, List.mem_of_getElem? (i := 1188) (by decide +kernel), List.mem_of_getElem? (i := 1556) (by decide +kernel), List.mem_of_getElem? (i := 1557) (by decide +kernel)⟩
theorem lw_p66 : lw_okq (⟨"SpeakClockModel", "sumRead", "()Z"⟩, 85) := ⟨⟨by decide +kernel, by decide +kernel⟩, List.mem_of_getElem? (i := 1188) (by decide +kernel), List.mem_of_getElem? (i := 1560) (by decide +kernel), List.mem_of_getElem? (i := 1561) (by decide +kernel)⟩
theorem lw_p67 : lw_okq (⟨"SpeakClockModel", "leafRead", "()Z"⟩, 85) := ⟨⟨by decide +kernel, by decide +kernel⟩, List.mem_of_getElem? (i := 1188) (by decide +kernel), List.mem_of_getElem? (i := 1564) (by decide +kernel), List.mem_of_getElem? (i := 1565) (by decide +kernel)⟩
theorem lw_p68 : lw_okq (⟨"SpeakClockModel", "waitsFor", "(I)V"⟩, 85) := ⟨⟨by decide +kernel, by decide +kernel⟩, List.mem_of_getElem? (i := 1188) (by decide +kernel), List.mem_of_getElem? (i := 1568) (by decide +kernel), List.mem_of_getElem? (i := 1569) (by decide +kernel)⟩
theorem lw_p69 : lw_okq (⟨"SpeakClockModel", "isKey", "(I)Z"⟩, 85) := ⟨⟨by decide +kernel, by decide +kernel⟩, List.mem_of_getElem? (i := 1188) (by decide +kernel), List.mem_of_getElem? (i := 1572) (by decide +kernel), List.mem_of_getElem? (i := 1573) (by decide +kernel)⟩
theorem lw_p70 : lw_okq (⟨"SpeakClockModel", "isCounted", "()Z"⟩, 85) := ⟨⟨by decide +kernel, by decide +kernel⟩, List.mem_of_getElem? (i := 1188) (by decide +kernel), List.mem_of_getElem? (i := 1576) (by decide +kernel), List.mem_of_getElem? (i := 1577) (by decide +kernel)⟩
theorem lw_p71 : lw_okq (⟨"SpeakClockModel", "nameMet", "()I"⟩, 85) := ⟨⟨by decide +kernel, by decide +kernel⟩, List.mem_of_getElem? (i := 1188) (by decide +kernel), List.mem_of_getElem? (i := 1580) (by decide +kernel), List.mem_of_getElem? (i := 1581) (by decide +kernel)⟩
theorem lw_p72 : lw_okq (⟨"SpeakClockModel", "grown", "(III)V"⟩, 85) := ⟨⟨by decide +kernel, by decide +kernel⟩, List.mem_of_getElem? (i := 1188) (by decide +kernel), List.mem_of_getElem? (i := 1584) (by decide +kernel), List.mem_of_getElem? (i := 1585) (by decide +kernel)⟩
theorem lw_p73 : lw_okq (⟨"SpeakClockModel", "signs", "()Z"⟩, 85) := ⟨⟨by decide +kernel, by decide +kernel⟩, List.mem_of_getElem? (i := 1188) (by decide +kernel), List.mem_of_getElem? (i := 1588) (by decide +kernel), List.mem_of_getElem? (i := 1589) (by decide +kernel)⟩
theorem lw_p74 : lw_okq (⟨"SpeakClockModel", "bind", "(I)V"⟩, 85) := ⟨⟨by decide +kernel, by decide +kernel⟩, List.mem_of_getElem? (i := 1188) (by decide +kernel), List.mem_of_getElem? (i := 1592) (by decide +kernel), List.mem_of_getElem? (i := 1593) (by decide +kernel)⟩
theorem lw_p75 : lw_okq (⟨"SpeakClockModel", "dropHeld", "()I"⟩, 85) := ⟨⟨by decide +kernel, by decide +kernel⟩, List.mem_of_getElem? (i := 1188) (by decide +kernel), List.mem_of_getElem? (i := 1599) (by decide +kernel), List.mem_of_getElem? (i := 1600) (by decide +kernel)⟩
theorem lw_p76 : lw_okq (⟨"SpeakClockModel", "isMan", "(I)Z"⟩, 85) := ⟨⟨by decide +kernel, by decide +kernel⟩, List.mem_of_getElem? (i := 1188) (by decide +kernel), List.mem_of_getElem? (i := 1615) (by decide +kernel), List.mem_of_getElem? (i := 1616) (by decide +kernel)⟩
theorem lw_p77 : lw_okq (⟨"SpeakClockModel", "fails", "(I)I"⟩, 85) := ⟨⟨by decide +kernel, by decide +kernel⟩, List.mem_of_getElem? (i := 1188) (by decide +kernel), List.mem_of_getElem? (i := 1619) (by decide +kernel), List.mem_of_getElem? (i := 1620) (by decide +kernel)⟩
theorem lw_p78 : lw_okq (⟨"SpeakClockModel", "placeOf", "(I)I"⟩, 85) := ⟨⟨by decide +kernel, by decide +kernel⟩, List.mem_of_getElem? (i := 1188) (by decide +kernel), List.mem_of_getElem? (i := 1623) (by decide +kernel), List.mem_of_getElem? (i := 1624) (by decide +kernel)⟩
theorem lw_p79 : lw_okq (⟨"SpeakClockModel", "isMeeting", "(I)Z"⟩, 85) := ⟨⟨by decide +kernel, by decide +kernel⟩, List.mem_of_getElem? (i := 1188) (by decide +kernel), List.mem_of_getElem? (i := 1631) (by decide +kernel), List.mem_of_getElem? (i := 1632) (by decide +kernel)⟩
def lw_privs_5 : List (MethodName × Nat) := [(⟨"SpeakClockModel", "coldLine", "()Z"⟩, 85), (⟨"SpeakClockModel", "onceLine", "(II)Z"⟩, 85), (⟨"SpeakClockModel", "sumRead", "()Z"⟩, 85), (⟨"SpeakClockModel", "leafRead", "()Z"⟩, 85), (⟨"SpeakClockModel", "waitsFor", "(I)V"⟩, 85), (⟨"SpeakClockModel", "isKey", "(I)Z"⟩, 85), (⟨"SpeakClockModel", "isCounted", "()Z"⟩, 85), (⟨"SpeakClockModel", "nameMet", "()I"⟩, 85), (⟨"SpeakClockModel", "grown", "(III)V"⟩, 85), (⟨"SpeakClockModel", "signs", "()Z"⟩, 85), (⟨"SpeakClockModel", "bind", "(I)V"⟩, 85), (⟨"SpeakClockModel", "dropHeld", "()I"⟩, 85), (⟨"SpeakClockModel", "isMan", "(I)Z"⟩, 85), (⟨"SpeakClockModel", "fails", "(I)I"⟩, 85), (⟨"SpeakClockModel", "placeOf", "(I)I"⟩, 85), (⟨"SpeakClockModel", "isMeeting", "(I)Z"⟩, 85)]
theorem lw_r5 : ∀ q ∈ lw_privs_5, lw_okq q := List.forall_mem_cons.mpr ⟨lw_p64, List.forall_mem_cons.mpr ⟨lw_p65, List.forall_mem_cons.mpr ⟨lw_p66, List.forall_mem_cons.mpr ⟨lw_p67, List.forall_mem_cons.mpr ⟨lw_p68, List.forall_mem_cons.mpr ⟨lw_p69, List.forall_mem_cons.mpr ⟨lw_p70, List.forall_mem_cons.mpr ⟨lw_p71, List.forall_mem_cons.mpr ⟨lw_p72, List.forall_mem_cons.mpr ⟨lw_p73, List.forall_mem_cons.mpr ⟨lw_p74, List.forall_mem_cons.mpr ⟨lw_p75, List.forall_mem_cons.mpr ⟨lw_p76, List.forall_mem_cons.mpr ⟨lw_p77, List.forall_mem_cons.mpr ⟨lw_p78, List.forall_mem_cons.mpr ⟨lw_p79, fun _ h => absurd h List.not_mem_nil⟩⟩⟩⟩⟩⟩⟩⟩⟩⟩⟩⟩⟩⟩⟩⟩
theorem lw_p80 : lw_okq (⟨"SpeakClockModel", "layNames", "(III)V"⟩, 85) := ⟨⟨by decide +kernel, by decide +kernel⟩, List.mem_of_getElem? (i := 1188) (by decide +kernel), List.mem_of_getElem? (i := 1645) (by decide +kernel), List.mem_of_getElem? (i := 1646) (by decide +kernel)⟩
theorem lw_p81 : lw_okq (⟨"SpeakClockModel", "waitsOf", "(I)I"⟩, 85) := ⟨⟨by decide +kernel, by decide +kernel⟩, List.mem_of_getElem? (i := 1188) (by decide +kernel), List.mem_of_getElem? (i := 1649) (by decide +kernel), List.mem_of_getElem? (i := 1650) (by decide +kernel)⟩
theorem lw_p82 : lw_okq (⟨"SpeakClockModel", "rateIn", "(I)I"⟩, 85) := ⟨⟨by decide +kernel, by decide +kernel⟩, List.mem_of_getElem? (i := 1188) (by decide +kernel), List.mem_of_getElem? (i := 1653) (by decide +kernel), List.mem_of_getElem? (i := 1654) (by decide +kernel)⟩
theorem lw_p83 : lw_okq (⟨"SpeakClockModel", "lawOf", "(I)J"⟩, 85) := ⟨⟨by decide +kernel, by decide +kernel⟩, List.mem_of_getElem? (i := 1188) (by decide +kernel), List.mem_of_getElem? (i := 1657) (by decide +kernel), List.mem_of_getElem? (i := 1658) (by decide +kernel)⟩
theorem lw_p84 : lw_okq (⟨"SpeakClockModel", "valueOf", "(I)J"⟩, 85) := ⟨⟨by decide +kernel, by decide +kernel⟩, List.mem_of_getElem? (i := 1188) (by decide +kernel), List.mem_of_getElem? (i := 1661) (by decide +kernel), List.mem_of_getElem? (i := 1662) (by decide +kernel)⟩
theorem lw_p85 : lw_okq (⟨"SpeakClockModel", "bounded", "(J)J"⟩, 85) := ⟨⟨by decide +kernel, by decide +kernel⟩, List.mem_of_getElem? (i := 1188) (by decide +kernel), List.mem_of_getElem? (i := 1665) (by decide +kernel), List.mem_of_getElem? (i := 1666) (by decide +kernel)⟩
theorem lw_p86 : lw_okq (⟨"SpeakClockModel", "times", "(JJ)J"⟩, 85) := ⟨⟨by decide +kernel, by decide +kernel⟩, List.mem_of_getElem? (i := 1188) (by decide +kernel), List.mem_of_getElem? (i := 1671) (by decide +kernel), List.mem_of_getElem? (i := 1672) (by decide +kernel)⟩
theorem lw_p87 : lw_okq (⟨"SpeakClockModel", "remember", "()V"⟩, 85) := ⟨⟨by decide +kernel, by decide +kernel⟩, List.mem_of_getElem? (i := 1188) (by decide +kernel), List.mem_of_getElem? (i := 1682) (by decide +kernel), List.mem_of_getElem? (i := 1683) (by decide +kernel)⟩
theorem lw_p88 : lw_okq (⟨"SpeakClockModel", "put", "([II)V"⟩, 85) := ⟨⟨by decide +kernel, by decide +kernel⟩, List.mem_of_getElem? (i := 1188) (by decide +kernel), List.mem_of_getElem? (i := 1686) (by decide +kernel), List.mem_of_getElem? (i := 1687) (by decide +kernel)⟩
theorem lw_p89 : lw_okq (⟨"SpeakClockModel", "joins", "(II)Z"⟩, 85) := ⟨⟨by decide +kernel, by decide +kernel⟩, List.mem_of_getElem? (i := 1188) (by decide +kernel), List.mem_of_getElem? (i := 1690) (by decide +kernel), List.mem_of_getElem? (i := 1691) (by decide +kernel)⟩
theorem lw_p90 : lw_okq (⟨"SpeakClockModel", "leaves", "(II)V"⟩, 85) := ⟨⟨by decide +kernel, by decide +kernel⟩, List.mem_of_getElem? (i := 1188) (by decide +kernel), List.mem_of_getElem? (i := 1698) (by decide +kernel), List.mem_of_getElem? (i := 1699) (by decide +kernel)⟩
theorem lw_p91 : lw_okq (⟨"SpeakClockModel", "isOpen", "(I)Z"⟩, 85) := ⟨⟨by decide +kernel, by decide +kernel⟩, List.mem_of_getElem? (i := 1188) (by decide +kernel), List.mem_of_getElem? (i := 1710) (by decide +kernel), List.mem_of_getElem? (i := 1711) (by decide +kernel)⟩
theorem lw_p92 : lw_okq (⟨"SpeakClockModel", "minuteGoes", "(I)V"⟩, 85) := ⟨⟨by decide +kernel, by decide +kernel⟩, List.mem_of_getElem? (i := 1188) (by decide +kernel), List.mem_of_getElem? (i := 1718) (by decide +kernel), List.mem_of_getElem? (i := 1719) (by decide +kernel)⟩
theorem lw_p93 : lw_okq (⟨"SpeakClockModel", "isStranger", "()Z"⟩, 85) := ⟨⟨by decide +kernel, by decide +kernel⟩, List.mem_of_getElem? (i := 1188) (by decide +kernel), List.mem_of_getElem? (i := 1722) (by decide +kernel), List.mem_of_getElem? (i := 1723) (by decide +kernel)⟩
theorem lw_p94 : lw_okq (⟨"SpeakClockModel", "number1", "(I)I"⟩, 85) := ⟨⟨by decide +kernel, by decide +kernel⟩, List.mem_of_getElem? (i := 1188) (by decide +kernel), List.mem_of_getElem? (i := 1726) (by decide +kernel), List.mem_of_getElem? (i := 1727) (by decide +kernel)⟩
theorem lw_p95 : lw_okq (⟨"SpeakClockModel", "begins", "(I)V"⟩, 85) := ⟨⟨by decide +kernel, by decide +kernel⟩, List.mem_of_getElem? (i := 1188) (by decide +kernel), List.mem_of_getElem? (i := 1734) (by decide +kernel), List.mem_of_getElem? (i := 1735) (by decide +kernel)⟩
def lw_privs_6 : List (MethodName × Nat) := [(⟨"SpeakClockModel", "layNames", "(III)V"⟩, 85), (⟨"SpeakClockModel", "waitsOf", "(I)I"⟩, 85), (⟨"SpeakClockModel", "rateIn", "(I)I"⟩, 85), (⟨"SpeakClockModel", "lawOf", "(I)J"⟩, 85), (⟨"SpeakClockModel", "valueOf", "(I)J"⟩, 85), (⟨"SpeakClockModel", "bounded", "(J)J"⟩, 85), (⟨"SpeakClockModel", "times", "(JJ)J"⟩, 85), (⟨"SpeakClockModel", "remember", "()V"⟩, 85), (⟨"SpeakClockModel", "put", "([II)V"⟩, 85), (⟨"SpeakClockModel", "joins", "(II)Z"⟩, 85), (⟨"SpeakClockModel", "leaves", "(II)V"⟩, 85), (⟨"SpeakClockModel", "isOpen", "(I)Z"⟩, 85), (⟨"SpeakClockModel", "minuteGoes", "(I)V"⟩, 85), (⟨"SpeakClockModel", "isStranger", "()Z"⟩, 85), (⟨"SpeakClockModel", "number1", "(I)I"⟩, 85), (⟨"SpeakClockModel", "begins", "(I)V"⟩, 85)]
theorem lw_r6 : ∀ q ∈ lw_privs_6, lw_okq q := List.forall_mem_cons.mpr ⟨lw_p80, List.forall_mem_cons.mpr ⟨lw_p81, List.forall_mem_cons.mpr ⟨lw_p82, List.forall_mem_cons.mpr ⟨lw_p83, List.forall_mem_cons.mpr ⟨lw_p84, List.forall_mem_cons.mpr ⟨lw_p85, List.forall_mem_cons.mpr ⟨lw_p86, List.forall_mem_cons.mpr ⟨lw_p87, List.forall_mem_cons.mpr ⟨lw_p88, List.forall_mem_cons.mpr ⟨lw_p89, List.forall_mem_cons.mpr ⟨lw_p90, List.forall_mem_cons.mpr ⟨lw_p91, List.forall_mem_cons.mpr ⟨lw_p92, List.forall_mem_cons.mpr ⟨lw_p93, List.forall_mem_cons.mpr ⟨lw_p94, List.forall_mem_cons.mpr ⟨lw_p95, fun _ h => absurd h List.not_mem_nil⟩⟩⟩⟩⟩⟩⟩⟩⟩⟩⟩⟩⟩⟩⟩⟩
theorem lw_p96 : lw_okq (⟨"SpeakClockModel", "boundLaw", "(IIII)I"⟩, 85) := ⟨⟨by decide +kernel, by decide +kernel⟩, List.mem_of_getElem? (i := 1188) (by decide +kernel), List.mem_of_getElem? (i := 1738) (by decide +kernel), List.mem_of_getElem? (i := 1739) (by decide +kernel)⟩
theorem lw_p97 : lw_okq (⟨"SpeakClockModel", "isCold", "(I)Z"⟩, 85) := ⟨⟨by decide +kernel, by decide +kernel⟩, List.mem_of_getElem? (i := 1188) (by decide +kernel), List.mem_of_getElem? (i := 1742) (by decide +kernel), List.mem_of_getElem? (i := 1743) (by decide +kernel)⟩
theorem lw_p98 : lw_okq (⟨"SpeakClockModel", "isTold", "(I)V"⟩, 85) := ⟨⟨by decide +kernel, by decide +kernel⟩, List.mem_of_getElem? (i := 1188) (by decide +kernel), List.mem_of_getElem? (i := 1746) (by decide +kernel), List.mem_of_getElem? (i := 1747) (by decide +kernel)⟩
theorem lw_p99 : lw_okq (⟨"SpeakClockModel", "drifts", "(I)V"⟩, 85) := ⟨⟨by decide +kernel, by decide +kernel⟩, List.mem_of_getElem? (i := 1188) (by decide +kernel), List.mem_of_getElem? (i := 1750) (by decide +kernel), List.mem_of_getElem? (i := 1751) (by decide +kernel)⟩
theorem lw_p100 : lw_okq (⟨"SpeakClockModel", "meets", "(II)V"⟩, 85) := ⟨⟨by decide +kernel, by decide +kernel⟩, List.mem_of_getElem? (i := 1188) (by decide +kernel), List.mem_of_getElem? (i := 1757) (by decide +kernel), List.mem_of_getElem? (i := 1758) (by decide +kernel)⟩
theorem lw_p101 : lw_okq (⟨"SpeakClockModel", "comes", "(III)V"⟩, 85) := ⟨⟨by decide +kernel, by decide +kernel⟩, List.mem_of_getElem? (i := 1188) (by decide +kernel), List.mem_of_getElem? (i := 1761) (by decide +kernel), List.mem_of_getElem? (i := 1762) (by decide +kernel)⟩
theorem lw_p102 : lw_okq (⟨"SpeakClockModel", "layTried", "()V"⟩, 85) := ⟨⟨by decide +kernel, by decide +kernel⟩, List.mem_of_getElem? (i := 1188) (by decide +kernel), List.mem_of_getElem? (i := 1769) (by decide +kernel), List.mem_of_getElem? (i := 1770) (by decide +kernel)⟩
theorem lw_p103 : lw_okq (⟨"SpeakClockModel", "goMany", "(I)V"⟩, 85) := ⟨⟨by decide +kernel, by decide +kernel⟩, List.mem_of_getElem? (i := 1188) (by decide +kernel), List.mem_of_getElem? (i := 1773) (by decide +kernel), List.mem_of_getElem? (i := 1774) (by decide +kernel)⟩
theorem lw_p104 : lw_okq (⟨"SpeakClockModel", "are", "(II)I"⟩, 85) := ⟨⟨by decide +kernel, by decide +kernel⟩, List.mem_of_getElem? (i := 1188) (by decide +kernel), List.mem_of_getElem? (i := 1777) (by decide +kernel), List.mem_of_getElem? (i := 1778) (by decide +kernel)⟩
theorem lw_p105 : lw_okq (⟨"SpeakClockModel", "toldBy", "(I)I"⟩, 85) := ⟨⟨by decide +kernel, by decide +kernel⟩, List.mem_of_getElem? (i := 1188) (by decide +kernel), List.mem_of_getElem? (i := 1785) (by decide +kernel), List.mem_of_getElem? (i := 1786) (by decide +kernel)⟩
theorem lw_p106 : lw_okq (⟨"SpeakClockModel", "spread", "(II)I"⟩, 85) := ⟨⟨by decide +kernel, by decide +kernel⟩, List.mem_of_getElem? (i := 1188) (by decide +kernel), List.mem_of_getElem? (i := 1803) (by decide +kernel), List.mem_of_getElem? (i := 1804) (by decide +kernel)⟩
theorem lw_p107 : lw_okq (⟨"SpeakClockModel", "areTwo", "(II)Z"⟩, 85) := ⟨⟨by decide +kernel, by decide +kernel⟩, List.mem_of_getElem? (i := 1188) (by decide +kernel), List.mem_of_getElem? (i := 1859) (by decide +kernel), List.mem_of_getElem? (i := 1860) (by decide +kernel)⟩
theorem lw_p108 : lw_okq (⟨"SpeakClockModel", "restAt", "(III)I"⟩, 85) := ⟨⟨by decide +kernel, by decide +kernel⟩, List.mem_of_getElem? (i := 1188) (by decide +kernel), List.mem_of_getElem? (i := 1863) (by decide +kernel), List.mem_of_getElem? (i := 1864) (by decide +kernel)⟩
theorem lw_p109 : lw_okq (⟨"SpeakClockModel", "noted", "(IIII)I"⟩, 85) := ⟨⟨by decide +kernel, by decide +kernel⟩, List.mem_of_getElem? (i := 1188) (by decide +kernel), List.mem_of_getElem? (i := 1878) (by decide +kernel), List.mem_of_getElem? (i := 1879) (by decide +kernel)⟩
theorem lw_p110 : lw_okq (⟨"SpeakClockModel", "knownBy", "()I"⟩, 85) := ⟨⟨by decide +kernel, by decide +kernel⟩, List.mem_of_getElem? (i := 1188) (by decide +kernel), List.mem_of_getElem? (i := 1894) (by decide +kernel), List.mem_of_getElem? (i := 1895) (by decide +kernel)⟩
theorem lw_p111 : lw_okq (⟨"SpeakClockModel", "fits", "(II)Z"⟩, 85) := ⟨⟨by decide +kernel, by decide +kernel⟩, List.mem_of_getElem? (i := 1188) (by decide +kernel), List.mem_of_getElem? (i := 1898) (by decide +kernel), List.mem_of_getElem? (i := 1899) (by decide +kernel)⟩
def lw_privs_7 : List (MethodName × Nat) := [(⟨"SpeakClockModel", "boundLaw", "(IIII)I"⟩, 85), (⟨"SpeakClockModel", "isCold", "(I)Z"⟩, 85), (⟨"SpeakClockModel", "isTold", "(I)V"⟩, 85), (⟨"SpeakClockModel", "drifts", "(I)V"⟩, 85), (⟨"SpeakClockModel", "meets", "(II)V"⟩, 85), (⟨"SpeakClockModel", "comes", "(III)V"⟩, 85), (⟨"SpeakClockModel", "layTried", "()V"⟩, 85), (⟨"SpeakClockModel", "goMany", "(I)V"⟩, 85), (⟨"SpeakClockModel", "are", "(II)I"⟩, 85), (⟨"SpeakClockModel", "toldBy", "(I)I"⟩, 85), (⟨"SpeakClockModel", "spread", "(II)I"⟩, 85), (⟨"SpeakClockModel", "areTwo", "(II)Z"⟩, 85), (⟨"SpeakClockModel", "restAt", "(III)I"⟩, 85), (⟨"SpeakClockModel", "noted", "(IIII)I"⟩, 85), (⟨"SpeakClockModel", "knownBy", "()I"⟩, 85), (⟨"SpeakClockModel", "fits", "(II)Z"⟩, 85)]
theorem lw_r7 : ∀ q ∈ lw_privs_7, lw_okq q := List.forall_mem_cons.mpr ⟨lw_p96, List.forall_mem_cons.mpr ⟨lw_p97, List.forall_mem_cons.mpr ⟨lw_p98, List.forall_mem_cons.mpr ⟨lw_p99, List.forall_mem_cons.mpr ⟨lw_p100, List.forall_mem_cons.mpr ⟨lw_p101, List.forall_mem_cons.mpr ⟨lw_p102, List.forall_mem_cons.mpr ⟨lw_p103, List.forall_mem_cons.mpr ⟨lw_p104, List.forall_mem_cons.mpr ⟨lw_p105, List.forall_mem_cons.mpr ⟨lw_p106, List.forall_mem_cons.mpr ⟨lw_p107, List.forall_mem_cons.mpr ⟨lw_p108, List.forall_mem_cons.mpr ⟨lw_p109, List.forall_mem_cons.mpr ⟨lw_p110, List.forall_mem_cons.mpr ⟨lw_p111, fun _ h => absurd h List.not_mem_nil⟩⟩⟩⟩⟩⟩⟩⟩⟩⟩⟩⟩⟩⟩⟩⟩
theorem lw_p112 : lw_okq (⟨"SpeakClockModel", "isSo", "(I)Z"⟩, 85) := ⟨⟨by decide +kernel, by decide +kernel⟩, List.mem_of_getElem? (i := 1188) (by decide +kernel), List.mem_of_getElem? (i := 1902) (by decide +kernel), List.mem_of_getElem? (i := 1903) (by decide +kernel)⟩
theorem lw_p113 : lw_okq (⟨"SpeakClockModel", "take", "([II)V"⟩, 85) := ⟨⟨by decide +kernel, by decide +kernel⟩, List.mem_of_getElem? (i := 1188) (by decide +kernel), List.mem_of_getElem? (i := 1918) (by decide +kernel), List.mem_of_getElem? (i := 1919) (by decide +kernel)⟩
def lw_privs_8 : List (MethodName × Nat) := [(⟨"SpeakClockModel", "isSo", "(I)Z"⟩, 85), (⟨"SpeakClockModel", "take", "([II)V"⟩, 85)]
theorem lw_r8 : ∀ q ∈ lw_privs_8, lw_okq q := List.forall_mem_cons.mpr ⟨lw_p112, List.forall_mem_cons.mpr ⟨lw_p113, fun _ h => absurd h List.not_mem_nil⟩⟩
def lw_privs : List (MethodName × Nat) := lw_privs_1 ++ (lw_privs_2 ++ (lw_privs_3 ++ (lw_privs_4 ++ (lw_privs_5 ++ (lw_privs_6 ++ (lw_privs_7 ++ (lw_privs_8)))))))
def lw_tbl : List Cond := k2_sels lw_privs ++ tables_1
theorem lw_privs_ok : ∀ q ∈ lw_privs, lw_okq q := by
  show ∀ q ∈ lw_privs_1 ++ (lw_privs_2 ++ (lw_privs_3 ++ (lw_privs_4 ++ (lw_privs_5 ++ (lw_privs_6 ++ (lw_privs_7 ++ (lw_privs_8))))))), lw_okq q
  exact List.forall_mem_append.mpr ⟨lw_r1, List.forall_mem_append.mpr ⟨lw_r2, List.forall_mem_append.mpr ⟨lw_r3, List.forall_mem_append.mpr ⟨lw_r4, List.forall_mem_append.mpr ⟨lw_r5, List.forall_mem_append.mpr ⟨lw_r6, List.forall_mem_append.mpr ⟨lw_r7, lw_r8⟩⟩⟩⟩⟩⟩⟩
end
section
def RX0 : String := "SpeakClock$Day"
def TX0 : u_T := fun k => match k with
  | 0 => ("SpeakClock$Day", "off", "[I", true)
  | 1 => ("SpeakClock$Day", "ahead", "[I", true)
  | 2 => ("SpeakClock$Day", "told", "[I", true)
  | 3 => ("SpeakClock$Day", "row", "[I", true)
  | 4 => ("SpeakClock$Day", "time", "[I", true)
  | 5 => ("SpeakClock$Day", "cameOne", "[I", true)
  | 6 => ("SpeakClock$Day", "cameOther", "[I", true)
  | 7 => ("SpeakClock$Day", "outcome", "[I", true)
  | 8 => ("SpeakClock$Day", "people", "I", false)
  | 9 => ("SpeakClock$Day", "meetings", "I", false)
  | 10 => ("SpeakClock$Day", "minute", "I", false)
  | 11 => ("SpeakClock$Day", "inRow", "I", false)
  | 12 => ("SpeakClock$Day", "talker", "I", false)
  | 13 => ("SpeakClock$Day", "left", "I", false)
  | 14 => ("SpeakClock$Day", "number", "I", false)
  | _ => ("SpeakClock$Day", "strangers", "I", false)
def tyX0 : Nat → FieldType := fun k => match k with
  | 0 => .array .int
  | 1 => .array .int
  | 2 => .array .int
  | 3 => .array .int
  | 4 => .array .int
  | 5 => .array .int
  | 6 => .array .int
  | 7 => .array .int
  | 8 => .int
  | 9 => .int
  | 10 => .int
  | 11 => .int
  | 12 => .int
  | 13 => .int
  | 14 => .int
  | _ => .int
theorem nmX0 : ∀ a, a < 16 → ∀ b, b < 16 → a ≠ b → (TX0 a).2.1 ≠ (TX0 b).2.1 := by decide +kernel
theorem tyX0_ok : ∀ k, k < 16 → parseFieldDescriptor (TX0 k).2.2.1 = some (tyX0 k) := by decide +kernel
abbrev cX0_init : ByteArray := prog_2_method_1_code
def yX0_init : MethodName := ⟨RX0, "<init>", "()V"⟩
abbrev cX0_begin : ByteArray := prog_2_method_2_code
def yX0_begin : MethodName := ⟨RX0, "begin", "(LSpeakClock$Plan;)V"⟩
abbrev cX0_copy : ByteArray := prog_2_method_3_code
def yX0_copy : MethodName := ⟨RX0, "copy", "(LSpeakClock$Day;)V"⟩
abbrev cX0_placeOf : ByteArray := prog_2_method_4_code
def yX0_placeOf : MethodName := ⟨RX0, "placeOf", "(I)I"⟩
abbrev cX0_modeOf : ByteArray := prog_2_method_5_code
def yX0_modeOf : MethodName := ⟨RX0, "modeOf", "(I)I"⟩
abbrev cX0_takesIn : ByteArray := prog_2_method_6_code
def yX0_takesIn : MethodName := ⟨RX0, "takesIn", "(I)Z"⟩
abbrev cX0_takesStranger : ByteArray := prog_2_method_7_code
def yX0_takesStranger : MethodName := ⟨RX0, "takesStranger", "()V"⟩
abbrev cX0_takeOut : ByteArray := prog_2_method_8_code
def yX0_takeOut : MethodName := ⟨RX0, "takeOut", "(I)V"⟩
abbrev cX0_putIn : ByteArray := prog_2_method_9_code
def yX0_putIn : MethodName := ⟨RX0, "putIn", "(II)V"⟩
abbrev cX0_spread : ByteArray := prog_2_method_10_code
def yX0_spread : MethodName := ⟨RX0, "spread", "(I)I"⟩
abbrev cX0_howManySlower : ByteArray := prog_2_method_11_code
def yX0_howManySlower : MethodName := ⟨RX0, "howManySlower", "(I)I"⟩
abbrev cX0_howMany : ByteArray := prog_2_method_12_code
def yX0_howMany : MethodName := ⟨RX0, "howMany", "(I)I"⟩
abbrev cX0_toldInAll : ByteArray := prog_2_method_13_code
def yX0_toldInAll : MethodName := ⟨RX0, "toldInAll", "()I"⟩
abbrev cX0_isOneThere : ByteArray := prog_2_method_14_code
def yX0_isOneThere : MethodName := ⟨RX0, "isOneThere", "(I)Z"⟩
abbrev cX0_drawNumber : ByteArray := prog_2_method_15_code
def yX0_drawNumber : MethodName := ⟨RX0, "drawNumber", "()I"⟩
def RX1 : String := "SpeakClock$LawReader"
def TX1 : u_T := fun k => match k with
  | 0 => ("SpeakClock$LawReader", "tokens", "LSpeakClock$Tokens;", true)
  | 1 => ("SpeakClock$LawReader", "pile", "[I", true)
  | 2 => ("SpeakClock$LawReader", "piled", "I", false)
  | 3 => ("SpeakClock$LawReader", "open", "I", false)
  | _ => ("SpeakClock$LawReader", "wantsValue", "Z", false)
def tyX1 : Nat → FieldType := fun k => match k with
  | 0 => .object "SpeakClock$Tokens"
  | 1 => .array .int
  | 2 => .int
  | 3 => .int
  | _ => .boolean
theorem nmX1 : ∀ a, a < 5 → ∀ b, b < 5 → a ≠ b → (TX1 a).2.1 ≠ (TX1 b).2.1 := by decide +kernel
theorem tyX1_ok : ∀ k, k < 5 → parseFieldDescriptor (TX1 k).2.2.1 = some (tyX1 k) := by decide +kernel
abbrev cX1_init : ByteArray := prog_3_method_1_code
def yX1_init : MethodName := ⟨RX1, "<init>", "()V"⟩
abbrev cX1_readsLaw : ByteArray := prog_3_method_2_code
def yX1_readsLaw : MethodName := ⟨RX1, "readsLaw", "(LSpeakClock$Laws;I)I"⟩
abbrev cX1_takesValue : ByteArray := prog_3_method_3_code
def yX1_takesValue : MethodName := ⟨RX1, "takesValue", "(LSpeakClock$Laws;)I"⟩
abbrev cX1_takesSign : ByteArray := prog_3_method_4_code
def yX1_takesSign : MethodName := ⟨RX1, "takesSign", "(LSpeakClock$Laws;)I"⟩
abbrev cX1_pilesKnot : ByteArray := prog_3_method_5_code
def yX1_pilesKnot : MethodName := ⟨RX1, "pilesKnot", "(LSpeakClock$Laws;I)I"⟩
abbrev cX1_pileUp : ByteArray := prog_3_method_6_code
def yX1_pileUp : MethodName := ⟨RX1, "pileUp", "(I)V"⟩
abbrev cX1_unpile : ByteArray := prog_3_method_7_code
def yX1_unpile : MethodName := ⟨RX1, "unpile", "(LSpeakClock$Laws;I)V"⟩
abbrev cX1_topLevel : ByteArray := prog_3_method_8_code
def yX1_topLevel : MethodName := ⟨RX1, "topLevel", "()I"⟩
abbrev cX1_levelOf : ByteArray := prog_3_method_9_code
def yX1_levelOf : MethodName := ⟨RX1, "levelOf", "(I)I"⟩
def RX2 : String := "SpeakClock$Laws"
def TX2 : u_T := fun k => match k with
  | 0 => ("SpeakClock$Laws", "step", "[I", true)
  | 1 => ("SpeakClock$Laws", "number", "[I", true)
  | 2 => ("SpeakClock$Laws", "from", "[I", true)
  | 3 => ("SpeakClock$Laws", "to", "[I", true)
  | 4 => ("SpeakClock$Laws", "stack", "[J", true)
  | 5 => ("SpeakClock$Laws", "size", "I", false)
  | _ => ("SpeakClock$Laws", "knots", "I", false)
def tyX2 : Nat → FieldType := fun k => match k with
  | 0 => .array .int
  | 1 => .array .int
  | 2 => .array .int
  | 3 => .array .int
  | 4 => .array .long
  | 5 => .int
  | _ => .int
theorem nmX2 : ∀ a, a < 7 → ∀ b, b < 7 → a ≠ b → (TX2 a).2.1 ≠ (TX2 b).2.1 := by decide +kernel
theorem tyX2_ok : ∀ k, k < 7 → parseFieldDescriptor (TX2 k).2.2.1 = some (tyX2 k) := by decide +kernel
abbrev cX2_init : ByteArray := prog_4_method_1_code
def yX2_init : MethodName := ⟨RX2, "<init>", "()V"⟩
abbrev cX2_clear : ByteArray := prog_4_method_2_code
def yX2_clear : MethodName := ⟨RX2, "clear", "()V"⟩
abbrev cX2_isTold : ByteArray := prog_4_method_3_code
def yX2_isTold : MethodName := ⟨RX2, "isTold", "(I)Z"⟩
abbrev cX2_add : ByteArray := prog_4_method_4_code
def yX2_add : MethodName := ⟨RX2, "add", "(II)V"⟩
abbrev cX2_valueOf : ByteArray := prog_4_method_5_code
def yX2_valueOf : MethodName := ⟨RX2, "valueOf", "(I[J)J"⟩
abbrev cX2_joined : ByteArray := prog_4_method_6_code
def yX2_joined : MethodName := ⟨RX2, "joined", "(IJJ)J"⟩
def RX3 : String := "SpeakClock$LineReader"
def TX3 : u_T := fun k => match k with
  | 0 => ("SpeakClock$LineReader", "lawReader", "LSpeakClock$LawReader;", true)
  | 1 => ("SpeakClock$LineReader", "tokens", "LSpeakClock$Tokens;", true)
  | 2 => ("SpeakClock$LineReader", "plan", "LSpeakClock$Plan;", false)
  | 3 => ("SpeakClock$LineReader", "lines", "I", false)
  | 4 => ("SpeakClock$LineReader", "fault", "I", false)
  | 5 => ("SpeakClock$LineReader", "place", "I", false)
  | 6 => ("SpeakClock$LineReader", "value", "I", false)
  | 7 => ("SpeakClock$LineReader", "crowdTold", "Z", false)
  | _ => ("SpeakClock$LineReader", "seedTold", "Z", false)
def tyX3 : Nat → FieldType := fun k => match k with
  | 0 => .object "SpeakClock$LawReader"
  | 1 => .object "SpeakClock$Tokens"
  | 2 => .object "SpeakClock$Plan"
  | 3 => .int
  | 4 => .int
  | 5 => .int
  | 6 => .int
  | 7 => .boolean
  | _ => .boolean
theorem nmX3 : ∀ a, a < 9 → ∀ b, b < 9 → a ≠ b → (TX3 a).2.1 ≠ (TX3 b).2.1 := by decide +kernel
theorem tyX3_ok : ∀ k, k < 9 → parseFieldDescriptor (TX3 k).2.2.1 = some (tyX3 k) := by decide +kernel
abbrev cX3_init : ByteArray := prog_5_method_1_code
def yX3_init : MethodName := ⟨RX3, "<init>", "()V"⟩
abbrev cX3_readsAll : ByteArray := prog_5_method_2_code
def yX3_readsAll : MethodName := ⟨RX3, "readsAll", "(I)Z"⟩
abbrev cX3_readsLine : ByteArray := prog_5_method_3_code
def yX3_readsLine : MethodName := ⟨RX3, "readsLine", "()Z"⟩
abbrev cX3_fails : ByteArray := prog_5_method_4_code
def yX3_fails : MethodName := ⟨RX3, "fails", "(I)Z"⟩
abbrev cX3_readsEnd : ByteArray := prog_5_method_5_code
def yX3_readsEnd : MethodName := ⟨RX3, "readsEnd", "()Z"⟩
abbrev cX3_readsNumber : ByteArray := prog_5_method_6_code
def yX3_readsNumber : MethodName := ⟨RX3, "readsNumber", "(II)Z"⟩
abbrev cX3_skipsMinus : ByteArray := prog_5_method_7_code
def yX3_skipsMinus : MethodName := ⟨RX3, "skipsMinus", "()Z"⟩
abbrev cX3_readsPerson : ByteArray := prog_5_method_8_code
def yX3_readsPerson : MethodName := ⟨RX3, "readsPerson", "()Z"⟩
abbrev cX3_readsMan : ByteArray := prog_5_method_9_code
def yX3_readsMan : MethodName := ⟨RX3, "readsMan", "()Z"⟩
abbrev cX3_readsRing : ByteArray := prog_5_method_10_code
def yX3_readsRing : MethodName := ⟨RX3, "readsRing", "()Z"⟩
abbrev cX3_readsMeet : ByteArray := prog_5_method_11_code
def yX3_readsMeet : MethodName := ⟨RX3, "readsMeet", "()Z"⟩
abbrev cX3_readsCold : ByteArray := prog_5_method_12_code
def yX3_readsCold : MethodName := ⟨RX3, "readsCold", "()Z"⟩
abbrev cX3_readsCrowd : ByteArray := prog_5_method_13_code
def yX3_readsCrowd : MethodName := ⟨RX3, "readsCrowd", "()Z"⟩
abbrev cX3_readsSeed : ByteArray := prog_5_method_14_code
def yX3_readsSeed : MethodName := ⟨RX3, "readsSeed", "()Z"⟩
abbrev cX3_readsLaw : ByteArray := prog_5_method_15_code
def yX3_readsLaw : MethodName := ⟨RX3, "readsLaw", "()Z"⟩
def RX4 : String := "SpeakClock$Log"
def TX4 : u_T := fun k => match k with
  | 0 => ("SpeakClock$Log", "act", "[I", true)
  | 1 => ("SpeakClock$Log", "who", "[I", true)
  | 2 => ("SpeakClock$Log", "old", "[I", true)
  | _ => ("SpeakClock$Log", "size", "I", false)
def tyX4 : Nat → FieldType := fun k => match k with
  | 0 => .array .int
  | 1 => .array .int
  | 2 => .array .int
  | _ => .int
theorem nmX4 : ∀ a, a < 4 → ∀ b, b < 4 → a ≠ b → (TX4 a).2.1 ≠ (TX4 b).2.1 := by decide +kernel
theorem tyX4_ok : ∀ k, k < 4 → parseFieldDescriptor (TX4 k).2.2.1 = some (tyX4 k) := by decide +kernel
abbrev cX4_init : ByteArray := prog_6_method_1_code
def yX4_init : MethodName := ⟨RX4, "<init>", "()V"⟩
abbrev cX4_note : ByteArray := prog_6_method_2_code
def yX4_note : MethodName := ⟨RX4, "note", "(III)V"⟩
def RX5 : String := "SpeakClock$Plan"
def TX5 : u_T := fun k => match k with
  | 0 => ("SpeakClock$Plan", "names", "[I", true)
  | 1 => ("SpeakClock$Plan", "talks", "[I", true)
  | 2 => ("SpeakClock$Plan", "waits", "[I", true)
  | 3 => ("SpeakClock$Plan", "offs", "[I", true)
  | 4 => ("SpeakClock$Plan", "rates", "[I", true)
  | 5 => ("SpeakClock$Plan", "ringMan", "[I", true)
  | 6 => ("SpeakClock$Plan", "ringMinute", "[I", true)
  | 7 => ("SpeakClock$Plan", "meetOne", "[I", true)
  | 8 => ("SpeakClock$Plan", "meetOther", "[I", true)
  | 9 => ("SpeakClock$Plan", "meetTime", "[I", true)
  | 10 => ("SpeakClock$Plan", "coldFrom", "[I", true)
  | 11 => ("SpeakClock$Plan", "coldTo", "[I", true)
  | 12 => ("SpeakClock$Plan", "laws", "LSpeakClock$Laws;", true)
  | 13 => ("SpeakClock$Plan", "people", "I", false)
  | 14 => ("SpeakClock$Plan", "rings", "I", false)
  | 15 => ("SpeakClock$Plan", "meetings", "I", false)
  | 16 => ("SpeakClock$Plan", "colds", "I", false)
  | 17 => ("SpeakClock$Plan", "crowd", "I", false)
  | _ => ("SpeakClock$Plan", "seed", "I", false)
def tyX5 : Nat → FieldType := fun k => match k with
  | 0 => .array .int
  | 1 => .array .int
  | 2 => .array .int
  | 3 => .array .int
  | 4 => .array .int
  | 5 => .array .int
  | 6 => .array .int
  | 7 => .array .int
  | 8 => .array .int
  | 9 => .array .int
  | 10 => .array .int
  | 11 => .array .int
  | 12 => .object "SpeakClock$Laws"
  | 13 => .int
  | 14 => .int
  | 15 => .int
  | 16 => .int
  | 17 => .int
  | _ => .int
theorem nmX5 : ∀ a, a < 19 → ∀ b, b < 19 → a ≠ b → (TX5 a).2.1 ≠ (TX5 b).2.1 := by decide +kernel
theorem tyX5_ok : ∀ k, k < 19 → parseFieldDescriptor (TX5 k).2.2.1 = some (tyX5 k) := by decide +kernel
abbrev cX5_init : ByteArray := prog_7_method_1_code
def yX5_init : MethodName := ⟨RX5, "<init>", "()V"⟩
abbrev cX5_clear : ByteArray := prog_7_method_2_code
def yX5_clear : MethodName := ⟨RX5, "clear", "()V"⟩
abbrev cX5_numberOf : ByteArray := prog_7_method_3_code
def yX5_numberOf : MethodName := ⟨RX5, "numberOf", "(I)I"⟩
def RX6 : String := "SpeakClock$Seen"
def TX6 : u_T := fun k => match k with
  | 0 => ("SpeakClock$Seen", "minutes", "[I", true)
  | 1 => ("SpeakClock$Seen", "man", "[I", true)
  | 2 => ("SpeakClock$Seen", "shown", "[I", true)
  | 3 => ("SpeakClock$Seen", "strikes", "[I", true)
  | 4 => ("SpeakClock$Seen", "atLeast", "[Z", true)
  | 5 => ("SpeakClock$Seen", "counts", "[Z", true)
  | 6 => ("SpeakClock$Seen", "size", "I", false)
  | _ => ("SpeakClock$Seen", "known", "I", false)
def tyX6 : Nat → FieldType := fun k => match k with
  | 0 => .array .int
  | 1 => .array .int
  | 2 => .array .int
  | 3 => .array .int
  | 4 => .array .boolean
  | 5 => .array .boolean
  | 6 => .int
  | _ => .int
theorem nmX6 : ∀ a, a < 8 → ∀ b, b < 8 → a ≠ b → (TX6 a).2.1 ≠ (TX6 b).2.1 := by decide +kernel
theorem tyX6_ok : ∀ k, k < 8 → parseFieldDescriptor (TX6 k).2.2.1 = some (tyX6 k) := by decide +kernel
abbrev cX6_init : ByteArray := prog_8_method_1_code
def yX6_init : MethodName := ⟨RX6, "<init>", "()V"⟩
abbrev cX6_forget : ByteArray := prog_8_method_2_code
def yX6_forget : MethodName := ⟨RX6, "forget", "()V"⟩
abbrev cX6_knownBy : ByteArray := prog_8_method_3_code
def yX6_knownBy : MethodName := ⟨RX6, "knownBy", "()I"⟩
abbrev cX6_addSight : ByteArray := prog_8_method_4_code
def yX6_addSight : MethodName := ⟨RX6, "addSight", "(IIIZ)I"⟩
abbrev cX6_addStrike : ByteArray := prog_8_method_5_code
def yX6_addStrike : MethodName := ⟨RX6, "addStrike", "(I)I"⟩
abbrev cX6_judge : ByteArray := prog_8_method_6_code
def yX6_judge : MethodName := ⟨RX6, "judge", "()V"⟩
abbrev cX6_lastMinute : ByteArray := prog_8_method_7_code
def yX6_lastMinute : MethodName := ⟨RX6, "lastMinute", "()I"⟩
abbrev cX6_isSo : ByteArray := prog_8_method_8_code
def yX6_isSo : MethodName := ⟨RX6, "isSo", "(LSpeakClock$Day;)Z"⟩
def RX7 : String := "SpeakClock$Tokens"
def TX7 : u_T := fun k => match k with
  | 0 => ("SpeakClock$Tokens", "tape", "[B", true)
  | 1 => ("SpeakClock$Tokens", "words", "[I", true)
  | 2 => ("SpeakClock$Tokens", "length", "I", false)
  | 3 => ("SpeakClock$Tokens", "at", "I", false)
  | 4 => ("SpeakClock$Tokens", "kind", "I", false)
  | 5 => ("SpeakClock$Tokens", "place", "I", false)
  | 6 => ("SpeakClock$Tokens", "number", "I", false)
  | _ => ("SpeakClock$Tokens", "letters", "I", false)
def tyX7 : Nat → FieldType := fun k => match k with
  | 0 => .array .byte
  | 1 => .array .int
  | 2 => .int
  | 3 => .int
  | 4 => .int
  | 5 => .int
  | 6 => .int
  | _ => .int
theorem nmX7 : ∀ a, a < 8 → ∀ b, b < 8 → a ≠ b → (TX7 a).2.1 ≠ (TX7 b).2.1 := by decide +kernel
theorem tyX7_ok : ∀ k, k < 8 → parseFieldDescriptor (TX7 k).2.2.1 = some (tyX7 k) := by decide +kernel
abbrev cX7_init : ByteArray := prog_9_method_1_code
def yX7_init : MethodName := ⟨RX7, "<init>", "()V"⟩
abbrev cX7_begin : ByteArray := prog_9_method_2_code
def yX7_begin : MethodName := ⟨RX7, "begin", "(I)V"⟩
abbrev cX7_advance : ByteArray := prog_9_method_3_code
def yX7_advance : MethodName := ⟨RX7, "advance", "()V"⟩
abbrev cX7_isLetter : ByteArray := prog_9_method_4_code
def yX7_isLetter : MethodName := ⟨RX7, "isLetter", "(I)Z"⟩
abbrev cX7_isDigit : ByteArray := prog_9_method_5_code
def yX7_isDigit : MethodName := ⟨RX7, "isDigit", "(I)Z"⟩
abbrev cX7_readWord : ByteArray := prog_9_method_6_code
def yX7_readWord : MethodName := ⟨RX7, "readWord", "()V"⟩
abbrev cX7_wordKind : ByteArray := prog_9_method_7_code
def yX7_wordKind : MethodName := ⟨RX7, "wordKind", "()I"⟩
abbrev cX7_readNumber : ByteArray := prog_9_method_8_code
def yX7_readNumber : MethodName := ⟨RX7, "readNumber", "()V"⟩
abbrev cX7_signKind : ByteArray := prog_9_method_9_code
def yX7_signKind : MethodName := ⟨RX7, "signKind", "(I)I"⟩
abbrev cX7_lengthenSign : ByteArray := prog_9_method_10_code
def yX7_lengthenSign : MethodName := ⟨RX7, "lengthenSign", "()V"⟩
def RX8 : String := "SpeakClock$Way"
def TX8 : u_T := fun k => match k with
  | 0 => ("SpeakClock$Way", "waits", "[I", true)
  | 1 => ("SpeakClock$Way", "rates", "[I", true)
  | 2 => ("SpeakClock$Way", "names", "[J", true)
  | 3 => ("SpeakClock$Way", "plan", "LSpeakClock$Plan;", false)
  | 4 => ("SpeakClock$Way", "crowd", "I", false)
  | 5 => ("SpeakClock$Way", "colds", "I", false)
  | 6 => ("SpeakClock$Way", "silent", "I", false)
  | 7 => ("SpeakClock$Way", "drifts", "Z", false)
  | _ => ("SpeakClock$Way", "draws", "Z", false)
def tyX8 : Nat → FieldType := fun k => match k with
  | 0 => .array .int
  | 1 => .array .int
  | 2 => .array .long
  | 3 => .object "SpeakClock$Plan"
  | 4 => .int
  | 5 => .int
  | 6 => .int
  | 7 => .boolean
  | _ => .boolean
theorem nmX8 : ∀ a, a < 9 → ∀ b, b < 9 → a ≠ b → (TX8 a).2.1 ≠ (TX8 b).2.1 := by decide +kernel
theorem tyX8_ok : ∀ k, k < 9 → parseFieldDescriptor (TX8 k).2.2.1 = some (tyX8 k) := by decide +kernel
abbrev cX8_init : ByteArray := prog_10_method_1_code
def yX8_init : MethodName := ⟨RX8, "<init>", "()V"⟩
abbrev cX8_follow : ByteArray := prog_10_method_2_code
def yX8_follow : MethodName := ⟨RX8, "follow", "(Z)V"⟩
abbrev cX8_change : ByteArray := prog_10_method_3_code
def yX8_change : MethodName := ⟨RX8, "change", "(II)V"⟩
abbrev cX8_passMinute : ByteArray := prog_10_method_4_code
def yX8_passMinute : MethodName := ⟨RX8, "passMinute", "(LSpeakClock$Day;)V"⟩
abbrev cX8_lawOf : ByteArray := prog_10_method_5_code
def yX8_lawOf : MethodName := ⟨RX8, "lawOf", "(LSpeakClock$Day;III)J"⟩
abbrev cX8_takeRings : ByteArray := prog_10_method_6_code
def yX8_takeRings : MethodName := ⟨RX8, "takeRings", "(LSpeakClock$Day;)V"⟩
abbrev cX8_isStrangerRinging : ByteArray := prog_10_method_7_code
def yX8_isStrangerRinging : MethodName := ⟨RX8, "isStrangerRinging", "(LSpeakClock$Day;)Z"⟩
abbrev cX8_startTalk : ByteArray := prog_10_method_8_code
def yX8_startTalk : MethodName := ⟨RX8, "startTalk", "(LSpeakClock$Day;)V"⟩
abbrev cX8_isCold : ByteArray := prog_10_method_9_code
def yX8_isCold : MethodName := ⟨RX8, "isCold", "(I)Z"⟩
abbrev cX8_goOnTalking : ByteArray := prog_10_method_10_code
def yX8_goOnTalking : MethodName := ⟨RX8, "goOnTalking", "(LSpeakClock$Day;)V"⟩
abbrev cX8_driftAll : ByteArray := prog_10_method_11_code
def yX8_driftAll : MethodName := ⟨RX8, "driftAll", "(LSpeakClock$Day;)V"⟩
abbrev cX8_meet : ByteArray := prog_10_method_12_code
def yX8_meet : MethodName := ⟨RX8, "meet", "(LSpeakClock$Day;I)V"⟩
def RX9 : String := "SpeakClock"
def TX9 : u_T := fun k => match k with
  | 0 => ("SpeakClock", "reader", "LSpeakClock$LineReader;", true)
  | 1 => ("SpeakClock", "tape", "[B", true)
  | 2 => ("SpeakClock", "now", "LSpeakClock$Day;", true)
  | 3 => ("SpeakClock", "image", "LSpeakClock$Day;", true)
  | 4 => ("SpeakClock", "trial", "LSpeakClock$Day;", true)
  | 5 => ("SpeakClock", "later", "LSpeakClock$Day;", true)
  | 6 => ("SpeakClock", "way", "LSpeakClock$Way;", true)
  | 7 => ("SpeakClock", "seen", "LSpeakClock$Seen;", true)
  | 8 => ("SpeakClock", "log", "LSpeakClock$Log;", true)
  | 9 => ("SpeakClock", "plan", "LSpeakClock$Plan;", false)
  | 10 => ("SpeakClock", "taped", "I", false)
  | 11 => ("SpeakClock", "fault", "I", false)
  | 12 => ("SpeakClock", "faultPlace", "I", false)
  | _ => ("SpeakClock", "hasImage", "Z", false)
def tyX9 : Nat → FieldType := fun k => match k with
  | 0 => .object "SpeakClock$LineReader"
  | 1 => .array .byte
  | 2 => .object "SpeakClock$Day"
  | 3 => .object "SpeakClock$Day"
  | 4 => .object "SpeakClock$Day"
  | 5 => .object "SpeakClock$Day"
  | 6 => .object "SpeakClock$Way"
  | 7 => .object "SpeakClock$Seen"
  | 8 => .object "SpeakClock$Log"
  | 9 => .object "SpeakClock$Plan"
  | 10 => .int
  | 11 => .int
  | 12 => .int
  | _ => .boolean
theorem nmX9 : ∀ a, a < 14 → ∀ b, b < 14 → a ≠ b → (TX9 a).2.1 ≠ (TX9 b).2.1 := by decide +kernel
theorem tyX9_ok : ∀ k, k < 14 → parseFieldDescriptor (TX9 k).2.2.1 = some (tyX9 k) := by decide +kernel
abbrev cX9_init : ByteArray := prog_1_method_1_code
def yX9_init : MethodName := ⟨RX9, "<init>", "()V"⟩
abbrev cX9_feed : ByteArray := prog_1_method_2_code
def yX9_feed : MethodName := ⟨RX9, "feed", "(IIIII)I"⟩
abbrev cX9_text : ByteArray := prog_1_method_3_code
def yX9_text : MethodName := ⟨RX9, "text", "(I)I"⟩
abbrev cX9_fault : ByteArray := prog_1_method_4_code
def yX9_fault : MethodName := ⟨RX9, "fault", "(I)I"⟩
abbrev cX9_named : ByteArray := prog_1_method_5_code
def yX9_named : MethodName := ⟨RX9, "named", "(I)I"⟩
abbrev cX9_man : ByteArray := prog_1_method_6_code
def yX9_man : MethodName := ⟨RX9, "man", "(II)I"⟩
abbrev cX9_meeting : ByteArray := prog_1_method_7_code
def yX9_meeting : MethodName := ⟨RX9, "meeting", "(II)I"⟩
abbrev cX9_shows : ByteArray := prog_1_method_8_code
def yX9_shows : MethodName := ⟨RX9, "shows", "(I)I"⟩
abbrev cX9_law : ByteArray := prog_1_method_9_code
def yX9_law : MethodName := ⟨RX9, "law", "(II)J"⟩
abbrev cX9_ring : ByteArray := prog_1_method_10_code
def yX9_ring : MethodName := ⟨RX9, "ring", "(I)I"⟩
abbrev cX9_hangUp : ByteArray := prog_1_method_11_code
def yX9_hangUp : MethodName := ⟨RX9, "hangUp", "(I)Z"⟩
abbrev cX9_set : ByteArray := prog_1_method_12_code
def yX9_set : MethodName := ⟨RX9, "set", "(II)Z"⟩
abbrev cX9_putOff : ByteArray := prog_1_method_13_code
def yX9_putOff : MethodName := ⟨RX9, "putOff", "(II)Z"⟩
abbrev cX9_go : ByteArray := prog_1_method_14_code
def yX9_go : MethodName := ⟨RX9, "go", "(I)I"⟩
abbrev cX9_ahead : ByteArray := prog_1_method_15_code
def yX9_ahead : MethodName := ⟨RX9, "ahead", "(III)I"⟩
abbrev cX9_delay : ByteArray := prog_1_method_16_code
def yX9_delay : MethodName := ⟨RX9, "delay", "(I)I"⟩
abbrev cX9_bestRing : ByteArray := prog_1_method_17_code
def yX9_bestRing : MethodName := ⟨RX9, "bestRing", "(III)I"⟩
abbrev cX9_near : ByteArray := prog_1_method_18_code
def yX9_near : MethodName := ⟨RX9, "near", "(I)I"⟩
abbrev cX9_liars : ByteArray := prog_1_method_19_code
def yX9_liars : MethodName := ⟨RX9, "liars", "(I)I"⟩
abbrev cX9_median : ByteArray := prog_1_method_20_code
def yX9_median : MethodName := ⟨RX9, "median", "()I"⟩
abbrev cX9_agree : ByteArray := prog_1_method_21_code
def yX9_agree : MethodName := ⟨RX9, "agree", "(I)I"⟩
abbrev cX9_needs : ByteArray := prog_1_method_22_code
def yX9_needs : MethodName := ⟨RX9, "needs", "(I)I"⟩
abbrev cX9_certain : ByteArray := prog_1_method_23_code
def yX9_certain : MethodName := ⟨RX9, "certain", "()I"⟩
abbrev cX9_latest : ByteArray := prog_1_method_24_code
def yX9_latest : MethodName := ⟨RX9, "latest", "()I"⟩
abbrev cX9_rests : ByteArray := prog_1_method_25_code
def yX9_rests : MethodName := ⟨RX9, "rests", "(II)I"⟩
abbrev cX9_rest : ByteArray := prog_1_method_26_code
def yX9_rest : MethodName := ⟨RX9, "rest", "(III)I"⟩
abbrev cX9_apart : ByteArray := prog_1_method_27_code
def yX9_apart : MethodName := ⟨RX9, "apart", "(II)I"⟩
abbrev cX9_quiet : ByteArray := prog_1_method_28_code
def yX9_quiet : MethodName := ⟨RX9, "quiet", "()I"⟩
abbrev cX9_firstMissed : ByteArray := prog_1_method_29_code
def yX9_firstMissed : MethodName := ⟨RX9, "firstMissed", "(I)I"⟩
abbrev cX9_longest : ByteArray := prog_1_method_30_code
def yX9_longest : MethodName := ⟨RX9, "longest", "(I)I"⟩
abbrev cX9_queue : ByteArray := prog_1_method_31_code
def yX9_queue : MethodName := ⟨RX9, "queue", "(I)I"⟩
abbrev cX9_there : ByteArray := prog_1_method_32_code
def yX9_there : MethodName := ⟨RX9, "there", "(I)I"⟩
abbrev cX9_see : ByteArray := prog_1_method_33_code
def yX9_see : MethodName := ⟨RX9, "see", "(IIIZ)I"⟩
abbrev cX9_strike : ByteArray := prog_1_method_34_code
def yX9_strike : MethodName := ⟨RX9, "strike", "(I)I"⟩
abbrev cX9_known : ByteArray := prog_1_method_35_code
def yX9_known : MethodName := ⟨RX9, "known", "(I)Z"⟩
abbrev cX9_rates : ByteArray := prog_1_method_36_code
def yX9_rates : MethodName := ⟨RX9, "rates", "(I)I"⟩
abbrev cX9_chance : ByteArray := prog_1_method_37_code
def yX9_chance : MethodName := ⟨RX9, "chance", "(III)I"⟩
abbrev cX9_tried : ByteArray := prog_1_method_38_code
def yX9_tried : MethodName := ⟨RX9, "tried", "(III)I"⟩
abbrev cX9_undo : ByteArray := prog_1_method_39_code
def yX9_undo : MethodName := ⟨RX9, "undo", "()I"⟩
abbrev cX9_keep : ByteArray := prog_1_method_40_code
def yX9_keep : MethodName := ⟨RX9, "keep", "()I"⟩
abbrev cX9_back : ByteArray := prog_1_method_41_code
def yX9_back : MethodName := ⟨RX9, "back", "()I"⟩
abbrev cX9_count : ByteArray := prog_1_method_42_code
def yX9_count : MethodName := ⟨RX9, "count", "(I)I"⟩
abbrev cX9_tapeFour : ByteArray := prog_1_method_43_code
def yX9_tapeFour : MethodName := ⟨RX9, "tapeFour", "(I)V"⟩
abbrev cX9_isPerson : ByteArray := prog_1_method_44_code
def yX9_isPerson : MethodName := ⟨RX9, "isPerson", "(I)Z"⟩
abbrev cX9_isMeeting : ByteArray := prog_1_method_45_code
def yX9_isMeeting : MethodName := ⟨RX9, "isMeeting", "(I)Z"⟩
abbrev cX9_areTwo : ByteArray := prog_1_method_46_code
def yX9_areTwo : MethodName := ⟨RX9, "areTwo", "(II)Z"⟩
abbrev cX9_startTrial : ByteArray := prog_1_method_47_code
def yX9_startTrial : MethodName := ⟨RX9, "startTrial", "()V"⟩
abbrev cX9_passTrial : ByteArray := prog_1_method_48_code
def yX9_passTrial : MethodName := ⟨RX9, "passTrial", "(I)V"⟩
abbrev cX9_minutesTillTold : ByteArray := prog_1_method_49_code
def yX9_minutesTillTold : MethodName := ⟨RX9, "minutesTillTold", "(I)I"⟩
abbrev cX9_spreadIfRinging : ByteArray := prog_1_method_50_code
def yX9_spreadIfRinging : MethodName := ⟨RX9, "spreadIfRinging", "(I)I"⟩
abbrev cX9_isKeptInTrial : ByteArray := prog_1_method_51_code
def yX9_isKeptInTrial : MethodName := ⟨RX9, "isKeptInTrial", "(I)Z"⟩
abbrev cX9_isAllSeenSo : ByteArray := prog_1_method_52_code
def yX9_isAllSeenSo : MethodName := ⟨RX9, "isAllSeenSo", "()Z"⟩
abbrev cX9_isRest : ByteArray := prog_1_method_53_code
def yX9_isRest : MethodName := ⟨RX9, "isRest", "(III)Z"⟩
abbrev cX9_gain : ByteArray := prog_1_method_54_code
def yX9_gain : MethodName := ⟨RX9, "gain", "(II)I"⟩
abbrev cX9_within : ByteArray := prog_1_method_55_code
def yX9_within : MethodName := ⟨RX9, "within", "(JJJ)J"⟩
def RX10 : String := "SpeakClockModel"
def TX10 : u_T := fun k => match k with
  | 0 => ("SpeakClockModel", "tape", "[I", true)
  | 1 => ("SpeakClockModel", "tapeSize", "I", false)
  | 2 => ("SpeakClockModel", "thrown", "I", false)
  | 3 => ("SpeakClockModel", "words", "[I", true)
  | 4 => ("SpeakClockModel", "fault", "I", false)
  | 5 => ("SpeakClockModel", "faultPlace", "I", false)
  | 6 => ("SpeakClockModel", "stop", "I", false)
  | 7 => ("SpeakClockModel", "next", "I", false)
  | 8 => ("SpeakClockModel", "kind", "I", false)
  | 9 => ("SpeakClockModel", "which", "I", false)
  | 10 => ("SpeakClockModel", "at", "I", false)
  | 11 => ("SpeakClockModel", "got", "I", false)
  | 12 => ("SpeakClockModel", "people", "I", false)
  | 13 => ("SpeakClockModel", "rings", "I", false)
  | 14 => ("SpeakClockModel", "meetings", "I", false)
  | 15 => ("SpeakClockModel", "colds", "I", false)
  | 16 => ("SpeakClockModel", "knots", "I", false)
  | 17 => ("SpeakClockModel", "peopleRead", "I", false)
  | 18 => ("SpeakClockModel", "ringsRead", "I", false)
  | 19 => ("SpeakClockModel", "meetingsRead", "I", false)
  | 20 => ("SpeakClockModel", "coldsRead", "I", false)
  | 21 => ("SpeakClockModel", "knotsRead", "I", false)
  | 22 => ("SpeakClockModel", "onceTold", "[Z", true)
  | 23 => ("SpeakClockModel", "once", "[I", true)
  | 24 => ("SpeakClockModel", "manName", "[I", true)
  | 25 => ("SpeakClockModel", "manTalks", "[I", true)
  | 26 => ("SpeakClockModel", "manWaits", "[I", true)
  | 27 => ("SpeakClockModel", "manOff", "[I", true)
  | 28 => ("SpeakClockModel", "manRate", "[I", true)
  | 29 => ("SpeakClockModel", "ringMan", "[I", true)
  | 30 => ("SpeakClockModel", "ringAt", "[I", true)
  | 31 => ("SpeakClockModel", "meetOne", "[I", true)
  | 32 => ("SpeakClockModel", "meetOther", "[I", true)
  | 33 => ("SpeakClockModel", "meetTime", "[I", true)
  | 34 => ("SpeakClockModel", "coldFrom", "[I", true)
  | 35 => ("SpeakClockModel", "coldTo", "[I", true)
  | 36 => ("SpeakClockModel", "lawTold", "[Z", true)
  | 37 => ("SpeakClockModel", "first", "[I", true)
  | 38 => ("SpeakClockModel", "last", "[I", true)
  | 39 => ("SpeakClockModel", "knot", "[I", true)
  | 40 => ("SpeakClockModel", "part", "[I", true)
  | 41 => ("SpeakClockModel", "other", "[I", true)
  | 42 => ("SpeakClockModel", "wait", "[I", true)
  | 43 => ("SpeakClockModel", "held", "[I", true)
  | 44 => ("SpeakClockModel", "waits", "I", false)
  | 45 => ("SpeakClockModel", "helds", "I", false)
  | 46 => ("SpeakClockModel", "brackets", "I", false)
  | 47 => ("SpeakClockModel", "counted", "I", false)
  | 48 => ("SpeakClockModel", "wants", "Z", false)
  | 49 => ("SpeakClockModel", "mayNot", "Z", false)
  | 50 => ("SpeakClockModel", "names", "[J", true)
  | 51 => ("SpeakClockModel", "value", "[J", true)
  | 52 => ("SpeakClockModel", "isError", "Z", false)
  | 53 => ("SpeakClockModel", "status", "[I", true)
  | 54 => ("SpeakClockModel", "aheadOf", "[I", true)
  | 55 => ("SpeakClockModel", "off", "[I", true)
  | 56 => ("SpeakClockModel", "toldMany", "[I", true)
  | 57 => ("SpeakClockModel", "queue", "[I", true)
  | 58 => ("SpeakClockModel", "queueMany", "[I", true)
  | 59 => ("SpeakClockModel", "talker", "[I", true)
  | 60 => ("SpeakClockModel", "left", "[I", true)
  | 61 => ("SpeakClockModel", "times", "[I", true)
  | 62 => ("SpeakClockModel", "came", "[I", true)
  | 63 => ("SpeakClockModel", "verdict", "[I", true)
  | 64 => ("SpeakClockModel", "minute", "[I", true)
  | 65 => ("SpeakClockModel", "strangers", "[I", true)
  | 66 => ("SpeakClockModel", "drawn", "J", false)
  | 67 => ("SpeakClockModel", "draws", "Z", false)
  | 68 => ("SpeakClockModel", "noCrowd", "Z", false)
  | 69 => ("SpeakClockModel", "noCold", "Z", false)
  | 70 => ("SpeakClockModel", "noDrift", "Z", false)
  | 71 => ("SpeakClockModel", "allWait", "Z", false)
  | 72 => ("SpeakClockModel", "dumb", "I", false)
  | 73 => ("SpeakClockModel", "rateOf", "I", false)
  | 74 => ("SpeakClockModel", "rateBy", "I", false)
  | 75 => ("SpeakClockModel", "seenMany", "I", false)
  | 76 => ("SpeakClockModel", "knownTold", "I", false)
  | 77 => ("SpeakClockModel", "seen1", "[I", true)
  | 78 => ("SpeakClockModel", "counts", "[Z", true)
  | 79 => ("SpeakClockModel", "undos", "I", false)
  | 80 => ("SpeakClockModel", "undo", "[I", true)
  | 81 => ("SpeakClockModel", "hasImage", "Z", false)
  | 82 => ("SpeakClockModel", "image", "[I", true)
  | 83 => ("SpeakClockModel", "imageRest", "[I", true)
  | _ => ("SpeakClockModel", "imageDrawn", "J", false)
def tyX10 : Nat → FieldType := fun k => match k with
  | 0 => .array .int
  | 1 => .int
  | 2 => .int
  | 3 => .array .int
  | 4 => .int
  | 5 => .int
  | 6 => .int
  | 7 => .int
  | 8 => .int
  | 9 => .int
  | 10 => .int
  | 11 => .int
  | 12 => .int
  | 13 => .int
  | 14 => .int
  | 15 => .int
  | 16 => .int
  | 17 => .int
  | 18 => .int
  | 19 => .int
  | 20 => .int
  | 21 => .int
  | 22 => .array .boolean
  | 23 => .array .int
  | 24 => .array .int
  | 25 => .array .int
  | 26 => .array .int
  | 27 => .array .int
  | 28 => .array .int
  | 29 => .array .int
  | 30 => .array .int
  | 31 => .array .int
  | 32 => .array .int
  | 33 => .array .int
  | 34 => .array .int
  | 35 => .array .int
  | 36 => .array .boolean
  | 37 => .array .int
  | 38 => .array .int
  | 39 => .array .int
  | 40 => .array .int
  | 41 => .array .int
  | 42 => .array .int
  | 43 => .array .int
  | 44 => .int
  | 45 => .int
  | 46 => .int
  | 47 => .int
  | 48 => .boolean
  | 49 => .boolean
  | 50 => .array .long
  | 51 => .array .long
  | 52 => .boolean
  | 53 => .array .int
  | 54 => .array .int
  | 55 => .array .int
  | 56 => .array .int
  | 57 => .array .int
  | 58 => .array .int
  | 59 => .array .int
  | 60 => .array .int
  | 61 => .array .int
  | 62 => .array .int
  | 63 => .array .int
  | 64 => .array .int
  | 65 => .array .int
  | 66 => .long
  | 67 => .boolean
  | 68 => .boolean
  | 69 => .boolean
  | 70 => .boolean
  | 71 => .boolean
  | 72 => .int
  | 73 => .int
  | 74 => .int
  | 75 => .int
  | 76 => .int
  | 77 => .array .int
  | 78 => .array .boolean
  | 79 => .int
  | 80 => .array .int
  | 81 => .boolean
  | 82 => .array .int
  | 83 => .array .int
  | _ => .long
theorem nmX10 : ∀ a, a < 85 → ∀ b, b < 85 → a ≠ b → (TX10 a).2.1 ≠ (TX10 b).2.1 := by decide +kernel
theorem tyX10_ok : ∀ k, k < 85 → parseFieldDescriptor (TX10 k).2.2.1 = some (tyX10 k) := by decide +kernel
abbrev cX10_init : ByteArray := prog_12_method_1_code
def yX10_init : MethodName := ⟨RX10, "<init>", "()V"⟩
abbrev cX10_thrown : ByteArray := prog_12_method_2_code
def yX10_thrown : MethodName := ⟨RX10, "thrown", "()I"⟩
abbrev cX10_feed : ByteArray := prog_12_method_3_code
def yX10_feed : MethodName := ⟨RX10, "feed", "(IIIII)I"⟩
abbrev cX10_isIn : ByteArray := prog_12_method_4_code
def yX10_isIn : MethodName := ⟨RX10, "isIn", "(III)Z"⟩
abbrev cX10_isOf : ByteArray := prog_12_method_5_code
def yX10_isOf : MethodName := ⟨RX10, "isOf", "(II)Z"⟩
abbrev cX10_wrong : ByteArray := prog_12_method_6_code
def yX10_wrong : MethodName := ⟨RX10, "wrong", "(I)Z"⟩
abbrev cX10_wordAt : ByteArray := prog_12_method_7_code
def yX10_wordAt : MethodName := ⟨RX10, "wordAt", "(II)I"⟩
abbrev cX10_isSmall : ByteArray := prog_12_method_8_code
def yX10_isSmall : MethodName := ⟨RX10, "isSmall", "(I)Z"⟩
abbrev cX10_isDigit : ByteArray := prog_12_method_9_code
def yX10_isDigit : MethodName := ⟨RX10, "isDigit", "(I)Z"⟩
abbrev cX10_token : ByteArray := prog_12_method_10_code
def yX10_token : MethodName := ⟨RX10, "token", "()V"⟩
abbrev cX10_signToken : ByteArray := prog_12_method_11_code
def yX10_signToken : MethodName := ⟨RX10, "signToken", "()V"⟩
abbrev cX10_packed : ByteArray := prog_12_method_12_code
def yX10_packed : MethodName := ⟨RX10, "packed", "(II)I"⟩
abbrev cX10_isKey : ByteArray := prog_12_method_13_code
def yX10_isKey : MethodName := ⟨RX10, "isKey", "(I)Z"⟩
abbrev cX10_isSign : ByteArray := prog_12_method_14_code
def yX10_isSign : MethodName := ⟨RX10, "isSign", "(I)Z"⟩
abbrev cX10_number : ByteArray := prog_12_method_15_code
def yX10_number : MethodName := ⟨RX10, "number", "(II)Z"⟩
abbrev cX10_signed : ByteArray := prog_12_method_16_code
def yX10_signed : MethodName := ⟨RX10, "signed", "(I)Z"⟩
abbrev cX10_plain : ByteArray := prog_12_method_17_code
def yX10_plain : MethodName := ⟨RX10, "plain", "()V"⟩
abbrev cX10_copies : ByteArray := prog_12_method_18_code
def yX10_copies : MethodName := ⟨RX10, "copies", "([II)V"⟩
abbrev cX10_keepText : ByteArray := prog_12_method_19_code
def yX10_keepText : MethodName := ⟨RX10, "keepText", "()V"⟩
abbrev cX10_find : ByteArray := prog_12_method_20_code
def yX10_find : MethodName := ⟨RX10, "find", "([IIII)I"⟩
abbrev cX10_manThere : ByteArray := prog_12_method_21_code
def yX10_manThere : MethodName := ⟨RX10, "manThere", "()Z"⟩
abbrev cX10_manLine : ByteArray := prog_12_method_22_code
def yX10_manLine : MethodName := ⟨RX10, "manLine", "()Z"⟩
abbrev cX10_ringLine : ByteArray := prog_12_method_23_code
def yX10_ringLine : MethodName := ⟨RX10, "ringLine", "()Z"⟩
abbrev cX10_meetLine : ByteArray := prog_12_method_24_code
def yX10_meetLine : MethodName := ⟨RX10, "meetLine", "()Z"⟩
abbrev cX10_coldLine : ByteArray := prog_12_method_25_code
def yX10_coldLine : MethodName := ⟨RX10, "coldLine", "()Z"⟩
abbrev cX10_onceLine : ByteArray := prog_12_method_26_code
def yX10_onceLine : MethodName := ⟨RX10, "onceLine", "(II)Z"⟩
abbrev cX10_lineRead : ByteArray := prog_12_method_27_code
def yX10_lineRead : MethodName := ⟨RX10, "lineRead", "()Z"⟩
abbrev cX10_text : ByteArray := prog_12_method_28_code
def yX10_text : MethodName := ⟨RX10, "text", "(I)I"⟩
abbrev cX10_fault : ByteArray := prog_12_method_29_code
def yX10_fault : MethodName := ⟨RX10, "fault", "(I)I"⟩
abbrev cX10_named : ByteArray := prog_12_method_30_code
def yX10_named : MethodName := ⟨RX10, "named", "(I)I"⟩
abbrev cX10_rank : ByteArray := prog_12_method_31_code
def yX10_rank : MethodName := ⟨RX10, "rank", "(I)I"⟩
abbrev cX10_grown : ByteArray := prog_12_method_32_code
def yX10_grown : MethodName := ⟨RX10, "grown", "(III)V"⟩
abbrev cX10_dropHeld : ByteArray := prog_12_method_33_code
def yX10_dropHeld : MethodName := ⟨RX10, "dropHeld", "()I"⟩
abbrev cX10_bind : ByteArray := prog_12_method_34_code
def yX10_bind : MethodName := ⟨RX10, "bind", "(I)V"⟩
abbrev cX10_isCounted : ByteArray := prog_12_method_35_code
def yX10_isCounted : MethodName := ⟨RX10, "isCounted", "()Z"⟩
abbrev cX10_waitsFor : ByteArray := prog_12_method_36_code
def yX10_waitsFor : MethodName := ⟨RX10, "waitsFor", "(I)V"⟩
abbrev cX10_nameMet : ByteArray := prog_12_method_37_code
def yX10_nameMet : MethodName := ⟨RX10, "nameMet", "()I"⟩
abbrev cX10_leafRead : ByteArray := prog_12_method_38_code
def yX10_leafRead : MethodName := ⟨RX10, "leafRead", "()Z"⟩
abbrev cX10_signs : ByteArray := prog_12_method_39_code
def yX10_signs : MethodName := ⟨RX10, "signs", "()Z"⟩
abbrev cX10_sumRead : ByteArray := prog_12_method_40_code
def yX10_sumRead : MethodName := ⟨RX10, "sumRead", "()Z"⟩
abbrev cX10_bounded : ByteArray := prog_12_method_41_code
def yX10_bounded : MethodName := ⟨RX10, "bounded", "(J)J"⟩
abbrev cX10_compares : ByteArray := prog_12_method_42_code
def yX10_compares : MethodName := ⟨RX10, "compares", "(IJJ)Z"⟩
abbrev cX10_times : ByteArray := prog_12_method_43_code
def yX10_times : MethodName := ⟨RX10, "times", "(JJ)J"⟩
abbrev cX10_valueOf : ByteArray := prog_12_method_44_code
def yX10_valueOf : MethodName := ⟨RX10, "valueOf", "(I)J"⟩
abbrev cX10_begin : ByteArray := prog_12_method_45_code
def yX10_begin : MethodName := ⟨RX10, "begin", "()V"⟩
abbrev cX10_atFirst : ByteArray := prog_12_method_46_code
def yX10_atFirst : MethodName := ⟨RX10, "atFirst", "(I)V"⟩
abbrev cX10_plainTried : ByteArray := prog_12_method_47_code
def yX10_plainTried : MethodName := ⟨RX10, "plainTried", "()V"⟩
abbrev cX10_layTried : ByteArray := prog_12_method_48_code
def yX10_layTried : MethodName := ⟨RX10, "layTried", "()V"⟩
abbrev cX10_isMan : ByteArray := prog_12_method_49_code
def yX10_isMan : MethodName := ⟨RX10, "isMan", "(I)Z"⟩
abbrev cX10_isMeeting : ByteArray := prog_12_method_50_code
def yX10_isMeeting : MethodName := ⟨RX10, "isMeeting", "(I)Z"⟩
abbrev cX10_waitsOf : ByteArray := prog_12_method_51_code
def yX10_waitsOf : MethodName := ⟨RX10, "waitsOf", "(I)I"⟩
abbrev cX10_rateIn : ByteArray := prog_12_method_52_code
def yX10_rateIn : MethodName := ⟨RX10, "rateIn", "(I)I"⟩
abbrev cX10_isCold : ByteArray := prog_12_method_53_code
def yX10_isCold : MethodName := ⟨RX10, "isCold", "(I)Z"⟩
abbrev cX10_layNames : ByteArray := prog_12_method_54_code
def yX10_layNames : MethodName := ⟨RX10, "layNames", "(III)V"⟩
abbrev cX10_lawOf : ByteArray := prog_12_method_55_code
def yX10_lawOf : MethodName := ⟨RX10, "lawOf", "(I)J"⟩
abbrev cX10_within : ByteArray := prog_12_method_56_code
def yX10_within : MethodName := ⟨RX10, "within", "(III)I"⟩
abbrev cX10_boundLaw : ByteArray := prog_12_method_57_code
def yX10_boundLaw : MethodName := ⟨RX10, "boundLaw", "(IIII)I"⟩
abbrev cX10_number1 : ByteArray := prog_12_method_58_code
def yX10_number1 : MethodName := ⟨RX10, "number1", "(I)I"⟩
abbrev cX10_isStranger : ByteArray := prog_12_method_59_code
def yX10_isStranger : MethodName := ⟨RX10, "isStranger", "()Z"⟩
abbrev cX10_joins : ByteArray := prog_12_method_60_code
def yX10_joins : MethodName := ⟨RX10, "joins", "(II)Z"⟩
abbrev cX10_leaves : ByteArray := prog_12_method_61_code
def yX10_leaves : MethodName := ⟨RX10, "leaves", "(II)V"⟩
abbrev cX10_begins : ByteArray := prog_12_method_62_code
def yX10_begins : MethodName := ⟨RX10, "begins", "(I)V"⟩
abbrev cX10_isTold : ByteArray := prog_12_method_63_code
def yX10_isTold : MethodName := ⟨RX10, "isTold", "(I)V"⟩
abbrev cX10_drifts : ByteArray := prog_12_method_64_code
def yX10_drifts : MethodName := ⟨RX10, "drifts", "(I)V"⟩
abbrev cX10_comes : ByteArray := prog_12_method_65_code
def yX10_comes : MethodName := ⟨RX10, "comes", "(III)V"⟩
abbrev cX10_meets : ByteArray := prog_12_method_66_code
def yX10_meets : MethodName := ⟨RX10, "meets", "(II)V"⟩
abbrev cX10_minuteGoes : ByteArray := prog_12_method_67_code
def yX10_minuteGoes : MethodName := ⟨RX10, "minuteGoes", "(I)V"⟩
abbrev cX10_goMany : ByteArray := prog_12_method_68_code
def yX10_goMany : MethodName := ⟨RX10, "goMany", "(I)V"⟩
abbrev cX10_are : ByteArray := prog_12_method_69_code
def yX10_are : MethodName := ⟨RX10, "are", "(II)I"⟩
abbrev cX10_fails : ByteArray := prog_12_method_70_code
def yX10_fails : MethodName := ⟨RX10, "fails", "(I)I"⟩
abbrev cX10_placeOf : ByteArray := prog_12_method_71_code
def yX10_placeOf : MethodName := ⟨RX10, "placeOf", "(I)I"⟩
abbrev cX10_man : ByteArray := prog_12_method_72_code
def yX10_man : MethodName := ⟨RX10, "man", "(II)I"⟩
abbrev cX10_meeting : ByteArray := prog_12_method_73_code
def yX10_meeting : MethodName := ⟨RX10, "meeting", "(II)I"⟩
abbrev cX10_shows : ByteArray := prog_12_method_74_code
def yX10_shows : MethodName := ⟨RX10, "shows", "(I)I"⟩
abbrev cX10_law : ByteArray := prog_12_method_75_code
def yX10_law : MethodName := ⟨RX10, "law", "(II)J"⟩
abbrev cX10_ring : ByteArray := prog_12_method_76_code
def yX10_ring : MethodName := ⟨RX10, "ring", "(I)I"⟩
abbrev cX10_hangUp : ByteArray := prog_12_method_77_code
def yX10_hangUp : MethodName := ⟨RX10, "hangUp", "(I)Z"⟩
abbrev cX10_set : ByteArray := prog_12_method_78_code
def yX10_set : MethodName := ⟨RX10, "set", "(II)Z"⟩
abbrev cX10_isOpen : ByteArray := prog_12_method_79_code
def yX10_isOpen : MethodName := ⟨RX10, "isOpen", "(I)Z"⟩
abbrev cX10_putOff : ByteArray := prog_12_method_80_code
def yX10_putOff : MethodName := ⟨RX10, "putOff", "(II)Z"⟩
abbrev cX10_go : ByteArray := prog_12_method_81_code
def yX10_go : MethodName := ⟨RX10, "go", "(I)I"⟩
abbrev cX10_ahead : ByteArray := prog_12_method_82_code
def yX10_ahead : MethodName := ⟨RX10, "ahead", "(III)I"⟩
abbrev cX10_toldBy : ByteArray := prog_12_method_83_code
def yX10_toldBy : MethodName := ⟨RX10, "toldBy", "(I)I"⟩
abbrev cX10_delay : ByteArray := prog_12_method_84_code
def yX10_delay : MethodName := ⟨RX10, "delay", "(I)I"⟩
abbrev cX10_bestRing : ByteArray := prog_12_method_85_code
def yX10_bestRing : MethodName := ⟨RX10, "bestRing", "(III)I"⟩
abbrev cX10_manyOf : ByteArray := prog_12_method_86_code
def yX10_manyOf : MethodName := ⟨RX10, "manyOf", "(I)I"⟩
abbrev cX10_spread : ByteArray := prog_12_method_87_code
def yX10_spread : MethodName := ⟨RX10, "spread", "(II)I"⟩
abbrev cX10_near : ByteArray := prog_12_method_88_code
def yX10_near : MethodName := ⟨RX10, "near", "(I)I"⟩
abbrev cX10_liars : ByteArray := prog_12_method_89_code
def yX10_liars : MethodName := ⟨RX10, "liars", "(I)I"⟩
abbrev cX10_median : ByteArray := prog_12_method_90_code
def yX10_median : MethodName := ⟨RX10, "median", "()I"⟩
abbrev cX10_agree : ByteArray := prog_12_method_91_code
def yX10_agree : MethodName := ⟨RX10, "agree", "(I)I"⟩
abbrev cX10_needs : ByteArray := prog_12_method_92_code
def yX10_needs : MethodName := ⟨RX10, "needs", "(I)I"⟩
abbrev cX10_certain : ByteArray := prog_12_method_93_code
def yX10_certain : MethodName := ⟨RX10, "certain", "()I"⟩
abbrev cX10_latest : ByteArray := prog_12_method_94_code
def yX10_latest : MethodName := ⟨RX10, "latest", "()I"⟩
abbrev cX10_apart : ByteArray := prog_12_method_95_code
def yX10_apart : MethodName := ⟨RX10, "apart", "(II)I"⟩
abbrev cX10_quiet : ByteArray := prog_12_method_96_code
def yX10_quiet : MethodName := ⟨RX10, "quiet", "()I"⟩
abbrev cX10_firstMissed : ByteArray := prog_12_method_97_code
def yX10_firstMissed : MethodName := ⟨RX10, "firstMissed", "(I)I"⟩
abbrev cX10_longest : ByteArray := prog_12_method_98_code
def yX10_longest : MethodName := ⟨RX10, "longest", "(I)I"⟩
abbrev cX10_queue : ByteArray := prog_12_method_99_code
def yX10_queue : MethodName := ⟨RX10, "queue", "(I)I"⟩
abbrev cX10_there : ByteArray := prog_12_method_100_code
def yX10_there : MethodName := ⟨RX10, "there", "(I)I"⟩
abbrev cX10_hasBy : ByteArray := prog_12_method_101_code
def yX10_hasBy : MethodName := ⟨RX10, "hasBy", "(II)I"⟩
abbrev cX10_restAt : ByteArray := prog_12_method_102_code
def yX10_restAt : MethodName := ⟨RX10, "restAt", "(III)I"⟩
abbrev cX10_areTwo : ByteArray := prog_12_method_103_code
def yX10_areTwo : MethodName := ⟨RX10, "areTwo", "(II)Z"⟩
abbrev cX10_rests : ByteArray := prog_12_method_104_code
def yX10_rests : MethodName := ⟨RX10, "rests", "(II)I"⟩
abbrev cX10_rest : ByteArray := prog_12_method_105_code
def yX10_rest : MethodName := ⟨RX10, "rest", "(III)I"⟩
abbrev cX10_noted : ByteArray := prog_12_method_106_code
def yX10_noted : MethodName := ⟨RX10, "noted", "(IIII)I"⟩
abbrev cX10_see : ByteArray := prog_12_method_107_code
def yX10_see : MethodName := ⟨RX10, "see", "(IIIZ)I"⟩
abbrev cX10_strike : ByteArray := prog_12_method_108_code
def yX10_strike : MethodName := ⟨RX10, "strike", "(I)I"⟩
abbrev cX10_known : ByteArray := prog_12_method_109_code
def yX10_known : MethodName := ⟨RX10, "known", "(I)Z"⟩
abbrev cX10_knownBy : ByteArray := prog_12_method_110_code
def yX10_knownBy : MethodName := ⟨RX10, "knownBy", "()I"⟩
abbrev cX10_isSo : ByteArray := prog_12_method_111_code
def yX10_isSo : MethodName := ⟨RX10, "isSo", "(I)Z"⟩
abbrev cX10_fits : ByteArray := prog_12_method_112_code
def yX10_fits : MethodName := ⟨RX10, "fits", "(II)Z"⟩
abbrev cX10_rates : ByteArray := prog_12_method_113_code
def yX10_rates : MethodName := ⟨RX10, "rates", "(I)I"⟩
abbrev cX10_chance : ByteArray := prog_12_method_114_code
def yX10_chance : MethodName := ⟨RX10, "chance", "(III)I"⟩
abbrev cX10_tried : ByteArray := prog_12_method_115_code
def yX10_tried : MethodName := ⟨RX10, "tried", "(III)I"⟩
abbrev cX10_put : ByteArray := prog_12_method_116_code
def yX10_put : MethodName := ⟨RX10, "put", "([II)V"⟩
abbrev cX10_take : ByteArray := prog_12_method_117_code
def yX10_take : MethodName := ⟨RX10, "take", "([II)V"⟩
abbrev cX10_remember : ByteArray := prog_12_method_118_code
def yX10_remember : MethodName := ⟨RX10, "remember", "()V"⟩
abbrev cX10_undo : ByteArray := prog_12_method_119_code
def yX10_undo : MethodName := ⟨RX10, "undo", "()I"⟩
abbrev cX10_keep : ByteArray := prog_12_method_120_code
def yX10_keep : MethodName := ⟨RX10, "keep", "()I"⟩
abbrev cX10_back : ByteArray := prog_12_method_121_code
def yX10_back : MethodName := ⟨RX10, "back", "()I"⟩
abbrev cX10_count : ByteArray := prog_12_method_122_code
def yX10_count : MethodName := ⟨RX10, "count", "(I)I"⟩
def RJ6 : String := "java/lang/Integer"
abbrev cJ6_bitCount_0f7a4 : ByteArray := prog_18_method_49_code
def yJ6_bitCount_0f7a4 : MethodName := ⟨RJ6, "bitCount", "(I)I"⟩
def RL : String := "SpeakClockLaw"
abbrev cL_man : ByteArray := method_3_code
def yL_man : MethodName := ⟨RL, "man", "(LSpeakClock;II[J)I"⟩
abbrev cL_law : ByteArray := code
def yL_law : MethodName := ⟨RL, "law", "([I)Z"⟩
abbrev vwCl : List vw_C := [(RX0, TX0, 16), (RX1, TX1, 5), (RX2, TX2, 7), (RX3, TX3, 9), (RX4, TX4, 4), (RX5, TX5, 19), (RX6, TX6, 8), (RX7, TX7, 8), (RX8, TX8, 9), (RX9, TX9, 14), (RX10, TX10, 85)]
end
section
/-! ===== the mini machine: its values, memory, instructions ===== -/
/-- a value: an int, a long, a reference (0 null, 1 the script, from 2 on the cells in the order of their making) -/
abbrev mV : Type := Int ⊕ (Int ⊕ Nat)
/-- an instruction: pc, what it is, its length, three numbers and a constant that belong to it; '.nop' of length 0: only the locals of the mask go on -/
abbrev mE : Type := Nat × Instr × Nat × Nat × Nat × Nat × Int
/-- the memory: how many references there are, what each is (kind, length), references, ints, longs by reference and place -/
abbrev mM : Type := Nat × (Nat → Nat × Nat) × (Nat → Nat → Nat) × (Nat → Nat → Int) × (Nat → Nat → Int)
end
section
/-- 0: SpeakClock$Tokens.<init>()V -/
def cd_Tokens_init : List mE := [(0, .aload_n 0, 1, 0, 0, 0, 0), (1, .invokespecial 3, 3, 1008, 1, 0, 10049), (4, .aload_n 0, 1, 0, 0, 0, 0), (5, .sipush 700, 3, 0, 0, 0, 700), (8, .newarray .byte, 2, 2, 0, 0, 10123), (10, .putfield 9, 3, 11, 0, 2, 10091), (13, .aload_n 0, 1, 0, 0, 0, 0), (14, .bipush 20, 2, 0, 0, 0, 20), (16, .newarray .int, 2, 0, 0, 0, 10124), (18, .putfield 15, 3, 11, 1, 2, 10093), (21, .aload_n 0, 1, 0, 0, 0, 0), (22, .iconst 0, 1, 0, 0, 0, 0), (23, .putfield 19, 3, 11, 2, 0, 10094), (26, .aload_n 0, 1, 0, 0, 0, 0), (27, .iconst 0, 1, 0, 0, 0, 0), (28, .putfield 23, 3, 11, 3, 0, 10095), (31, .aload_n 0, 1, 0, 0, 0, 0), (32, .iconst 0, 1, 0, 0, 0, 0), (33, .putfield 26, 3, 11, 4, 0, 10096), (36, .aload_n 0, 1, 0, 0, 0, 0), (37, .iconst 0, 1, 0, 0, 0, 0), (38, .putfield 29, 3, 11, 5, 0, 10099), (41, .aload_n 0, 1, 0, 0, 0, 0), (42, .iconst 0, 1, 0, 0, 0, 0), (43, .putfield 32, 3, 11, 6, 0, 10101), (46, .aload_n 0, 1, 0, 0, 0, 0), (47, .iconst 0, 1, 0, 0, 0, 0), (48, .putfield 35, 3, 11, 7, 0, 10104), (51, .iconst 0, 1, 0, 0, 0, 0), (52, .istore_n 1, 1, 0, 0, 0, 0), (53, .nop, 0, 3, 0, 0, 0), (53, .iload_n 1, 1, 0, 0, 0, 0), (54, .bipush 120, 2, 0, 0, 0, 120), (56, .if_icmp .ge 55, 3, 111, 0, 0, 0), (59, .ldc 38, 2, 999999, 0, 0, 0), (61, .iload_n 1, 1, 0, 0, 0, 0), (62, .invokevirtual 40, 3, 1007, 2, 0, 10051), (65, .istore_n 2, 1, 0, 0, 0, 0), (66, .iload_n 2, 1, 0, 0, 0, 0), (67, .bipush 32, 2, 0, 0, 0, 32), (69, .if_icmp .ne 7, 3, 76, 0, 0, 0), (72, .iconst 0, 1, 0, 0, 0, 0), (73, .goto 9, 3, 82, 0, 0, 0), (76, .iload_n 2, 1, 0, 0, 0, 0), (77, .bipush 97, 2, 0, 0, 0, 97), (79, .isub, 1, 0, 0, 0, 0), (80, .iconst 1, 1, 0, 0, 0, 1), (81, .iadd, 1, 0, 0, 0, 0), (82, .nop, 0, 3, 0, 0, 0), (82, .istore_n 3, 1, 0, 0, 0, 0), (83, .aload_n 0, 1, 0, 0, 0, 0), (84, .getfield 15, 3, 11, 1, 2, 10093), (87, .iload_n 1, 1, 0, 0, 0, 0), (88, .bipush 6, 2, 0, 0, 0, 6), (90, .idiv, 1, 0, 0, 0, 0), (91, .aload_n 0, 1, 0, 0, 0, 0), (92, .getfield 15, 3, 11, 1, 2, 10093), (95, .iload_n 1, 1, 0, 0, 0, 0), (96, .bipush 6, 2, 0, 0, 0, 6), (98, .idiv, 1, 0, 0, 0, 0), (99, .iaload, 1, 0, 0, 0, 0), (100, .iconst 5, 1, 0, 0, 0, 5), (101, .ishl, 1, 0, 0, 0, 0), (102, .iload_n 3, 1, 0, 0, 0, 0), (103, .ior, 1, 0, 0, 0, 0), (104, .iastore, 1, 0, 0, 0, 0), (105, .iinc 1 1, 3, 0, 0, 0, 0), (108, .goto (-55), 3, 53, 0, 0, 0), (111, .return_, 1, 0, 0, 0, 0)]
/-- 1: SpeakClock$LawReader.<init>()V -/
def cd_LawReader_init : List mE := [(0, .aload_n 0, 1, 0, 0, 0, 0), (1, .invokespecial 3, 3, 1008, 1, 0, 10043), (4, .aload_n 0, 1, 0, 0, 0, 0), (5, .new 9, 3, 11, 8, 0, 10044), (8, .dup, 1, 0, 0, 0, 0), (9, .invokespecial 11, 3, 0, 1, 11, 10046), (12, .putfield 12, 3, 5, 0, 2, 10125), (15, .aload_n 0, 1, 0, 0, 0, 0), (16, .bipush 72, 2, 0, 0, 0, 72), (18, .newarray .int, 2, 0, 0, 0, 10124), (20, .putfield 18, 3, 5, 1, 2, 10127), (23, .aload_n 0, 1, 0, 0, 0, 0), (24, .iconst 0, 1, 0, 0, 0, 0), (25, .putfield 22, 3, 5, 2, 0, 10128), (28, .aload_n 0, 1, 0, 0, 0, 0), (29, .iconst 0, 1, 0, 0, 0, 0), (30, .putfield 26, 3, 5, 3, 0, 10129), (33, .aload_n 0, 1, 0, 0, 0, 0), (34, .iconst 1, 1, 0, 0, 0, 1), (35, .putfield 29, 3, 5, 4, 3, 10130), (38, .return_, 1, 0, 0, 0, 0)]
/-- 2: SpeakClock$Laws.<init>()V -/
def cd_Laws_init : List mE := [(0, .aload_n 0, 1, 0, 0, 0, 0), (1, .invokespecial 3, 3, 1008, 1, 0, 10153), (4, .aload_n 0, 1, 0, 0, 0, 0), (5, .bipush 64, 2, 0, 0, 0, 64), (7, .newarray .int, 2, 0, 0, 0, 10124), (9, .putfield 9, 3, 6, 0, 2, 10154), (12, .aload_n 0, 1, 0, 0, 0, 0), (13, .bipush 64, 2, 0, 0, 0, 64), (15, .newarray .int, 2, 0, 0, 0, 10124), (17, .putfield 15, 3, 6, 1, 2, 10155), (20, .aload_n 0, 1, 0, 0, 0, 0), (21, .iconst 3, 1, 0, 0, 0, 3), (22, .newarray .int, 2, 0, 0, 0, 10124), (24, .putfield 18, 3, 6, 2, 2, 10156), (27, .aload_n 0, 1, 0, 0, 0, 0), (28, .iconst 3, 1, 0, 0, 0, 3), (29, .newarray .int, 2, 0, 0, 0, 10124), (31, .putfield 21, 3, 6, 3, 2, 10158), (34, .aload_n 0, 1, 0, 0, 0, 0), (35, .bipush 64, 2, 0, 0, 0, 64), (37, .newarray .long, 2, 1, 0, 0, 10181), (39, .putfield 24, 3, 6, 4, 2, 10160), (42, .aload_n 0, 1, 0, 0, 0, 0), (43, .iconst 0, 1, 0, 0, 0, 0), (44, .putfield 28, 3, 6, 5, 0, 10161), (47, .aload_n 0, 1, 0, 0, 0, 0), (48, .iconst 0, 1, 0, 0, 0, 0), (49, .putfield 32, 3, 6, 6, 0, 10163), (52, .return_, 1, 0, 0, 0, 0)]
/-- 3: SpeakClock$Plan.<init>()V -/
def cd_Plan_init : List mE := [(0, .aload_n 0, 1, 0, 0, 0, 0), (1, .invokespecial 3, 3, 1008, 1, 0, 10147), (4, .aload_n 0, 1, 0, 0, 0, 0), (5, .bipush 6, 2, 0, 0, 0, 6), (7, .newarray .int, 2, 0, 0, 0, 10124), (9, .putfield 9, 3, 9, 0, 2, 10182), (12, .aload_n 0, 1, 0, 0, 0, 0), (13, .bipush 6, 2, 0, 0, 0, 6), (15, .newarray .int, 2, 0, 0, 0, 10124), (17, .putfield 15, 3, 9, 1, 2, 10184), (20, .aload_n 0, 1, 0, 0, 0, 0), (21, .bipush 6, 2, 0, 0, 0, 6), (23, .newarray .int, 2, 0, 0, 0, 10124), (25, .putfield 18, 3, 9, 2, 2, 10188), (28, .aload_n 0, 1, 0, 0, 0, 0), (29, .bipush 6, 2, 0, 0, 0, 6), (31, .newarray .int, 2, 0, 0, 0, 10124), (33, .putfield 21, 3, 9, 3, 2, 10192), (36, .aload_n 0, 1, 0, 0, 0, 0), (37, .bipush 6, 2, 0, 0, 0, 6), (39, .newarray .int, 2, 0, 0, 0, 10124), (41, .putfield 24, 3, 9, 4, 2, 10195), (44, .aload_n 0, 1, 0, 0, 0, 0), (45, .bipush 10, 2, 0, 0, 0, 10), (47, .newarray .int, 2, 0, 0, 0, 10124), (49, .putfield 27, 3, 9, 5, 2, 10199), (52, .aload_n 0, 1, 0, 0, 0, 0), (53, .bipush 10, 2, 0, 0, 0, 10), (55, .newarray .int, 2, 0, 0, 0, 10124), (57, .putfield 30, 3, 9, 6, 2, 10202), (60, .aload_n 0, 1, 0, 0, 0, 0), (61, .bipush 6, 2, 0, 0, 0, 6), (63, .newarray .int, 2, 0, 0, 0, 10124), (65, .putfield 33, 3, 9, 7, 2, 10205), (68, .aload_n 0, 1, 0, 0, 0, 0), (69, .bipush 6, 2, 0, 0, 0, 6), (71, .newarray .int, 2, 0, 0, 0, 10124), (73, .putfield 36, 3, 9, 8, 2, 10209), (76, .aload_n 0, 1, 0, 0, 0, 0), (77, .bipush 6, 2, 0, 0, 0, 6), (79, .newarray .int, 2, 0, 0, 0, 10124), (81, .putfield 39, 3, 9, 9, 2, 10213), (84, .aload_n 0, 1, 0, 0, 0, 0), (85, .iconst 3, 1, 0, 0, 0, 3), (86, .newarray .int, 2, 0, 0, 0, 10124), (88, .putfield 42, 3, 9, 10, 2, 10216), (91, .aload_n 0, 1, 0, 0, 0, 0), (92, .iconst 3, 1, 0, 0, 0, 3), (93, .newarray .int, 2, 0, 0, 0, 10124), (95, .putfield 45, 3, 9, 11, 2, 10219), (98, .aload_n 0, 1, 0, 0, 0, 0), (99, .new 48, 3, 6, 7, 0, 10148), (102, .dup, 1, 0, 0, 0, 0), (103, .invokespecial 50, 3, 2, 1, 1006, 10150), (106, .putfield 51, 3, 9, 12, 2, 10222), (109, .aload_n 0, 1, 0, 0, 0, 0), (110, .iconst 0, 1, 0, 0, 0, 0), (111, .putfield 55, 3, 9, 13, 0, 10226), (114, .aload_n 0, 1, 0, 0, 0, 0), (115, .iconst 0, 1, 0, 0, 0, 0), (116, .putfield 59, 3, 9, 14, 0, 10231), (119, .aload_n 0, 1, 0, 0, 0, 0), (120, .iconst 0, 1, 0, 0, 0, 0), (121, .putfield 62, 3, 9, 15, 0, 10235), (124, .aload_n 0, 1, 0, 0, 0, 0), (125, .iconst 0, 1, 0, 0, 0, 0), (126, .putfield 65, 3, 9, 16, 0, 20000), (129, .aload_n 0, 1, 0, 0, 0, 0), (130, .iconst 0, 1, 0, 0, 0, 0), (131, .putfield 68, 3, 9, 17, 0, 20003), (134, .aload_n 0, 1, 0, 0, 0, 0), (135, .iconst 0, 1, 0, 0, 0, 0), (136, .putfield 71, 3, 9, 18, 0, 20006), (139, .return_, 1, 0, 0, 0, 0)]
/-- 4: SpeakClock$LineReader.<init>()V -/
def cd_LineReader_init : List mE := [(0, .aload_n 0, 1, 0, 0, 0, 0), (1, .invokespecial 3, 3, 1008, 1, 0, 10037), (4, .aload_n 0, 1, 0, 0, 0, 0), (5, .new 9, 3, 5, 5, 0, 10038), (8, .dup, 1, 0, 0, 0, 0), (9, .invokespecial 11, 3, 1, 1, 1005, 10040), (12, .putfield 12, 3, 7, 0, 2, 20048), (15, .aload_n 0, 1, 0, 0, 0, 0), (16, .aload_n 0, 1, 0, 0, 0, 0), (17, .getfield 12, 3, 7, 0, 2, 20048), (20, .getfield 18, 3, 5, 0, 2, 10126), (23, .putfield 22, 3, 7, 1, 2, 20050), (26, .aload_n 0, 1, 0, 0, 0, 0), (27, .new 23, 3, 9, 19, 0, 10142), (30, .dup, 1, 0, 0, 0, 0), (31, .invokespecial 25, 3, 3, 1, 1009, 10144), (34, .putfield 26, 3, 7, 2, 2, 20051), (37, .aload_n 0, 1, 0, 0, 0, 0), (38, .iconst 0, 1, 0, 0, 0, 0), (39, .putfield 30, 3, 7, 3, 0, 20053), (42, .aload_n 0, 1, 0, 0, 0, 0), (43, .iconst 0, 1, 0, 0, 0, 0), (44, .putfield 34, 3, 7, 4, 0, 20055), (47, .aload_n 0, 1, 0, 0, 0, 0), (48, .iconst (-1), 1, 0, 0, 0, (-1)), (49, .putfield 37, 3, 7, 5, 0, 20057), (52, .aload_n 0, 1, 0, 0, 0, 0), (53, .iconst 0, 1, 0, 0, 0, 0), (54, .putfield 40, 3, 7, 6, 0, 20059), (57, .aload_n 0, 1, 0, 0, 0, 0), (58, .iconst 0, 1, 0, 0, 0, 0), (59, .putfield 43, 3, 7, 7, 3, 20060), (62, .aload_n 0, 1, 0, 0, 0, 0), (63, .iconst 0, 1, 0, 0, 0, 0), (64, .putfield 47, 3, 7, 8, 3, 20061), (67, .return_, 1, 0, 0, 0, 0)]
/-- 5: SpeakClock$Day.<init>()V -/
def cd_Day_init : List mE := [(0, .aload_n 0, 1, 0, 0, 0, 0), (1, .invokespecial 3, 3, 1008, 1, 0, 20086), (4, .aload_n 0, 1, 0, 0, 0, 0), (5, .bipush 6, 2, 0, 0, 0, 6), (7, .newarray .int, 2, 0, 0, 0, 10124), (9, .putfield 9, 3, 4, 0, 2, 20087), (12, .aload_n 0, 1, 0, 0, 0, 0), (13, .bipush 6, 2, 0, 0, 0, 6), (15, .newarray .int, 2, 0, 0, 0, 10124), (17, .putfield 15, 3, 4, 1, 2, 20091), (20, .aload_n 0, 1, 0, 0, 0, 0), (21, .bipush 6, 2, 0, 0, 0, 6), (23, .newarray .int, 2, 0, 0, 0, 10124), (25, .putfield 18, 3, 4, 2, 2, 20094), (28, .aload_n 0, 1, 0, 0, 0, 0), (29, .bipush 20, 2, 0, 0, 0, 20), (31, .newarray .int, 2, 0, 0, 0, 10124), (33, .putfield 21, 3, 4, 3, 2, 20097), (36, .aload_n 0, 1, 0, 0, 0, 0), (37, .bipush 6, 2, 0, 0, 0, 6), (39, .newarray .int, 2, 0, 0, 0, 10124), (41, .putfield 24, 3, 4, 4, 2, 20100), (44, .aload_n 0, 1, 0, 0, 0, 0), (45, .bipush 6, 2, 0, 0, 0, 6), (47, .newarray .int, 2, 0, 0, 0, 10124), (49, .putfield 27, 3, 4, 5, 2, 20103), (52, .aload_n 0, 1, 0, 0, 0, 0), (53, .bipush 6, 2, 0, 0, 0, 6), (55, .newarray .int, 2, 0, 0, 0, 10124), (57, .putfield 30, 3, 4, 6, 2, 20106), (60, .aload_n 0, 1, 0, 0, 0, 0), (61, .bipush 6, 2, 0, 0, 0, 6), (63, .newarray .int, 2, 0, 0, 0, 10124), (65, .putfield 33, 3, 4, 7, 2, 20109), (68, .aload_n 0, 1, 0, 0, 0, 0), (69, .iconst 0, 1, 0, 0, 0, 0), (70, .putfield 36, 3, 4, 8, 0, 20112), (73, .aload_n 0, 1, 0, 0, 0, 0), (74, .iconst 0, 1, 0, 0, 0, 0), (75, .putfield 40, 3, 4, 9, 0, 20113), (78, .aload_n 0, 1, 0, 0, 0, 0), (79, .iconst 0, 1, 0, 0, 0, 0), (80, .putfield 43, 3, 4, 10, 0, 20114), (83, .aload_n 0, 1, 0, 0, 0, 0), (84, .iconst 0, 1, 0, 0, 0, 0), (85, .putfield 46, 3, 4, 11, 0, 20118), (88, .aload_n 0, 1, 0, 0, 0, 0), (89, .iconst (-1), 1, 0, 0, 0, (-1)), (90, .putfield 49, 3, 4, 12, 0, 20121), (93, .aload_n 0, 1, 0, 0, 0, 0), (94, .iconst 0, 1, 0, 0, 0, 0), (95, .putfield 52, 3, 4, 13, 0, 20124), (98, .aload_n 0, 1, 0, 0, 0, 0), (99, .iconst 0, 1, 0, 0, 0, 0), (100, .putfield 55, 3, 4, 14, 0, 20127), (103, .aload_n 0, 1, 0, 0, 0, 0), (104, .iconst 0, 1, 0, 0, 0, 0), (105, .putfield 58, 3, 4, 15, 0, 20129), (108, .return_, 1, 0, 0, 0, 0)]
/-- 6: SpeakClock$Way.<init>()V -/
def cd_Way_init : List mE := [(0, .aload_n 0, 1, 0, 0, 0, 0), (1, .invokespecial 3, 3, 1008, 1, 0, 20169), (4, .aload_n 0, 1, 0, 0, 0, 0), (5, .bipush 6, 2, 0, 0, 0, 6), (7, .newarray .int, 2, 0, 0, 0, 10124), (9, .putfield 9, 3, 12, 0, 2, 20172), (12, .aload_n 0, 1, 0, 0, 0, 0), (13, .bipush 6, 2, 0, 0, 0, 6), (15, .newarray .int, 2, 0, 0, 0, 10124), (17, .putfield 15, 3, 12, 1, 2, 20173), (20, .aload_n 0, 1, 0, 0, 0, 0), (21, .bipush 7, 2, 0, 0, 0, 7), (23, .newarray .long, 2, 1, 0, 0, 10181), (25, .putfield 18, 3, 12, 2, 2, 20175), (28, .aload_n 0, 1, 0, 0, 0, 0), (29, .new 22, 3, 9, 19, 0, 20170), (32, .dup, 1, 0, 0, 0, 0), (33, .invokespecial 24, 3, 3, 1, 1009, 20171), (36, .putfield 25, 3, 12, 3, 2, 20176), (39, .aload_n 0, 1, 0, 0, 0, 0), (40, .iconst 0, 1, 0, 0, 0, 0), (41, .putfield 29, 3, 12, 4, 0, 20178), (44, .aload_n 0, 1, 0, 0, 0, 0), (45, .iconst 0, 1, 0, 0, 0, 0), (46, .putfield 33, 3, 12, 5, 0, 20179), (49, .aload_n 0, 1, 0, 0, 0, 0), (50, .iconst (-1), 1, 0, 0, 0, (-1)), (51, .putfield 36, 3, 12, 6, 0, 20180), (54, .aload_n 0, 1, 0, 0, 0, 0), (55, .iconst 1, 1, 0, 0, 0, 1), (56, .putfield 39, 3, 12, 7, 3, 20181), (59, .aload_n 0, 1, 0, 0, 0, 0), (60, .iconst 0, 1, 0, 0, 0, 0), (61, .putfield 43, 3, 12, 8, 3, 20182), (64, .return_, 1, 0, 0, 0, 0)]
/-- 7: SpeakClock$Seen.<init>()V -/
def cd_Seen_init : List mE := [(0, .aload_n 0, 1, 0, 0, 0, 0), (1, .invokespecial 3, 3, 1008, 1, 0, 20207), (4, .aload_n 0, 1, 0, 0, 0, 0), (5, .bipush 24, 2, 0, 0, 0, 24), (7, .newarray .int, 2, 0, 0, 0, 10124), (9, .putfield 9, 3, 10, 0, 2, 20208), (12, .aload_n 0, 1, 0, 0, 0, 0), (13, .bipush 24, 2, 0, 0, 0, 24), (15, .newarray .int, 2, 0, 0, 0, 10124), (17, .putfield 15, 3, 10, 1, 2, 20209), (20, .aload_n 0, 1, 0, 0, 0, 0), (21, .bipush 24, 2, 0, 0, 0, 24), (23, .newarray .int, 2, 0, 0, 0, 10124), (25, .putfield 18, 3, 10, 2, 2, 20210), (28, .aload_n 0, 1, 0, 0, 0, 0), (29, .bipush 24, 2, 0, 0, 0, 24), (31, .newarray .int, 2, 0, 0, 0, 10124), (33, .putfield 21, 3, 10, 3, 2, 20211), (36, .aload_n 0, 1, 0, 0, 0, 0), (37, .bipush 24, 2, 0, 0, 0, 24), (39, .newarray .boolean, 2, 3, 0, 0, 20235), (41, .putfield 24, 3, 10, 4, 2, 20212), (44, .aload_n 0, 1, 0, 0, 0, 0), (45, .bipush 24, 2, 0, 0, 0, 24), (47, .newarray .boolean, 2, 3, 0, 0, 20235), (49, .putfield 28, 3, 10, 5, 2, 20213), (52, .aload_n 0, 1, 0, 0, 0, 0), (53, .iconst 0, 1, 0, 0, 0, 0), (54, .putfield 31, 3, 10, 6, 0, 20214), (57, .aload_n 0, 1, 0, 0, 0, 0), (58, .iconst (-1), 1, 0, 0, 0, (-1)), (59, .putfield 35, 3, 10, 7, 0, 20216), (62, .return_, 1, 0, 0, 0, 0)]
/-- 8: SpeakClock$Log.<init>()V -/
def cd_Log_init : List mE := [(0, .aload_n 0, 1, 0, 0, 0, 0), (1, .invokespecial 3, 3, 1008, 1, 0, 30001), (4, .aload_n 0, 1, 0, 0, 0, 0), (5, .bipush 20, 2, 0, 0, 0, 20), (7, .newarray .int, 2, 0, 0, 0, 10124), (9, .putfield 9, 3, 8, 0, 2, 30002), (12, .aload_n 0, 1, 0, 0, 0, 0), (13, .bipush 20, 2, 0, 0, 0, 20), (15, .newarray .int, 2, 0, 0, 0, 10124), (17, .putfield 15, 3, 8, 1, 2, 30004), (20, .aload_n 0, 1, 0, 0, 0, 0), (21, .bipush 20, 2, 0, 0, 0, 20), (23, .newarray .int, 2, 0, 0, 0, 10124), (25, .putfield 18, 3, 8, 2, 2, 30006), (28, .aload_n 0, 1, 0, 0, 0, 0), (29, .iconst 0, 1, 0, 0, 0, 0), (30, .putfield 21, 3, 8, 3, 0, 30008), (33, .return_, 1, 0, 0, 0, 0)]
/-- 9: SpeakClock.<init>()V -/
def cd_C_init : List mE := [(0, .aload_n 0, 1, 0, 0, 0, 0), (1, .invokespecial 3, 3, 1008, 1, 0, 10029), (4, .aload_n 0, 1, 0, 0, 0, 0), (5, .new 9, 3, 7, 9, 0, 10032), (8, .dup, 1, 0, 0, 0, 0), (9, .invokespecial 11, 3, 4, 1, 1007, 10034), (12, .putfield 12, 3, 13, 0, 2, 30019), (15, .aload_n 0, 1, 0, 0, 0, 0), (16, .aload_n 0, 1, 0, 0, 0, 0), (17, .getfield 12, 3, 13, 0, 2, 30019), (20, .getfield 18, 3, 7, 1, 2, 20049), (23, .getfield 22, 3, 11, 0, 2, 10092), (26, .putfield 28, 3, 13, 1, 2, 30020), (29, .aload_n 0, 1, 0, 0, 0, 0), (30, .new 29, 3, 4, 16, 0, 20081), (33, .dup, 1, 0, 0, 0, 0), (34, .invokespecial 31, 3, 5, 1, 1004, 20083), (37, .putfield 32, 3, 13, 2, 2, 30021), (40, .aload_n 0, 1, 0, 0, 0, 0), (41, .new 29, 3, 4, 16, 0, 20081), (44, .dup, 1, 0, 0, 0, 0), (45, .invokespecial 31, 3, 5, 1, 1004, 20083), (48, .putfield 36, 3, 13, 3, 2, 30022), (51, .aload_n 0, 1, 0, 0, 0, 0), (52, .new 29, 3, 4, 16, 0, 20081), (55, .dup, 1, 0, 0, 0, 0), (56, .invokespecial 31, 3, 5, 1, 1004, 20083), (59, .putfield 39, 3, 13, 4, 2, 30023), (62, .aload_n 0, 1, 0, 0, 0, 0), (63, .new 29, 3, 4, 16, 0, 20081), (66, .dup, 1, 0, 0, 0, 0), (67, .invokespecial 31, 3, 5, 1, 1004, 20083), (70, .putfield 42, 3, 13, 5, 2, 30024), (73, .aload_n 0, 1, 0, 0, 0, 0), (74, .new 45, 3, 12, 9, 0, 20164), (77, .dup, 1, 0, 0, 0, 0), (78, .invokespecial 47, 3, 6, 1, 1012, 20166), (81, .putfield 48, 3, 13, 6, 2, 30025), (84, .aload_n 0, 1, 0, 0, 0, 0), (85, .new 52, 3, 10, 8, 0, 20202), (88, .dup, 1, 0, 0, 0, 0), (89, .invokespecial 54, 3, 7, 1, 1010, 20204), (92, .putfield 55, 3, 13, 7, 2, 30026), (95, .aload_n 0, 1, 0, 0, 0, 0), (96, .new 59, 3, 8, 4, 0, 20236), (99, .dup, 1, 0, 0, 0, 0), (100, .invokespecial 61, 3, 8, 1, 1008, 20238), (103, .putfield 62, 3, 13, 8, 2, 30027), (106, .aload_n 0, 1, 0, 0, 0, 0), (107, .aload_n 0, 1, 0, 0, 0, 0), (108, .getfield 48, 3, 13, 6, 2, 30025), (111, .getfield 66, 3, 12, 3, 2, 20177), (114, .putfield 70, 3, 13, 9, 2, 30028), (117, .aload_n 0, 1, 0, 0, 0, 0), (118, .iconst 0, 1, 0, 0, 0, 0), (119, .putfield 71, 3, 13, 10, 0, 30029), (122, .aload_n 0, 1, 0, 0, 0, 0), (123, .iconst 0, 1, 0, 0, 0, 0), (124, .putfield 75, 3, 13, 11, 0, 30030), (127, .aload_n 0, 1, 0, 0, 0, 0), (128, .iconst (-1), 1, 0, 0, 0, (-1)), (129, .putfield 78, 3, 13, 12, 0, 30031), (132, .aload_n 0, 1, 0, 0, 0, 0), (133, .iconst 0, 1, 0, 0, 0, 0), (134, .putfield 81, 3, 13, 13, 3, 30032), (137, .return_, 1, 0, 0, 0, 0)]
/-- 10: SpeakClockModel.plain()V -/
def cd_M_plain : List mE := [(0, .aload_n 0, 1, 0, 0, 0, 0), (1, .iconst 0, 1, 0, 0, 0, 0), (2, .putfield 219, 3, 14, 17, 0, 60033), (5, .aload_n 0, 1, 0, 0, 0, 0), (6, .iconst 0, 1, 0, 0, 0, 0), (7, .putfield 222, 3, 14, 18, 0, 60034), (10, .aload_n 0, 1, 0, 0, 0, 0), (11, .iconst 0, 1, 0, 0, 0, 0), (12, .putfield 225, 3, 14, 19, 0, 60035), (15, .aload_n 0, 1, 0, 0, 0, 0), (16, .iconst 0, 1, 0, 0, 0, 0), (17, .putfield 228, 3, 14, 20, 0, 60036), (20, .aload_n 0, 1, 0, 0, 0, 0), (21, .iconst 0, 1, 0, 0, 0, 0), (22, .putfield 231, 3, 14, 21, 0, 60037), (25, .aload_n 0, 1, 0, 0, 0, 0), (26, .iconst 0, 1, 0, 0, 0, 0), (27, .putfield 234, 3, 14, 47, 0, 60063), (30, .iconst 0, 1, 0, 0, 0, 0), (31, .istore_n 1, 1, 0, 0, 0, 0), (32, .nop, 0, 3, 0, 0, 0), (32, .iload_n 1, 1, 0, 0, 0, 0), (33, .iconst 2, 1, 0, 0, 0, 2), (34, .if_icmp .ge 25, 3, 59, 0, 0, 0), (37, .aload_n 0, 1, 0, 0, 0, 0), (38, .getfield 20, 3, 14, 22, 2, 60038), (41, .iload_n 1, 1, 0, 0, 0, 0), (42, .iconst 0, 1, 0, 0, 0, 0), (43, .bastore, 1, 0, 0, 0, 0), (44, .aload_n 0, 1, 0, 0, 0, 0), (45, .getfield 24, 3, 14, 23, 2, 60039), (48, .iconst 2, 1, 0, 0, 0, 2), (49, .iload_n 1, 1, 0, 0, 0, 0), (50, .iadd, 1, 0, 0, 0, 0), (51, .iconst 0, 1, 0, 0, 0, 0), (52, .iastore, 1, 0, 0, 0, 0), (53, .iinc 1 1, 3, 0, 0, 0, 0), (56, .goto (-24), 3, 32, 0, 0, 0), (59, .iconst 3, 1, 0, 0, 0, 3), (60, .istore_n 1, 1, 0, 0, 0, 0), (61, .nop, 0, 3, 0, 0, 0), (61, .iload_n 1, 1, 0, 0, 0, 0), (62, .bipush 6, 2, 0, 0, 0, 6), (64, .if_icmp .ge 16, 3, 80, 0, 0, 0), (67, .aload_n 0, 1, 0, 0, 0, 0), (68, .getfield 63, 3, 14, 36, 2, 60052), (71, .iload_n 1, 1, 0, 0, 0, 0), (72, .iconst 0, 1, 0, 0, 0, 0), (73, .bastore, 1, 0, 0, 0, 0), (74, .iinc 1 1, 3, 0, 0, 0, 0), (77, .goto (-16), 3, 61, 0, 0, 0), (80, .return_, 1, 0, 0, 0, 0)]
/-- 11: SpeakClockModel.copies([II)V -/
def cd_M_copies : List mE := [(0, .iconst 0, 1, 0, 0, 0, 0), (1, .istore_n 2, 1, 0, 0, 0, 0), (2, .nop, 0, 7, 0, 0, 0), (2, .iload_n 2, 1, 0, 0, 0, 0), (3, .iload_n 1, 1, 0, 0, 0, 0), (4, .if_icmp .ge 17, 3, 21, 0, 0, 0), (7, .aload_n 0, 1, 0, 0, 0, 0), (8, .iload_n 2, 1, 0, 0, 0, 0), (9, .aload_n 0, 1, 0, 0, 0, 0), (10, .iload_n 1, 1, 0, 0, 0, 0), (11, .iload_n 2, 1, 0, 0, 0, 0), (12, .iadd, 1, 0, 0, 0, 0), (13, .iaload, 1, 0, 0, 0, 0), (14, .iastore, 1, 0, 0, 0, 0), (15, .iinc 2 1, 3, 0, 0, 0, 0), (18, .goto (-16), 3, 2, 0, 0, 0), (21, .return_, 1, 0, 0, 0, 0)]
/-- 12: SpeakClockModel.atFirst(I)V -/
def cd_M_atFirst : List mE := [(0, .iconst 0, 1, 0, 0, 0, 0), (1, .istore_n 2, 1, 0, 0, 0, 0), (2, .nop, 0, 7, 0, 0, 0), (2, .iload_n 2, 1, 0, 0, 0, 0), (3, .bipush 6, 2, 0, 0, 0, 6), (5, .if_icmp .ge 121, 3, 126, 0, 0, 0), (8, .aload_n 0, 1, 0, 0, 0, 0), (9, .getfield 94, 3, 14, 53, 2, 60069), (12, .bipush 6, 2, 0, 0, 0, 6), (14, .iload_n 1, 1, 0, 0, 0, 0), (15, .imul, 1, 0, 0, 0, 0), (16, .iload_n 2, 1, 0, 0, 0, 0), (17, .iadd, 1, 0, 0, 0, 0), (18, .iconst 0, 1, 0, 0, 0, 0), (19, .iastore, 1, 0, 0, 0, 0), (20, .aload_n 0, 1, 0, 0, 0, 0), (21, .getfield 97, 3, 14, 54, 2, 60070), (24, .bipush 6, 2, 0, 0, 0, 6), (26, .iload_n 1, 1, 0, 0, 0, 0), (27, .imul, 1, 0, 0, 0, 0), (28, .iload_n 2, 1, 0, 0, 0, 0), (29, .iadd, 1, 0, 0, 0, 0), (30, .iconst 0, 1, 0, 0, 0, 0), (31, .iastore, 1, 0, 0, 0, 0), (32, .aload_n 0, 1, 0, 0, 0, 0), (33, .getfield 100, 3, 14, 55, 2, 60071), (36, .bipush 6, 2, 0, 0, 0, 6), (38, .iload_n 1, 1, 0, 0, 0, 0), (39, .imul, 1, 0, 0, 0, 0), (40, .iload_n 2, 1, 0, 0, 0, 0), (41, .iadd, 1, 0, 0, 0, 0), (42, .aload_n 0, 1, 0, 0, 0, 0), (43, .getfield 36, 3, 14, 27, 2, 60043), (46, .iload_n 2, 1, 0, 0, 0, 0), (47, .iaload, 1, 0, 0, 0, 0), (48, .iastore, 1, 0, 0, 0, 0), (49, .aload_n 0, 1, 0, 0, 0, 0), (50, .getfield 103, 3, 14, 56, 2, 60072), (53, .bipush 6, 2, 0, 0, 0, 6), (55, .iload_n 1, 1, 0, 0, 0, 0), (56, .imul, 1, 0, 0, 0, 0), (57, .iload_n 2, 1, 0, 0, 0, 0), (58, .iadd, 1, 0, 0, 0, 0), (59, .iconst 0, 1, 0, 0, 0, 0), (60, .iastore, 1, 0, 0, 0, 0), (61, .aload_n 0, 1, 0, 0, 0, 0), (62, .getfield 118, 3, 14, 61, 2, 60077), (65, .bipush 6, 2, 0, 0, 0, 6), (67, .iload_n 1, 1, 0, 0, 0, 0), (68, .imul, 1, 0, 0, 0, 0), (69, .iload_n 2, 1, 0, 0, 0, 0), (70, .iadd, 1, 0, 0, 0, 0), (71, .aload_n 0, 1, 0, 0, 0, 0), (72, .getfield 54, 3, 14, 33, 2, 60049), (75, .iload_n 2, 1, 0, 0, 0, 0), (76, .iaload, 1, 0, 0, 0, 0), (77, .iastore, 1, 0, 0, 0, 0), (78, .aload_n 0, 1, 0, 0, 0, 0), (79, .getfield 124, 3, 14, 63, 2, 60079), (82, .bipush 6, 2, 0, 0, 0, 6), (84, .iload_n 1, 1, 0, 0, 0, 0), (85, .imul, 1, 0, 0, 0, 0), (86, .iload_n 2, 1, 0, 0, 0, 0), (87, .iadd, 1, 0, 0, 0, 0), (88, .iconst 0, 1, 0, 0, 0, 0), (89, .iastore, 1, 0, 0, 0, 0), (90, .aload_n 0, 1, 0, 0, 0, 0), (91, .getfield 121, 3, 14, 62, 2, 60078), (94, .bipush 12, 2, 0, 0, 0, 12), (96, .iload_n 1, 1, 0, 0, 0, 0), (97, .imul, 1, 0, 0, 0, 0), (98, .iconst 2, 1, 0, 0, 0, 2), (99, .iload_n 2, 1, 0, 0, 0, 0), (100, .imul, 1, 0, 0, 0, 0), (101, .iadd, 1, 0, 0, 0, 0), (102, .iconst (-1), 1, 0, 0, 0, (-1)), (103, .iastore, 1, 0, 0, 0, 0), (104, .aload_n 0, 1, 0, 0, 0, 0), (105, .getfield 121, 3, 14, 62, 2, 60078), (108, .bipush 12, 2, 0, 0, 0, 12), (110, .iload_n 1, 1, 0, 0, 0, 0), (111, .imul, 1, 0, 0, 0, 0), (112, .iconst 2, 1, 0, 0, 0, 2), (113, .iload_n 2, 1, 0, 0, 0, 0), (114, .imul, 1, 0, 0, 0, 0), (115, .iadd, 1, 0, 0, 0, 0), (116, .iconst 1, 1, 0, 0, 0, 1), (117, .iadd, 1, 0, 0, 0, 0), (118, .iconst (-1), 1, 0, 0, 0, (-1)), (119, .iastore, 1, 0, 0, 0, 0), (120, .iinc 2 1, 3, 0, 0, 0, 0), (123, .goto (-121), 3, 2, 0, 0, 0), (126, .aload_n 0, 1, 0, 0, 0, 0), (127, .getfield 109, 3, 14, 58, 2, 60074), (130, .iload_n 1, 1, 0, 0, 0, 0), (131, .iconst 0, 1, 0, 0, 0, 0), (132, .iastore, 1, 0, 0, 0, 0), (133, .aload_n 0, 1, 0, 0, 0, 0), (134, .getfield 112, 3, 14, 59, 2, 60075), (137, .iload_n 1, 1, 0, 0, 0, 0), (138, .iconst (-1), 1, 0, 0, 0, (-1)), (139, .iastore, 1, 0, 0, 0, 0), (140, .aload_n 0, 1, 0, 0, 0, 0), (141, .getfield 115, 3, 14, 60, 2, 60076), (144, .iload_n 1, 1, 0, 0, 0, 0), (145, .iconst 0, 1, 0, 0, 0, 0), (146, .iastore, 1, 0, 0, 0, 0), (147, .aload_n 0, 1, 0, 0, 0, 0), (148, .getfield 127, 3, 14, 64, 2, 60080), (151, .iload_n 1, 1, 0, 0, 0, 0), (152, .iconst 0, 1, 0, 0, 0, 0), (153, .iastore, 1, 0, 0, 0, 0), (154, .aload_n 0, 1, 0, 0, 0, 0), (155, .getfield 130, 3, 14, 65, 2, 60081), (158, .iload_n 1, 1, 0, 0, 0, 0), (159, .iconst 0, 1, 0, 0, 0, 0), (160, .iastore, 1, 0, 0, 0, 0), (161, .return_, 1, 0, 0, 0, 0)]
/-- 13: SpeakClockModel.plainTried()V -/
def cd_M_plainTried : List mE := [(0, .aload_n 0, 1, 0, 0, 0, 0), (1, .iconst 0, 1, 0, 0, 0, 0), (2, .putfield 378, 3, 14, 67, 3, 60083), (5, .aload_n 0, 1, 0, 0, 0, 0), (6, .iconst 0, 1, 0, 0, 0, 0), (7, .putfield 381, 3, 14, 68, 3, 60084), (10, .aload_n 0, 1, 0, 0, 0, 0), (11, .iconst 0, 1, 0, 0, 0, 0), (12, .putfield 384, 3, 14, 69, 3, 60085), (15, .aload_n 0, 1, 0, 0, 0, 0), (16, .iconst 0, 1, 0, 0, 0, 0), (17, .putfield 387, 3, 14, 70, 3, 60086), (20, .aload_n 0, 1, 0, 0, 0, 0), (21, .iconst 0, 1, 0, 0, 0, 0), (22, .putfield 390, 3, 14, 71, 3, 60087), (25, .aload_n 0, 1, 0, 0, 0, 0), (26, .iconst (-1), 1, 0, 0, 0, (-1)), (27, .putfield 393, 3, 14, 72, 0, 60088), (30, .aload_n 0, 1, 0, 0, 0, 0), (31, .iconst (-1), 1, 0, 0, 0, (-1)), (32, .putfield 396, 3, 14, 73, 0, 60089), (35, .aload_n 0, 1, 0, 0, 0, 0), (36, .iconst 0, 1, 0, 0, 0, 0), (37, .putfield 399, 3, 14, 74, 0, 60090), (40, .return_, 1, 0, 0, 0, 0)]
/-- 14: SpeakClockModel.begin()V -/
def cd_M_begin : List mE := [(0, .aload_n 0, 1, 0, 0, 0, 0), (1, .iconst 0, 1, 0, 0, 0, 0), (2, .invokevirtual 359, 3, 12, 2, 14, 60008), (5, .aload_n 0, 1, 0, 0, 0, 0), (6, .aload_n 0, 1, 0, 0, 0, 0), (7, .getfield 24, 3, 14, 23, 2, 60039), (10, .iconst 1, 1, 0, 0, 0, 1), (11, .iaload, 1, 0, 0, 0, 0), (12, .i2l, 1, 0, 0, 0, 0), (13, .putfield 362, 3, 14, 66, 1, 60082), (16, .aload_n 0, 1, 0, 0, 0, 0), (17, .invokevirtual 366, 3, 13, 1, 14, 60012), (20, .aload_n 0, 1, 0, 0, 0, 0), (21, .iconst 0, 1, 0, 0, 0, 0), (22, .putfield 369, 3, 14, 75, 0, 60091), (25, .aload_n 0, 1, 0, 0, 0, 0), (26, .iconst (-1), 1, 0, 0, 0, (-1)), (27, .putfield 133, 3, 14, 76, 0, 60092), (30, .aload_n 0, 1, 0, 0, 0, 0), (31, .iconst 0, 1, 0, 0, 0, 0), (32, .putfield 372, 3, 14, 79, 0, 60095), (35, .aload_n 0, 1, 0, 0, 0, 0), (36, .iconst 0, 1, 0, 0, 0, 0), (37, .putfield 375, 3, 14, 81, 3, 60097), (40, .return_, 1, 0, 0, 0, 0)]
/-- 15: SpeakClockModel.keepText()V -/
def cd_M_keepText : List mE := [(0, .aload_n 0, 1, 0, 0, 0, 0), (1, .aload_n 0, 1, 0, 0, 0, 0), (2, .getfield 219, 3, 14, 17, 0, 60033), (5, .putfield 237, 3, 14, 12, 0, 60028), (8, .aload_n 0, 1, 0, 0, 0, 0), (9, .aload_n 0, 1, 0, 0, 0, 0), (10, .getfield 222, 3, 14, 18, 0, 60034), (13, .putfield 240, 3, 14, 13, 0, 60029), (16, .aload_n 0, 1, 0, 0, 0, 0), (17, .aload_n 0, 1, 0, 0, 0, 0), (18, .getfield 225, 3, 14, 19, 0, 60035), (21, .putfield 243, 3, 14, 14, 0, 60030), (24, .aload_n 0, 1, 0, 0, 0, 0), (25, .aload_n 0, 1, 0, 0, 0, 0), (26, .getfield 228, 3, 14, 20, 0, 60036), (29, .putfield 246, 3, 14, 15, 0, 60031), (32, .aload_n 0, 1, 0, 0, 0, 0), (33, .aload_n 0, 1, 0, 0, 0, 0), (34, .getfield 231, 3, 14, 21, 0, 60037), (37, .putfield 249, 3, 14, 16, 0, 60032), (40, .aload_n 0, 1, 0, 0, 0, 0), (41, .getfield 24, 3, 14, 23, 2, 60039), (44, .iconst 2, 1, 0, 0, 0, 2), (45, .invokestatic 252, 3, 11, 2, 14, 60001), (48, .aload_n 0, 1, 0, 0, 0, 0), (49, .getfield 27, 3, 14, 24, 2, 60040), (52, .bipush 6, 2, 0, 0, 0, 6), (54, .invokestatic 252, 3, 11, 2, 14, 60001), (57, .aload_n 0, 1, 0, 0, 0, 0), (58, .getfield 30, 3, 14, 25, 2, 60041), (61, .bipush 6, 2, 0, 0, 0, 6), (63, .invokestatic 252, 3, 11, 2, 14, 60001), (66, .aload_n 0, 1, 0, 0, 0, 0), (67, .getfield 33, 3, 14, 26, 2, 60042), (70, .bipush 6, 2, 0, 0, 0, 6), (72, .invokestatic 252, 3, 11, 2, 14, 60001), (75, .aload_n 0, 1, 0, 0, 0, 0), (76, .getfield 36, 3, 14, 27, 2, 60043), (79, .bipush 6, 2, 0, 0, 0, 6), (81, .invokestatic 252, 3, 11, 2, 14, 60001), (84, .aload_n 0, 1, 0, 0, 0, 0), (85, .getfield 39, 3, 14, 28, 2, 60044), (88, .bipush 6, 2, 0, 0, 0, 6), (90, .invokestatic 252, 3, 11, 2, 14, 60001), (93, .aload_n 0, 1, 0, 0, 0, 0), (94, .getfield 42, 3, 14, 29, 2, 60045), (97, .bipush 10, 2, 0, 0, 0, 10), (99, .invokestatic 252, 3, 11, 2, 14, 60001), (102, .aload_n 0, 1, 0, 0, 0, 0), (103, .getfield 45, 3, 14, 30, 2, 60046), (106, .bipush 10, 2, 0, 0, 0, 10), (108, .invokestatic 252, 3, 11, 2, 14, 60001), (111, .aload_n 0, 1, 0, 0, 0, 0), (112, .getfield 48, 3, 14, 31, 2, 60047), (115, .bipush 6, 2, 0, 0, 0, 6), (117, .invokestatic 252, 3, 11, 2, 14, 60001), (120, .aload_n 0, 1, 0, 0, 0, 0), (121, .getfield 51, 3, 14, 32, 2, 60048), (124, .bipush 6, 2, 0, 0, 0, 6), (126, .invokestatic 252, 3, 11, 2, 14, 60001), (129, .aload_n 0, 1, 0, 0, 0, 0), (130, .getfield 54, 3, 14, 33, 2, 60049), (133, .bipush 6, 2, 0, 0, 0, 6), (135, .invokestatic 252, 3, 11, 2, 14, 60001), (138, .aload_n 0, 1, 0, 0, 0, 0), (139, .getfield 57, 3, 14, 34, 2, 60050), (142, .iconst 3, 1, 0, 0, 0, 3), (143, .invokestatic 252, 3, 11, 2, 14, 60001), (146, .aload_n 0, 1, 0, 0, 0, 0), (147, .getfield 60, 3, 14, 35, 2, 60051), (150, .iconst 3, 1, 0, 0, 0, 3), (151, .invokestatic 252, 3, 11, 2, 14, 60001), (154, .iconst 0, 1, 0, 0, 0, 0), (155, .istore_n 1, 1, 0, 0, 0, 0), (156, .nop, 0, 3, 0, 0, 0), (156, .iload_n 1, 1, 0, 0, 0, 0), (157, .iconst 3, 1, 0, 0, 0, 3), (158, .if_icmp .ge 23, 3, 181, 0, 0, 0), (161, .aload_n 0, 1, 0, 0, 0, 0), (162, .getfield 63, 3, 14, 36, 2, 60052), (165, .iload_n 1, 1, 0, 0, 0, 0), (166, .aload_n 0, 1, 0, 0, 0, 0), (167, .getfield 63, 3, 14, 36, 2, 60052), (170, .iconst 3, 1, 0, 0, 0, 3), (171, .iload_n 1, 1, 0, 0, 0, 0), (172, .iadd, 1, 0, 0, 0, 0), (173, .baload, 1, 0, 0, 0, 0), (174, .bastore, 1, 0, 0, 0, 0), (175, .iinc 1 1, 3, 0, 0, 0, 0), (178, .goto (-22), 3, 156, 0, 0, 0), (181, .aload_n 0, 1, 0, 0, 0, 0), (182, .getfield 66, 3, 14, 37, 2, 60053), (185, .iconst 3, 1, 0, 0, 0, 3), (186, .invokestatic 252, 3, 11, 2, 14, 60001), (189, .aload_n 0, 1, 0, 0, 0, 0), (190, .getfield 69, 3, 14, 38, 2, 60054), (193, .iconst 3, 1, 0, 0, 0, 3), (194, .invokestatic 252, 3, 11, 2, 14, 60001), (197, .aload_n 0, 1, 0, 0, 0, 0), (198, .getfield 72, 3, 14, 39, 2, 60055), (201, .bipush 64, 2, 0, 0, 0, 64), (203, .invokestatic 252, 3, 11, 2, 14, 60001), (206, .aload_n 0, 1, 0, 0, 0, 0), (207, .getfield 75, 3, 14, 40, 2, 60056), (210, .bipush 64, 2, 0, 0, 0, 64), (212, .invokestatic 252, 3, 11, 2, 14, 60001), (215, .aload_n 0, 1, 0, 0, 0, 0), (216, .getfield 78, 3, 14, 41, 2, 60057), (219, .bipush 64, 2, 0, 0, 0, 64), (221, .invokestatic 252, 3, 11, 2, 14, 60001), (224, .aload_n 0, 1, 0, 0, 0, 0), (225, .invokevirtual 256, 3, 14, 1, 14, 60004), (228, .return_, 1, 0, 0, 0, 0)]
/-- 16: SpeakClockModel.<init>()V -/
def cd_M_init : List mE := [(0, .aload_n 0, 1, 0, 0, 0, 0), (1, .invokespecial 1, 3, 1008, 1, 0, 50232), (4, .aload_n 0, 1, 0, 0, 0, 0), (5, .sipush 700, 3, 0, 0, 0, 700), (8, .newarray .int, 2, 0, 0, 0, 10124), (10, .putfield 7, 3, 14, 0, 2, 60016), (13, .aload_n 0, 1, 0, 0, 0, 0), (14, .bipush 100, 2, 0, 0, 0, 100), (16, .newarray .int, 2, 0, 0, 0, 10124), (18, .dup, 1, 0, 0, 0, 0), (19, .iconst 0, 1, 0, 0, 0, 0), (20, .bipush 109, 2, 0, 0, 0, 109), (22, .iastore, 1, 0, 0, 0, 0), (23, .dup, 1, 0, 0, 0, 0), (24, .iconst 1, 1, 0, 0, 0, 1), (25, .bipush 97, 2, 0, 0, 0, 97), (27, .iastore, 1, 0, 0, 0, 0), (28, .dup, 1, 0, 0, 0, 0), (29, .iconst 2, 1, 0, 0, 0, 2), (30, .bipush 110, 2, 0, 0, 0, 110), (32, .iastore, 1, 0, 0, 0, 0), (33, .dup, 1, 0, 0, 0, 0), (34, .iconst 3, 1, 0, 0, 0, 3), (35, .bipush 32, 2, 0, 0, 0, 32), (37, .iastore, 1, 0, 0, 0, 0), (38, .dup, 1, 0, 0, 0, 0), (39, .iconst 4, 1, 0, 0, 0, 4), (40, .bipush 114, 2, 0, 0, 0, 114), (42, .iastore, 1, 0, 0, 0, 0), (43, .dup, 1, 0, 0, 0, 0), (44, .iconst 5, 1, 0, 0, 0, 5), (45, .bipush 105, 2, 0, 0, 0, 105), (47, .iastore, 1, 0, 0, 0, 0), (48, .dup, 1, 0, 0, 0, 0), (49, .bipush 6, 2, 0, 0, 0, 6), (51, .bipush 110, 2, 0, 0, 0, 110), (53, .iastore, 1, 0, 0, 0, 0), (54, .dup, 1, 0, 0, 0, 0), (55, .bipush 7, 2, 0, 0, 0, 7), (57, .bipush 103, 2, 0, 0, 0, 103), (59, .iastore, 1, 0, 0, 0, 0), (60, .dup, 1, 0, 0, 0, 0), (61, .bipush 8, 2, 0, 0, 0, 8), (63, .bipush 32, 2, 0, 0, 0, 32), (65, .iastore, 1, 0, 0, 0, 0), (66, .dup, 1, 0, 0, 0, 0), (67, .bipush 9, 2, 0, 0, 0, 9), (69, .bipush 109, 2, 0, 0, 0, 109), (71, .iastore, 1, 0, 0, 0, 0), (72, .dup, 1, 0, 0, 0, 0), (73, .bipush 10, 2, 0, 0, 0, 10), (75, .bipush 101, 2, 0, 0, 0, 101), (77, .iastore, 1, 0, 0, 0, 0), (78, .dup, 1, 0, 0, 0, 0), (79, .bipush 11, 2, 0, 0, 0, 11), (81, .bipush 101, 2, 0, 0, 0, 101), (83, .iastore, 1, 0, 0, 0, 0), (84, .dup, 1, 0, 0, 0, 0), (85, .bipush 12, 2, 0, 0, 0, 12), (87, .bipush 116, 2, 0, 0, 0, 116), (89, .iastore, 1, 0, 0, 0, 0), (90, .dup, 1, 0, 0, 0, 0), (91, .bipush 13, 2, 0, 0, 0, 13), (93, .bipush 32, 2, 0, 0, 0, 32), (95, .iastore, 1, 0, 0, 0, 0), (96, .dup, 1, 0, 0, 0, 0), (97, .bipush 14, 2, 0, 0, 0, 14), (99, .bipush 99, 2, 0, 0, 0, 99), (101, .iastore, 1, 0, 0, 0, 0), (102, .dup, 1, 0, 0, 0, 0), (103, .bipush 15, 2, 0, 0, 0, 15), (105, .bipush 111, 2, 0, 0, 0, 111), (107, .iastore, 1, 0, 0, 0, 0), (108, .dup, 1, 0, 0, 0, 0), (109, .bipush 16, 2, 0, 0, 0, 16), (111, .bipush 108, 2, 0, 0, 0, 108), (113, .iastore, 1, 0, 0, 0, 0), (114, .dup, 1, 0, 0, 0, 0), (115, .bipush 17, 2, 0, 0, 0, 17), (117, .bipush 100, 2, 0, 0, 0, 100), (119, .iastore, 1, 0, 0, 0, 0), (120, .dup, 1, 0, 0, 0, 0), (121, .bipush 18, 2, 0, 0, 0, 18), (123, .bipush 32, 2, 0, 0, 0, 32), (125, .iastore, 1, 0, 0, 0, 0), (126, .dup, 1, 0, 0, 0, 0), (127, .bipush 19, 2, 0, 0, 0, 19), (129, .bipush 99, 2, 0, 0, 0, 99), (131, .iastore, 1, 0, 0, 0, 0), (132, .dup, 1, 0, 0, 0, 0), (133, .bipush 20, 2, 0, 0, 0, 20), (135, .bipush 114, 2, 0, 0, 0, 114), (137, .iastore, 1, 0, 0, 0, 0), (138, .dup, 1, 0, 0, 0, 0), (139, .bipush 21, 2, 0, 0, 0, 21), (141, .bipush 111, 2, 0, 0, 0, 111), (143, .iastore, 1, 0, 0, 0, 0), (144, .dup, 1, 0, 0, 0, 0), (145, .bipush 22, 2, 0, 0, 0, 22), (147, .bipush 119, 2, 0, 0, 0, 119), (149, .iastore, 1, 0, 0, 0, 0), (150, .dup, 1, 0, 0, 0, 0), (151, .bipush 23, 2, 0, 0, 0, 23), (153, .bipush 100, 2, 0, 0, 0, 100), (155, .iastore, 1, 0, 0, 0, 0), (156, .dup, 1, 0, 0, 0, 0), (157, .bipush 24, 2, 0, 0, 0, 24), (159, .bipush 32, 2, 0, 0, 0, 32), (161, .iastore, 1, 0, 0, 0, 0), (162, .dup, 1, 0, 0, 0, 0), (163, .bipush 25, 2, 0, 0, 0, 25), (165, .bipush 115, 2, 0, 0, 0, 115), (167, .iastore, 1, 0, 0, 0, 0), (168, .dup, 1, 0, 0, 0, 0), (169, .bipush 26, 2, 0, 0, 0, 26), (171, .bipush 101, 2, 0, 0, 0, 101), (173, .iastore, 1, 0, 0, 0, 0), (174, .dup, 1, 0, 0, 0, 0), (175, .bipush 27, 2, 0, 0, 0, 27), (177, .bipush 101, 2, 0, 0, 0, 101), (179, .iastore, 1, 0, 0, 0, 0), (180, .dup, 1, 0, 0, 0, 0), (181, .bipush 28, 2, 0, 0, 0, 28), (183, .bipush 100, 2, 0, 0, 0, 100), (185, .iastore, 1, 0, 0, 0, 0), (186, .dup, 1, 0, 0, 0, 0), (187, .bipush 29, 2, 0, 0, 0, 29), (189, .bipush 32, 2, 0, 0, 0, 32), (191, .iastore, 1, 0, 0, 0, 0), (192, .dup, 1, 0, 0, 0, 0), (193, .bipush 30, 2, 0, 0, 0, 30), (195, .bipush 108, 2, 0, 0, 0, 108), (197, .iastore, 1, 0, 0, 0, 0), (198, .dup, 1, 0, 0, 0, 0), (199, .bipush 31, 2, 0, 0, 0, 31), (201, .bipush 97, 2, 0, 0, 0, 97), (203, .iastore, 1, 0, 0, 0, 0), (204, .dup, 1, 0, 0, 0, 0), (205, .bipush 32, 2, 0, 0, 0, 32), (207, .bipush 119, 2, 0, 0, 0, 119), (209, .iastore, 1, 0, 0, 0, 0), (210, .dup, 1, 0, 0, 0, 0), (211, .bipush 33, 2, 0, 0, 0, 33), (213, .bipush 32, 2, 0, 0, 0, 32), (215, .iastore, 1, 0, 0, 0, 0), (216, .dup, 1, 0, 0, 0, 0), (217, .bipush 34, 2, 0, 0, 0, 34), (219, .bipush 116, 2, 0, 0, 0, 116), (221, .iastore, 1, 0, 0, 0, 0), (222, .dup, 1, 0, 0, 0, 0), (223, .bipush 35, 2, 0, 0, 0, 35), (225, .bipush 97, 2, 0, 0, 0, 97), (227, .iastore, 1, 0, 0, 0, 0), (228, .dup, 1, 0, 0, 0, 0), (229, .bipush 36, 2, 0, 0, 0, 36), (231, .bipush 108, 2, 0, 0, 0, 108), (233, .iastore, 1, 0, 0, 0, 0), (234, .dup, 1, 0, 0, 0, 0), (235, .bipush 37, 2, 0, 0, 0, 37), (237, .bipush 107, 2, 0, 0, 0, 107), (239, .iastore, 1, 0, 0, 0, 0), (240, .dup, 1, 0, 0, 0, 0), (241, .bipush 38, 2, 0, 0, 0, 38), (243, .bipush 32, 2, 0, 0, 0, 32), (245, .iastore, 1, 0, 0, 0, 0), (246, .dup, 1, 0, 0, 0, 0), (247, .bipush 39, 2, 0, 0, 0, 39), (249, .bipush 108, 2, 0, 0, 0, 108), (251, .iastore, 1, 0, 0, 0, 0), (252, .dup, 1, 0, 0, 0, 0), (253, .bipush 40, 2, 0, 0, 0, 40), (255, .bipush 97, 2, 0, 0, 0, 97), (257, .iastore, 1, 0, 0, 0, 0), (258, .dup, 1, 0, 0, 0, 0), (259, .bipush 41, 2, 0, 0, 0, 41), (261, .bipush 116, 2, 0, 0, 0, 116), (263, .iastore, 1, 0, 0, 0, 0), (264, .dup, 1, 0, 0, 0, 0), (265, .bipush 42, 2, 0, 0, 0, 42), (267, .bipush 101, 2, 0, 0, 0, 101), (269, .iastore, 1, 0, 0, 0, 0), (270, .dup, 1, 0, 0, 0, 0), (271, .bipush 43, 2, 0, 0, 0, 43), (273, .bipush 32, 2, 0, 0, 0, 32), (275, .iastore, 1, 0, 0, 0, 0), (276, .dup, 1, 0, 0, 0, 0), (277, .bipush 44, 2, 0, 0, 0, 44), (279, .bipush 100, 2, 0, 0, 0, 100), (281, .iastore, 1, 0, 0, 0, 0), (282, .dup, 1, 0, 0, 0, 0), (283, .bipush 45, 2, 0, 0, 0, 45), (285, .bipush 114, 2, 0, 0, 0, 114), (287, .iastore, 1, 0, 0, 0, 0), (288, .dup, 1, 0, 0, 0, 0), (289, .bipush 46, 2, 0, 0, 0, 46), (291, .bipush 105, 2, 0, 0, 0, 105), (293, .iastore, 1, 0, 0, 0, 0), (294, .dup, 1, 0, 0, 0, 0), (295, .bipush 47, 2, 0, 0, 0, 47), (297, .bipush 102, 2, 0, 0, 0, 102), (299, .iastore, 1, 0, 0, 0, 0), (300, .dup, 1, 0, 0, 0, 0), (301, .bipush 48, 2, 0, 0, 0, 48), (303, .bipush 116, 2, 0, 0, 0, 116), (305, .iastore, 1, 0, 0, 0, 0), (306, .dup, 1, 0, 0, 0, 0), (307, .bipush 49, 2, 0, 0, 0, 49), (309, .bipush 32, 2, 0, 0, 0, 32), (311, .iastore, 1, 0, 0, 0, 0), (312, .dup, 1, 0, 0, 0, 0), (313, .bipush 50, 2, 0, 0, 0, 50), (315, .bipush 97, 2, 0, 0, 0, 97), (317, .iastore, 1, 0, 0, 0, 0), (318, .dup, 1, 0, 0, 0, 0), (319, .bipush 51, 2, 0, 0, 0, 51), (321, .bipush 110, 2, 0, 0, 0, 110), (323, .iastore, 1, 0, 0, 0, 0), (324, .dup, 1, 0, 0, 0, 0), (325, .bipush 52, 2, 0, 0, 0, 52), (327, .bipush 100, 2, 0, 0, 0, 100), (329, .iastore, 1, 0, 0, 0, 0), (330, .dup, 1, 0, 0, 0, 0), (331, .bipush 53, 2, 0, 0, 0, 53), (333, .bipush 32, 2, 0, 0, 0, 32), (335, .iastore, 1, 0, 0, 0, 0), (336, .dup, 1, 0, 0, 0, 0), (337, .bipush 54, 2, 0, 0, 0, 54), (339, .bipush 111, 2, 0, 0, 0, 111), (341, .iastore, 1, 0, 0, 0, 0), (342, .dup, 1, 0, 0, 0, 0), (343, .bipush 55, 2, 0, 0, 0, 55), (345, .bipush 114, 2, 0, 0, 0, 114), (347, .iastore, 1, 0, 0, 0, 0), (348, .dup, 1, 0, 0, 0, 0), (349, .bipush 56, 2, 0, 0, 0, 56), (351, .bipush 32, 2, 0, 0, 0, 32), (353, .iastore, 1, 0, 0, 0, 0), (354, .dup, 1, 0, 0, 0, 0), (355, .bipush 57, 2, 0, 0, 0, 57), (357, .bipush 110, 2, 0, 0, 0, 110), (359, .iastore, 1, 0, 0, 0, 0), (360, .dup, 1, 0, 0, 0, 0), (361, .bipush 58, 2, 0, 0, 0, 58), (363, .bipush 111, 2, 0, 0, 0, 111), (365, .iastore, 1, 0, 0, 0, 0), (366, .dup, 1, 0, 0, 0, 0), (367, .bipush 59, 2, 0, 0, 0, 59), (369, .bipush 116, 2, 0, 0, 0, 116), (371, .iastore, 1, 0, 0, 0, 0), (372, .dup, 1, 0, 0, 0, 0), (373, .bipush 60, 2, 0, 0, 0, 60), (375, .bipush 32, 2, 0, 0, 0, 32), (377, .iastore, 1, 0, 0, 0, 0), (378, .dup, 1, 0, 0, 0, 0), (379, .bipush 61, 2, 0, 0, 0, 61), (381, .bipush 116, 2, 0, 0, 0, 116), (383, .iastore, 1, 0, 0, 0, 0), (384, .dup, 1, 0, 0, 0, 0), (385, .bipush 62, 2, 0, 0, 0, 62), (387, .bipush 97, 2, 0, 0, 0, 97), (389, .iastore, 1, 0, 0, 0, 0), (390, .dup, 1, 0, 0, 0, 0), (391, .bipush 63, 2, 0, 0, 0, 63), (393, .bipush 108, 2, 0, 0, 0, 108), (395, .iastore, 1, 0, 0, 0, 0), (396, .dup, 1, 0, 0, 0, 0), (397, .bipush 64, 2, 0, 0, 0, 64), (399, .bipush 107, 2, 0, 0, 0, 107), (401, .iastore, 1, 0, 0, 0, 0), (402, .dup, 1, 0, 0, 0, 0), (403, .bipush 65, 2, 0, 0, 0, 65), (405, .bipush 115, 2, 0, 0, 0, 115), (407, .iastore, 1, 0, 0, 0, 0), (408, .dup, 1, 0, 0, 0, 0), (409, .bipush 66, 2, 0, 0, 0, 66), (411, .bipush 32, 2, 0, 0, 0, 32), (413, .iastore, 1, 0, 0, 0, 0), (414, .dup, 1, 0, 0, 0, 0), (415, .bipush 67, 2, 0, 0, 0, 67), (417, .bipush 119, 2, 0, 0, 0, 119), (419, .iastore, 1, 0, 0, 0, 0), (420, .dup, 1, 0, 0, 0, 0), (421, .bipush 68, 2, 0, 0, 0, 68), (423, .bipush 97, 2, 0, 0, 0, 97), (425, .iastore, 1, 0, 0, 0, 0), (426, .dup, 1, 0, 0, 0, 0), (427, .bipush 69, 2, 0, 0, 0, 69), (429, .bipush 105, 2, 0, 0, 0, 105), (431, .iastore, 1, 0, 0, 0, 0), (432, .dup, 1, 0, 0, 0, 0), (433, .bipush 70, 2, 0, 0, 0, 70), (435, .bipush 116, 2, 0, 0, 0, 116), (437, .iastore, 1, 0, 0, 0, 0), (438, .dup, 1, 0, 0, 0, 0), (439, .bipush 71, 2, 0, 0, 0, 71), (441, .bipush 115, 2, 0, 0, 0, 115), (443, .iastore, 1, 0, 0, 0, 0), (444, .dup, 1, 0, 0, 0, 0), (445, .bipush 72, 2, 0, 0, 0, 72), (447, .bipush 32, 2, 0, 0, 0, 32), (449, .iastore, 1, 0, 0, 0, 0), (450, .dup, 1, 0, 0, 0, 0), (451, .bipush 73, 2, 0, 0, 0, 73), (453, .bipush 111, 2, 0, 0, 0, 111), (455, .iastore, 1, 0, 0, 0, 0), (456, .dup, 1, 0, 0, 0, 0), (457, .bipush 74, 2, 0, 0, 0, 74), (459, .bipush 102, 2, 0, 0, 0, 102), (461, .iastore, 1, 0, 0, 0, 0), (462, .dup, 1, 0, 0, 0, 0), (463, .bipush 75, 2, 0, 0, 0, 75), (465, .bipush 102, 2, 0, 0, 0, 102), (467, .iastore, 1, 0, 0, 0, 0), (468, .dup, 1, 0, 0, 0, 0), (469, .bipush 76, 2, 0, 0, 0, 76), (471, .bipush 32, 2, 0, 0, 0, 32), (473, .iastore, 1, 0, 0, 0, 0), (474, .dup, 1, 0, 0, 0, 0), (475, .bipush 77, 2, 0, 0, 0, 77), (477, .bipush 114, 2, 0, 0, 0, 114), (479, .iastore, 1, 0, 0, 0, 0), (480, .dup, 1, 0, 0, 0, 0), (481, .bipush 78, 2, 0, 0, 0, 78), (483, .bipush 97, 2, 0, 0, 0, 97), (485, .iastore, 1, 0, 0, 0, 0), (486, .dup, 1, 0, 0, 0, 0), (487, .bipush 79, 2, 0, 0, 0, 79), (489, .bipush 116, 2, 0, 0, 0, 116), (491, .iastore, 1, 0, 0, 0, 0), (492, .dup, 1, 0, 0, 0, 0), (493, .bipush 80, 2, 0, 0, 0, 80), (495, .bipush 101, 2, 0, 0, 0, 101), (497, .iastore, 1, 0, 0, 0, 0), (498, .dup, 1, 0, 0, 0, 0), (499, .bipush 81, 2, 0, 0, 0, 81), (501, .bipush 32, 2, 0, 0, 0, 32), (503, .iastore, 1, 0, 0, 0, 0), (504, .dup, 1, 0, 0, 0, 0), (505, .bipush 82, 2, 0, 0, 0, 82), (507, .bipush 113, 2, 0, 0, 0, 113), (509, .iastore, 1, 0, 0, 0, 0), (510, .dup, 1, 0, 0, 0, 0), (511, .bipush 83, 2, 0, 0, 0, 83), (513, .bipush 117, 2, 0, 0, 0, 117), (515, .iastore, 1, 0, 0, 0, 0), (516, .dup, 1, 0, 0, 0, 0), (517, .bipush 84, 2, 0, 0, 0, 84), (519, .bipush 101, 2, 0, 0, 0, 101), (521, .iastore, 1, 0, 0, 0, 0), (522, .dup, 1, 0, 0, 0, 0), (523, .bipush 85, 2, 0, 0, 0, 85), (525, .bipush 117, 2, 0, 0, 0, 117), (527, .iastore, 1, 0, 0, 0, 0), (528, .dup, 1, 0, 0, 0, 0), (529, .bipush 86, 2, 0, 0, 0, 86), (531, .bipush 101, 2, 0, 0, 0, 101), (533, .iastore, 1, 0, 0, 0, 0), (534, .dup, 1, 0, 0, 0, 0), (535, .bipush 87, 2, 0, 0, 0, 87), (537, .bipush 32, 2, 0, 0, 0, 32), (539, .iastore, 1, 0, 0, 0, 0), (540, .dup, 1, 0, 0, 0, 0), (541, .bipush 88, 2, 0, 0, 0, 88), (543, .bipush 116, 2, 0, 0, 0, 116), (545, .iastore, 1, 0, 0, 0, 0), (546, .dup, 1, 0, 0, 0, 0), (547, .bipush 89, 2, 0, 0, 0, 89), (549, .bipush 111, 2, 0, 0, 0, 111), (551, .iastore, 1, 0, 0, 0, 0), (552, .dup, 1, 0, 0, 0, 0), (553, .bipush 90, 2, 0, 0, 0, 90), (555, .bipush 108, 2, 0, 0, 0, 108), (557, .iastore, 1, 0, 0, 0, 0), (558, .dup, 1, 0, 0, 0, 0), (559, .bipush 91, 2, 0, 0, 0, 91), (561, .bipush 100, 2, 0, 0, 0, 100), (563, .iastore, 1, 0, 0, 0, 0), (564, .dup, 1, 0, 0, 0, 0), (565, .bipush 92, 2, 0, 0, 0, 92), (567, .bipush 32, 2, 0, 0, 0, 32), (569, .iastore, 1, 0, 0, 0, 0), (570, .dup, 1, 0, 0, 0, 0), (571, .bipush 93, 2, 0, 0, 0, 93), (573, .bipush 109, 2, 0, 0, 0, 109), (575, .iastore, 1, 0, 0, 0, 0), (576, .dup, 1, 0, 0, 0, 0), (577, .bipush 94, 2, 0, 0, 0, 94), (579, .bipush 105, 2, 0, 0, 0, 105), (581, .iastore, 1, 0, 0, 0, 0), (582, .dup, 1, 0, 0, 0, 0), (583, .bipush 95, 2, 0, 0, 0, 95), (585, .bipush 110, 2, 0, 0, 0, 110), (587, .iastore, 1, 0, 0, 0, 0), (588, .dup, 1, 0, 0, 0, 0), (589, .bipush 96, 2, 0, 0, 0, 96), (591, .bipush 117, 2, 0, 0, 0, 117), (593, .iastore, 1, 0, 0, 0, 0), (594, .dup, 1, 0, 0, 0, 0), (595, .bipush 97, 2, 0, 0, 0, 97), (597, .bipush 116, 2, 0, 0, 0, 116), (599, .iastore, 1, 0, 0, 0, 0), (600, .dup, 1, 0, 0, 0, 0), (601, .bipush 98, 2, 0, 0, 0, 98), (603, .bipush 101, 2, 0, 0, 0, 101), (605, .iastore, 1, 0, 0, 0, 0), (606, .dup, 1, 0, 0, 0, 0), (607, .bipush 99, 2, 0, 0, 0, 99), (609, .bipush 32, 2, 0, 0, 0, 32), (611, .iastore, 1, 0, 0, 0, 0), (612, .putfield 13, 3, 14, 3, 2, 60019), (615, .aload_n 0, 1, 0, 0, 0, 0), (616, .iconst (-1), 1, 0, 0, 0, (-1)), (617, .putfield 16, 3, 14, 5, 0, 60021), (620, .aload_n 0, 1, 0, 0, 0, 0), (621, .iconst 2, 1, 0, 0, 0, 2), (622, .newarray .boolean, 2, 3, 0, 0, 20235), (624, .putfield 20, 3, 14, 22, 2, 60038), (627, .aload_n 0, 1, 0, 0, 0, 0), (628, .iconst 4, 1, 0, 0, 0, 4), (629, .newarray .int, 2, 0, 0, 0, 10124), (631, .putfield 24, 3, 14, 23, 2, 60039), (634, .aload_n 0, 1, 0, 0, 0, 0), (635, .bipush 12, 2, 0, 0, 0, 12), (637, .newarray .int, 2, 0, 0, 0, 10124), (639, .putfield 27, 3, 14, 24, 2, 60040), (642, .aload_n 0, 1, 0, 0, 0, 0), (643, .bipush 12, 2, 0, 0, 0, 12), (645, .newarray .int, 2, 0, 0, 0, 10124), (647, .putfield 30, 3, 14, 25, 2, 60041), (650, .aload_n 0, 1, 0, 0, 0, 0), (651, .bipush 12, 2, 0, 0, 0, 12), (653, .newarray .int, 2, 0, 0, 0, 10124), (655, .putfield 33, 3, 14, 26, 2, 60042), (658, .aload_n 0, 1, 0, 0, 0, 0), (659, .bipush 12, 2, 0, 0, 0, 12), (661, .newarray .int, 2, 0, 0, 0, 10124), (663, .putfield 36, 3, 14, 27, 2, 60043), (666, .aload_n 0, 1, 0, 0, 0, 0), (667, .bipush 12, 2, 0, 0, 0, 12), (669, .newarray .int, 2, 0, 0, 0, 10124), (671, .putfield 39, 3, 14, 28, 2, 60044), (674, .aload_n 0, 1, 0, 0, 0, 0), (675, .bipush 20, 2, 0, 0, 0, 20), (677, .newarray .int, 2, 0, 0, 0, 10124), (679, .putfield 42, 3, 14, 29, 2, 60045), (682, .aload_n 0, 1, 0, 0, 0, 0), (683, .bipush 20, 2, 0, 0, 0, 20), (685, .newarray .int, 2, 0, 0, 0, 10124), (687, .putfield 45, 3, 14, 30, 2, 60046), (690, .aload_n 0, 1, 0, 0, 0, 0), (691, .bipush 12, 2, 0, 0, 0, 12), (693, .newarray .int, 2, 0, 0, 0, 10124), (695, .putfield 48, 3, 14, 31, 2, 60047), (698, .aload_n 0, 1, 0, 0, 0, 0), (699, .bipush 12, 2, 0, 0, 0, 12), (701, .newarray .int, 2, 0, 0, 0, 10124), (703, .putfield 51, 3, 14, 32, 2, 60048), (706, .aload_n 0, 1, 0, 0, 0, 0), (707, .bipush 12, 2, 0, 0, 0, 12), (709, .newarray .int, 2, 0, 0, 0, 10124), (711, .putfield 54, 3, 14, 33, 2, 60049), (714, .aload_n 0, 1, 0, 0, 0, 0), (715, .bipush 6, 2, 0, 0, 0, 6), (717, .newarray .int, 2, 0, 0, 0, 10124), (719, .putfield 57, 3, 14, 34, 2, 60050), (722, .aload_n 0, 1, 0, 0, 0, 0), (723, .bipush 6, 2, 0, 0, 0, 6), (725, .newarray .int, 2, 0, 0, 0, 10124), (727, .putfield 60, 3, 14, 35, 2, 60051), (730, .aload_n 0, 1, 0, 0, 0, 0), (731, .bipush 6, 2, 0, 0, 0, 6), (733, .newarray .boolean, 2, 3, 0, 0, 20235), (735, .putfield 63, 3, 14, 36, 2, 60052), (738, .aload_n 0, 1, 0, 0, 0, 0), (739, .bipush 6, 2, 0, 0, 0, 6), (741, .newarray .int, 2, 0, 0, 0, 10124), (743, .putfield 66, 3, 14, 37, 2, 60053), (746, .aload_n 0, 1, 0, 0, 0, 0), (747, .bipush 6, 2, 0, 0, 0, 6), (749, .newarray .int, 2, 0, 0, 0, 10124), (751, .putfield 69, 3, 14, 38, 2, 60054), (754, .aload_n 0, 1, 0, 0, 0, 0), (755, .sipush 128, 3, 0, 0, 0, 128), (758, .newarray .int, 2, 0, 0, 0, 10124), (760, .putfield 72, 3, 14, 39, 2, 60055), (763, .aload_n 0, 1, 0, 0, 0, 0), (764, .sipush 128, 3, 0, 0, 0, 128), (767, .newarray .int, 2, 0, 0, 0, 10124), (769, .putfield 75, 3, 14, 40, 2, 60056), (772, .aload_n 0, 1, 0, 0, 0, 0), (773, .sipush 128, 3, 0, 0, 0, 128), (776, .newarray .int, 2, 0, 0, 0, 10124), (778, .putfield 78, 3, 14, 41, 2, 60057), (781, .aload_n 0, 1, 0, 0, 0, 0), (782, .bipush 96, 2, 0, 0, 0, 96), (784, .newarray .int, 2, 0, 0, 0, 10124), (786, .putfield 81, 3, 14, 42, 2, 60058), (789, .aload_n 0, 1, 0, 0, 0, 0), (790, .bipush 96, 2, 0, 0, 0, 96), (792, .newarray .int, 2, 0, 0, 0, 10124), (794, .putfield 84, 3, 14, 43, 2, 60059), (797, .aload_n 0, 1, 0, 0, 0, 0), (798, .bipush 7, 2, 0, 0, 0, 7), (800, .newarray .long, 2, 1, 0, 0, 10181), (802, .putfield 87, 3, 14, 50, 2, 60066), (805, .aload_n 0, 1, 0, 0, 0, 0), (806, .bipush 64, 2, 0, 0, 0, 64), (808, .newarray .long, 2, 1, 0, 0, 10181), (810, .putfield 91, 3, 14, 51, 2, 60067), (813, .aload_n 0, 1, 0, 0, 0, 0), (814, .bipush 12, 2, 0, 0, 0, 12), (816, .newarray .int, 2, 0, 0, 0, 10124), (818, .putfield 94, 3, 14, 53, 2, 60069), (821, .aload_n 0, 1, 0, 0, 0, 0), (822, .bipush 12, 2, 0, 0, 0, 12), (824, .newarray .int, 2, 0, 0, 0, 10124), (826, .putfield 97, 3, 14, 54, 2, 60070), (829, .aload_n 0, 1, 0, 0, 0, 0), (830, .bipush 12, 2, 0, 0, 0, 12), (832, .newarray .int, 2, 0, 0, 0, 10124), (834, .putfield 100, 3, 14, 55, 2, 60071), (837, .aload_n 0, 1, 0, 0, 0, 0), (838, .bipush 12, 2, 0, 0, 0, 12), (840, .newarray .int, 2, 0, 0, 0, 10124), (842, .putfield 103, 3, 14, 56, 2, 60072), (845, .aload_n 0, 1, 0, 0, 0, 0), (846, .bipush 40, 2, 0, 0, 0, 40), (848, .newarray .int, 2, 0, 0, 0, 10124), (850, .putfield 106, 3, 14, 57, 2, 60073), (853, .aload_n 0, 1, 0, 0, 0, 0), (854, .iconst 2, 1, 0, 0, 0, 2), (855, .newarray .int, 2, 0, 0, 0, 10124), (857, .putfield 109, 3, 14, 58, 2, 60074), (860, .aload_n 0, 1, 0, 0, 0, 0), (861, .iconst 2, 1, 0, 0, 0, 2), (862, .newarray .int, 2, 0, 0, 0, 10124), (864, .putfield 112, 3, 14, 59, 2, 60075), (867, .aload_n 0, 1, 0, 0, 0, 0), (868, .iconst 2, 1, 0, 0, 0, 2), (869, .newarray .int, 2, 0, 0, 0, 10124), (871, .putfield 115, 3, 14, 60, 2, 60076), (874, .aload_n 0, 1, 0, 0, 0, 0), (875, .bipush 12, 2, 0, 0, 0, 12), (877, .newarray .int, 2, 0, 0, 0, 10124), (879, .putfield 118, 3, 14, 61, 2, 60077), (882, .aload_n 0, 1, 0, 0, 0, 0), (883, .bipush 24, 2, 0, 0, 0, 24), (885, .newarray .int, 2, 0, 0, 0, 10124), (887, .putfield 121, 3, 14, 62, 2, 60078), (890, .aload_n 0, 1, 0, 0, 0, 0), (891, .bipush 12, 2, 0, 0, 0, 12), (893, .newarray .int, 2, 0, 0, 0, 10124), (895, .putfield 124, 3, 14, 63, 2, 60079), (898, .aload_n 0, 1, 0, 0, 0, 0), (899, .iconst 2, 1, 0, 0, 0, 2), (900, .newarray .int, 2, 0, 0, 0, 10124), (902, .putfield 127, 3, 14, 64, 2, 60080), (905, .aload_n 0, 1, 0, 0, 0, 0), (906, .iconst 2, 1, 0, 0, 0, 2), (907, .newarray .int, 2, 0, 0, 0, 10124), (909, .putfield 130, 3, 14, 65, 2, 60081), (912, .aload_n 0, 1, 0, 0, 0, 0), (913, .iconst (-1), 1, 0, 0, 0, (-1)), (914, .putfield 133, 3, 14, 76, 0, 60092), (917, .aload_n 0, 1, 0, 0, 0, 0), (918, .bipush 96, 2, 0, 0, 0, 96), (920, .newarray .int, 2, 0, 0, 0, 10124), (922, .putfield 136, 3, 14, 77, 2, 60093), (925, .aload_n 0, 1, 0, 0, 0, 0), (926, .bipush 24, 2, 0, 0, 0, 24), (928, .newarray .boolean, 2, 3, 0, 0, 20235), (930, .putfield 139, 3, 14, 78, 2, 60094), (933, .aload_n 0, 1, 0, 0, 0, 0), (934, .sipush 940, 3, 0, 0, 0, 940), (937, .newarray .int, 2, 0, 0, 0, 10124), (939, .putfield 142, 3, 14, 80, 2, 60096), (942, .aload_n 0, 1, 0, 0, 0, 0), (943, .bipush 47, 2, 0, 0, 0, 47), (945, .newarray .int, 2, 0, 0, 0, 10124), (947, .putfield 145, 3, 14, 82, 2, 60098), (950, .aload_n 0, 1, 0, 0, 0, 0), (951, .bipush 26, 2, 0, 0, 0, 26), (953, .newarray .int, 2, 0, 0, 0, 10124), (955, .putfield 148, 3, 14, 83, 2, 60099), (958, .aload_n 0, 1, 0, 0, 0, 0), (959, .invokevirtual 151, 3, 10, 1, 14, 50233), (962, .aload_n 0, 1, 0, 0, 0, 0), (963, .invokevirtual 154, 3, 15, 1, 14, 50237), (966, .return_, 1, 0, 0, 0, 0)]
/-- 17: SpeakClock.tapeFour(I)V -/
def cd_C_tapeFour : List mE := [(0, .bipush 24, 2, 0, 0, 0, 24), (2, .istore_n 2, 1, 0, 0, 0, 0), (3, .nop, 0, 7, 0, 0, 0), (3, .iload_n 2, 1, 0, 0, 0, 0), (4, .ifCond .lt 42, 3, 46, 0, 0, 0), (7, .aload_n 0, 1, 0, 0, 0, 0), (8, .getfield 71, 3, 13, 10, 0, 30029), (11, .sipush 700, 3, 0, 0, 0, 700), (14, .if_icmp .ge 32, 3, 46, 0, 0, 0), (17, .aload_n 0, 1, 0, 0, 0, 0), (18, .getfield 28, 3, 13, 1, 2, 30020), (21, .aload_n 0, 1, 0, 0, 0, 0), (22, .getfield 71, 3, 13, 10, 0, 30029), (25, .iload_n 1, 1, 0, 0, 0, 0), (26, .iload_n 2, 1, 0, 0, 0, 0), (27, .ishr, 1, 0, 0, 0, 0), (28, .i2b, 1, 0, 0, 0, 0), (29, .bastore, 1, 0, 0, 0, 0), (30, .aload_n 0, 1, 0, 0, 0, 0), (31, .dup, 1, 0, 0, 0, 0), (32, .getfield 71, 3, 13, 10, 0, 30029), (35, .iconst 1, 1, 0, 0, 0, 1), (36, .iadd, 1, 0, 0, 0, 0), (37, .putfield 71, 3, 13, 10, 0, 30029), (40, .iinc 2 (-8), 3, 0, 0, 0, 0), (43, .goto (-40), 3, 3, 0, 0, 0), (46, .nop, 0, 0, 0, 0, 0), (46, .return_, 1, 0, 0, 0, 0)]
/-- 18: SpeakClock.feed(IIIII)I -/
def cd_C_feed : List mE := [(0, .aload_n 0, 1, 0, 0, 0, 0), (1, .getfield 71, 3, 13, 10, 0, 30029), (4, .bipush 20, 2, 0, 0, 0, 20), (6, .iadd, 1, 0, 0, 0, 0), (7, .sipush 700, 3, 0, 0, 0, 700), (10, .if_icmp .le 5, 3, 15, 0, 0, 0), (13, .iconst (-1), 1, 0, 0, 0, (-1)), (14, .ireturn, 1, 0, 0, 0, 0), (15, .aload_n 0, 1, 0, 0, 0, 0), (16, .iload_n 1, 1, 0, 0, 0, 0), (17, .invokevirtual 85, 3, 17, 2, 13, 30066), (20, .aload_n 0, 1, 0, 0, 0, 0), (21, .iload_n 2, 1, 0, 0, 0, 0), (22, .invokevirtual 85, 3, 17, 2, 13, 30066), (25, .aload_n 0, 1, 0, 0, 0, 0), (26, .iload_n 3, 1, 0, 0, 0, 0), (27, .invokevirtual 85, 3, 17, 2, 13, 30066), (30, .aload_n 0, 1, 0, 0, 0, 0), (31, .iload 4, 2, 0, 0, 0, 0), (33, .invokevirtual 85, 3, 17, 2, 13, 30066), (36, .aload_n 0, 1, 0, 0, 0, 0), (37, .iload 5, 2, 0, 0, 0, 0), (39, .invokevirtual 85, 3, 17, 2, 13, 30066), (42, .aload_n 0, 1, 0, 0, 0, 0), (43, .getfield 71, 3, 13, 10, 0, 30029), (46, .ireturn, 1, 0, 0, 0, 0)]
/-- 19: SpeakClockModel.feed(IIIII)I -/
def cd_M_feed : List mE := [(0, .aload_n 0, 1, 0, 0, 0, 0), (1, .iconst 0, 1, 0, 0, 0, 0), (2, .putfield 157, 3, 14, 2, 0, 60018), (5, .aload_n 0, 1, 0, 0, 0, 0), (6, .getfield 160, 3, 14, 1, 0, 60017), (9, .bipush 20, 2, 0, 0, 0, 20), (11, .iadd, 1, 0, 0, 0, 0), (12, .sipush 700, 3, 0, 0, 0, 700), (15, .if_icmp .le 5, 3, 20, 0, 0, 0), (18, .iconst (-1), 1, 0, 0, 0, (-1)), (19, .ireturn, 1, 0, 0, 0, 0), (20, .iconst 0, 1, 0, 0, 0, 0), (21, .istore 6, 2, 0, 0, 0, 0), (23, .nop, 0, 127, 0, 0, 0), (23, .iload 6, 2, 0, 0, 0, 0), (25, .bipush 20, 2, 0, 0, 0, 20), (27, .if_icmp .ge 86, 3, 113, 0, 0, 0), (30, .iload 6, 2, 0, 0, 0, 0), (32, .iconst 4, 1, 0, 0, 0, 4), (33, .if_icmp .ge 7, 3, 40, 0, 0, 0), (36, .iload_n 1, 1, 0, 0, 0, 0), (37, .goto 39, 3, 76, 0, 0, 0), (40, .iload 6, 2, 0, 0, 0, 0), (42, .bipush 8, 2, 0, 0, 0, 8), (44, .if_icmp .ge 7, 3, 51, 0, 0, 0), (47, .iload_n 2, 1, 0, 0, 0, 0), (48, .goto 28, 3, 76, 0, 0, 0), (51, .iload 6, 2, 0, 0, 0, 0), (53, .bipush 12, 2, 0, 0, 0, 12), (55, .if_icmp .ge 7, 3, 62, 0, 0, 0), (58, .iload_n 3, 1, 0, 0, 0, 0), (59, .goto 17, 3, 76, 0, 0, 0), (62, .iload 6, 2, 0, 0, 0, 0), (64, .bipush 16, 2, 0, 0, 0, 16), (66, .if_icmp .ge 8, 3, 74, 0, 0, 0), (69, .iload 4, 2, 0, 0, 0, 0), (71, .goto 5, 3, 76, 0, 0, 0), (74, .iload 5, 2, 0, 0, 0, 0), (76, .nop, 0, 127, 0, 0, 0), (76, .istore 7, 2, 0, 0, 0, 0), (78, .aload_n 0, 1, 0, 0, 0, 0), (79, .getfield 7, 3, 14, 0, 2, 60016), (82, .aload_n 0, 1, 0, 0, 0, 0), (83, .getfield 160, 3, 14, 1, 0, 60017), (86, .iload 6, 2, 0, 0, 0, 0), (88, .iadd, 1, 0, 0, 0, 0), (89, .iload 7, 2, 0, 0, 0, 0), (91, .bipush 24, 2, 0, 0, 0, 24), (93, .bipush 8, 2, 0, 0, 0, 8), (95, .iload 6, 2, 0, 0, 0, 0), (97, .iconst 4, 1, 0, 0, 0, 4), (98, .irem, 1, 0, 0, 0, 0), (99, .imul, 1, 0, 0, 0, 0), (100, .isub, 1, 0, 0, 0, 0), (101, .ishr, 1, 0, 0, 0, 0), (102, .sipush 255, 3, 0, 0, 0, 255), (105, .iand, 1, 0, 0, 0, 0), (106, .iastore, 1, 0, 0, 0, 0), (107, .iinc 6 1, 3, 0, 0, 0, 0), (110, .goto (-87), 3, 23, 0, 0, 0), (113, .aload_n 0, 1, 0, 0, 0, 0), (114, .dup, 1, 0, 0, 0, 0), (115, .getfield 160, 3, 14, 1, 0, 60017), (118, .bipush 20, 2, 0, 0, 0, 20), (120, .iadd, 1, 0, 0, 0, 0), (121, .putfield 160, 3, 14, 1, 0, 60017), (124, .aload_n 0, 1, 0, 0, 0, 0), (125, .getfield 160, 3, 14, 1, 0, 60017), (128, .ireturn, 1, 0, 0, 0, 0)]
/-- 20: SpeakClock$Laws.clear()V -/
def cd_Laws_clear : List mE := [(0, .aload_n 0, 1, 0, 0, 0, 0), (1, .iconst 0, 1, 0, 0, 0, 0), (2, .putfield 28, 3, 6, 5, 0, 10161), (5, .aload_n 0, 1, 0, 0, 0, 0), (6, .iconst 0, 1, 0, 0, 0, 0), (7, .putfield 32, 3, 6, 6, 0, 10163), (10, .iconst 0, 1, 0, 0, 0, 0), (11, .istore_n 1, 1, 0, 0, 0, 0), (12, .nop, 0, 3, 0, 0, 0), (12, .iload_n 1, 1, 0, 0, 0, 0), (13, .iconst 3, 1, 0, 0, 0, 3), (14, .if_icmp .ge 23, 3, 37, 0, 0, 0), (17, .aload_n 0, 1, 0, 0, 0, 0), (18, .getfield 18, 3, 6, 2, 2, 10156), (21, .iload_n 1, 1, 0, 0, 0, 0), (22, .iconst 0, 1, 0, 0, 0, 0), (23, .iastore, 1, 0, 0, 0, 0), (24, .aload_n 0, 1, 0, 0, 0, 0), (25, .getfield 21, 3, 6, 3, 2, 10158), (28, .iload_n 1, 1, 0, 0, 0, 0), (29, .iconst 0, 1, 0, 0, 0, 0), (30, .iastore, 1, 0, 0, 0, 0), (31, .iinc 1 1, 3, 0, 0, 0, 0), (34, .goto (-22), 3, 12, 0, 0, 0), (37, .return_, 1, 0, 0, 0, 0)]
/-- 21: SpeakClock$Plan.clear()V -/
def cd_Plan_clear : List mE := [(0, .aload_n 0, 1, 0, 0, 0, 0), (1, .iconst 0, 1, 0, 0, 0, 0), (2, .putfield 55, 3, 9, 13, 0, 10226), (5, .aload_n 0, 1, 0, 0, 0, 0), (6, .iconst 0, 1, 0, 0, 0, 0), (7, .putfield 59, 3, 9, 14, 0, 10231), (10, .aload_n 0, 1, 0, 0, 0, 0), (11, .iconst 0, 1, 0, 0, 0, 0), (12, .putfield 62, 3, 9, 15, 0, 10235), (15, .aload_n 0, 1, 0, 0, 0, 0), (16, .iconst 0, 1, 0, 0, 0, 0), (17, .putfield 65, 3, 9, 16, 0, 20000), (20, .aload_n 0, 1, 0, 0, 0, 0), (21, .iconst 0, 1, 0, 0, 0, 0), (22, .putfield 68, 3, 9, 17, 0, 20003), (25, .aload_n 0, 1, 0, 0, 0, 0), (26, .iconst 0, 1, 0, 0, 0, 0), (27, .putfield 71, 3, 9, 18, 0, 20006), (30, .aload_n 0, 1, 0, 0, 0, 0), (31, .getfield 51, 3, 9, 12, 2, 10222), (34, .invokevirtual 74, 3, 20, 1, 6, 30082), (37, .return_, 1, 0, 0, 0, 0)]
/-- 22: SpeakClock$Tokens.isLetter(I)Z -/
def cd_Tokens_isLetter : List mE := [(0, .aload_n 0, 1, 0, 0, 0, 0), (1, .getfield 9, 3, 11, 0, 2, 10091), (4, .iload_n 1, 1, 0, 0, 0, 0), (5, .baload, 1, 0, 0, 0, 0), (6, .bipush 97, 2, 0, 0, 0, 97), (8, .if_icmp .lt 18, 3, 26, 0, 0, 0), (11, .aload_n 0, 1, 0, 0, 0, 0), (12, .getfield 9, 3, 11, 0, 2, 10091), (15, .iload_n 1, 1, 0, 0, 0, 0), (16, .baload, 1, 0, 0, 0, 0), (17, .bipush 122, 2, 0, 0, 0, 122), (19, .if_icmp .gt 7, 3, 26, 0, 0, 0), (22, .iconst 1, 1, 0, 0, 0, 1), (23, .goto 4, 3, 27, 0, 0, 0), (26, .nop, 0, 0, 0, 0, 0), (26, .iconst 0, 1, 0, 0, 0, 0), (27, .nop, 0, 0, 0, 0, 0), (27, .ireturn, 1, 1, 0, 0, 0)]
/-- 23: SpeakClock$Tokens.wordKind()I -/
def cd_Tokens_wordKind : List mE := [(0, .iconst 0, 1, 0, 0, 0, 0), (1, .istore_n 1, 1, 0, 0, 0, 0), (2, .nop, 0, 3, 0, 0, 0), (2, .iload_n 1, 1, 0, 0, 0, 0), (3, .bipush 20, 2, 0, 0, 0, 20), (5, .if_icmp .ge 27, 3, 32, 0, 0, 0), (8, .aload_n 0, 1, 0, 0, 0, 0), (9, .getfield 15, 3, 11, 1, 2, 10093), (12, .iload_n 1, 1, 0, 0, 0, 0), (13, .iaload, 1, 0, 0, 0, 0), (14, .aload_n 0, 1, 0, 0, 0, 0), (15, .getfield 35, 3, 11, 7, 0, 10104), (18, .if_icmp .ne 8, 3, 26, 0, 0, 0), (21, .bipush 17, 2, 0, 0, 0, 17), (23, .iload_n 1, 1, 0, 0, 0, 0), (24, .iadd, 1, 0, 0, 0, 0), (25, .ireturn, 1, 0, 0, 0, 0), (26, .iinc 1 1, 3, 0, 0, 0, 0), (29, .goto (-27), 3, 2, 0, 0, 0), (32, .iconst 3, 1, 0, 0, 0, 3), (33, .ireturn, 1, 0, 0, 0, 0)]
/-- 24: SpeakClock$Tokens.readWord()V -/
def cd_Tokens_readWord : List mE := [(0, .aload_n 0, 1, 0, 0, 0, 0), (1, .iconst 0, 1, 0, 0, 0, 0), (2, .putfield 35, 3, 11, 7, 0, 10104), (5, .nop, 0, 1, 0, 0, 0), (5, .aload_n 0, 1, 0, 0, 0, 0), (6, .getfield 23, 3, 11, 3, 0, 10095), (9, .aload_n 0, 1, 0, 0, 0, 0), (10, .getfield 19, 3, 11, 2, 0, 10094), (13, .if_icmp .ge 52, 3, 65, 0, 0, 0), (16, .aload_n 0, 1, 0, 0, 0, 0), (17, .aload_n 0, 1, 0, 0, 0, 0), (18, .getfield 23, 3, 11, 3, 0, 10095), (21, .invokevirtual 55, 3, 22, 2, 11, 30097), (24, .ifCond .eq 41, 3, 65, 0, 0, 0), (27, .aload_n 0, 1, 0, 0, 0, 0), (28, .aload_n 0, 1, 0, 0, 0, 0), (29, .getfield 35, 3, 11, 7, 0, 10104), (32, .iconst 5, 1, 0, 0, 0, 5), (33, .ishl, 1, 0, 0, 0, 0), (34, .aload_n 0, 1, 0, 0, 0, 0), (35, .getfield 9, 3, 11, 0, 2, 10091), (38, .aload_n 0, 1, 0, 0, 0, 0), (39, .getfield 23, 3, 11, 3, 0, 10095), (42, .baload, 1, 0, 0, 0, 0), (43, .bipush 97, 2, 0, 0, 0, 97), (45, .isub, 1, 0, 0, 0, 0), (46, .iconst 1, 1, 0, 0, 0, 1), (47, .iadd, 1, 0, 0, 0, 0), (48, .ior, 1, 0, 0, 0, 0), (49, .putfield 35, 3, 11, 7, 0, 10104), (52, .aload_n 0, 1, 0, 0, 0, 0), (53, .dup, 1, 0, 0, 0, 0), (54, .getfield 23, 3, 11, 3, 0, 10095), (57, .iconst 1, 1, 0, 0, 0, 1), (58, .iadd, 1, 0, 0, 0, 0), (59, .putfield 23, 3, 11, 3, 0, 10095), (62, .goto (-57), 3, 5, 0, 0, 0), (65, .nop, 0, 1, 0, 0, 0), (65, .aload_n 0, 1, 0, 0, 0, 0), (66, .getfield 23, 3, 11, 3, 0, 10095), (69, .aload_n 0, 1, 0, 0, 0, 0), (70, .getfield 29, 3, 11, 5, 0, 10099), (73, .isub, 1, 0, 0, 0, 0), (74, .istore_n 1, 1, 0, 0, 0, 0), (75, .iload_n 1, 1, 0, 0, 0, 0), (76, .bipush 6, 2, 0, 0, 0, 6), (78, .if_icmp .le 11, 3, 89, 0, 0, 0), (81, .aload_n 0, 1, 0, 0, 0, 0), (82, .iconst 1, 1, 0, 0, 0, 1), (83, .putfield 26, 3, 11, 4, 0, 10096), (86, .goto 26, 3, 112, 0, 0, 0), (89, .aload_n 0, 1, 0, 0, 0, 0), (90, .dup, 1, 0, 0, 0, 0), (91, .getfield 35, 3, 11, 7, 0, 10104), (94, .iconst 5, 1, 0, 0, 0, 5), (95, .bipush 6, 2, 0, 0, 0, 6), (97, .iload_n 1, 1, 0, 0, 0, 0), (98, .isub, 1, 0, 0, 0, 0), (99, .imul, 1, 0, 0, 0, 0), (100, .ishl, 1, 0, 0, 0, 0), (101, .putfield 35, 3, 11, 7, 0, 10104), (104, .aload_n 0, 1, 0, 0, 0, 0), (105, .aload_n 0, 1, 0, 0, 0, 0), (106, .invokevirtual 75, 3, 23, 1, 11, 30105), (109, .putfield 26, 3, 11, 4, 0, 10096), (112, .nop, 0, 0, 0, 0, 0), (112, .return_, 1, 0, 0, 0, 0)]
/-- 25: SpeakClock$Tokens.isDigit(I)Z -/
def cd_Tokens_isDigit : List mE := [(0, .aload_n 0, 1, 0, 0, 0, 0), (1, .getfield 9, 3, 11, 0, 2, 10091), (4, .iload_n 1, 1, 0, 0, 0, 0), (5, .baload, 1, 0, 0, 0, 0), (6, .bipush 48, 2, 0, 0, 0, 48), (8, .if_icmp .lt 18, 3, 26, 0, 0, 0), (11, .aload_n 0, 1, 0, 0, 0, 0), (12, .getfield 9, 3, 11, 0, 2, 10091), (15, .iload_n 1, 1, 0, 0, 0, 0), (16, .baload, 1, 0, 0, 0, 0), (17, .bipush 57, 2, 0, 0, 0, 57), (19, .if_icmp .gt 7, 3, 26, 0, 0, 0), (22, .iconst 1, 1, 0, 0, 0, 1), (23, .goto 4, 3, 27, 0, 0, 0), (26, .nop, 0, 0, 0, 0, 0), (26, .iconst 0, 1, 0, 0, 0, 0), (27, .nop, 0, 0, 0, 0, 0), (27, .ireturn, 1, 1, 0, 0, 0)]
/-- 26: SpeakClock$Tokens.readNumber()V -/
def cd_Tokens_readNumber : List mE := [(0, .aload_n 0, 1, 0, 0, 0, 0), (1, .iconst 0, 1, 0, 0, 0, 0), (2, .putfield 32, 3, 11, 6, 0, 10101), (5, .nop, 0, 1, 0, 0, 0), (5, .aload_n 0, 1, 0, 0, 0, 0), (6, .getfield 23, 3, 11, 3, 0, 10095), (9, .aload_n 0, 1, 0, 0, 0, 0), (10, .getfield 19, 3, 11, 2, 0, 10094), (13, .if_icmp .ge 56, 3, 69, 0, 0, 0), (16, .aload_n 0, 1, 0, 0, 0, 0), (17, .aload_n 0, 1, 0, 0, 0, 0), (18, .getfield 23, 3, 11, 3, 0, 10095), (21, .invokevirtual 62, 3, 25, 2, 11, 30109), (24, .ifCond .eq 45, 3, 69, 0, 0, 0), (27, .aload_n 0, 1, 0, 0, 0, 0), (28, .ldc 79, 2, 30117, 0, 0, 1000000), (30, .aload_n 0, 1, 0, 0, 0, 0), (31, .getfield 32, 3, 11, 6, 0, 10101), (34, .bipush 10, 2, 0, 0, 0, 10), (36, .imul, 1, 0, 0, 0, 0), (37, .aload_n 0, 1, 0, 0, 0, 0), (38, .getfield 9, 3, 11, 0, 2, 10091), (41, .aload_n 0, 1, 0, 0, 0, 0), (42, .getfield 23, 3, 11, 3, 0, 10095), (45, .baload, 1, 0, 0, 0, 0), (46, .iadd, 1, 0, 0, 0, 0), (47, .bipush 48, 2, 0, 0, 0, 48), (49, .isub, 1, 0, 0, 0, 0), (50, .invokestatic 46, 3, 1001, 2, 0, 30090), (53, .putfield 32, 3, 11, 6, 0, 10101), (56, .aload_n 0, 1, 0, 0, 0, 0), (57, .dup, 1, 0, 0, 0, 0), (58, .getfield 23, 3, 11, 3, 0, 10095), (61, .iconst 1, 1, 0, 0, 0, 1), (62, .iadd, 1, 0, 0, 0, 0), (63, .putfield 23, 3, 11, 3, 0, 10095), (66, .goto (-61), 3, 5, 0, 0, 0), (69, .nop, 0, 1, 0, 0, 0), (69, .aload_n 0, 1, 0, 0, 0, 0), (70, .iconst 2, 1, 0, 0, 0, 2), (71, .putfield 26, 3, 11, 4, 0, 10096), (74, .return_, 1, 0, 0, 0, 0)]
/-- 27: SpeakClock$Tokens.signKind(I)I -/
def cd_Tokens_signKind : List mE := [(0, .iload_n 0, 1, 0, 0, 0, 0), (1, .tableswitch 135 40 62 #[109, 111, 120, 114, 135, 117, 135, 123, 135, 135, 135, 135, 135, 135, 135, 135, 135, 135, 135, 107, 126, 129, 132], 107, 136, 0, 0, 0), (108, .iconst 4, 1, 0, 0, 0, 4), (109, .ireturn, 1, 0, 0, 0, 0), (110, .iconst 5, 1, 0, 0, 0, 5), (111, .ireturn, 1, 0, 0, 0, 0), (112, .bipush 6, 2, 0, 0, 0, 6), (114, .ireturn, 1, 0, 0, 0, 0), (115, .bipush 7, 2, 0, 0, 0, 7), (117, .ireturn, 1, 0, 0, 0, 0), (118, .bipush 8, 2, 0, 0, 0, 8), (120, .ireturn, 1, 0, 0, 0, 0), (121, .bipush 9, 2, 0, 0, 0, 9), (123, .ireturn, 1, 0, 0, 0, 0), (124, .bipush 10, 2, 0, 0, 0, 10), (126, .ireturn, 1, 0, 0, 0, 0), (127, .bipush 11, 2, 0, 0, 0, 11), (129, .ireturn, 1, 0, 0, 0, 0), (130, .bipush 13, 2, 0, 0, 0, 13), (132, .ireturn, 1, 0, 0, 0, 0), (133, .bipush 16, 2, 0, 0, 0, 16), (135, .ireturn, 1, 0, 0, 0, 0), (136, .iconst 1, 1, 0, 0, 0, 1), (137, .ireturn, 1, 0, 0, 0, 0)]
/-- 28: SpeakClock$Tokens.lengthenSign()V -/
def cd_Tokens_lengthenSign : List mE := [(0, .aload_n 0, 1, 0, 0, 0, 0), (1, .getfield 23, 3, 11, 3, 0, 10095), (4, .aload_n 0, 1, 0, 0, 0, 0), (5, .getfield 19, 3, 11, 2, 0, 10094), (8, .if_icmp .lt 4, 3, 12, 0, 0, 0), (11, .return_, 1, 0, 0, 0, 0), (12, .aload_n 0, 1, 0, 0, 0, 0), (13, .getfield 26, 3, 11, 4, 0, 10096), (16, .istore_n 1, 1, 0, 0, 0, 0), (17, .aload_n 0, 1, 0, 0, 0, 0), (18, .getfield 26, 3, 11, 4, 0, 10096), (21, .bipush 11, 2, 0, 0, 0, 11), (23, .if_icmp .ne 23, 3, 46, 0, 0, 0), (26, .aload_n 0, 1, 0, 0, 0, 0), (27, .getfield 9, 3, 11, 0, 2, 10091), (30, .aload_n 0, 1, 0, 0, 0, 0), (31, .getfield 23, 3, 11, 3, 0, 10095), (34, .baload, 1, 0, 0, 0, 0), (35, .bipush 61, 2, 0, 0, 0, 61), (37, .if_icmp .ne 9, 3, 46, 0, 0, 0), (40, .bipush 12, 2, 0, 0, 0, 12), (42, .istore_n 1, 1, 0, 0, 0, 0), (43, .goto 58, 3, 101, 0, 0, 0), (46, .nop, 0, 3, 0, 0, 0), (46, .aload_n 0, 1, 0, 0, 0, 0), (47, .getfield 26, 3, 11, 4, 0, 10096), (50, .bipush 11, 2, 0, 0, 0, 11), (52, .if_icmp .ne 23, 3, 75, 0, 0, 0), (55, .aload_n 0, 1, 0, 0, 0, 0), (56, .getfield 9, 3, 11, 0, 2, 10091), (59, .aload_n 0, 1, 0, 0, 0, 0), (60, .getfield 23, 3, 11, 3, 0, 10095), (63, .baload, 1, 0, 0, 0, 0), (64, .bipush 62, 2, 0, 0, 0, 62), (66, .if_icmp .ne 9, 3, 75, 0, 0, 0), (69, .bipush 14, 2, 0, 0, 0, 14), (71, .istore_n 1, 1, 0, 0, 0, 0), (72, .goto 29, 3, 101, 0, 0, 0), (75, .nop, 0, 3, 0, 0, 0), (75, .aload_n 0, 1, 0, 0, 0, 0), (76, .getfield 26, 3, 11, 4, 0, 10096), (79, .bipush 16, 2, 0, 0, 0, 16), (81, .if_icmp .ne 20, 3, 101, 0, 0, 0), (84, .aload_n 0, 1, 0, 0, 0, 0), (85, .getfield 9, 3, 11, 0, 2, 10091), (88, .aload_n 0, 1, 0, 0, 0, 0), (89, .getfield 23, 3, 11, 3, 0, 10095), (92, .baload, 1, 0, 0, 0, 0), (93, .bipush 61, 2, 0, 0, 0, 61), (95, .if_icmp .ne 6, 3, 101, 0, 0, 0), (98, .bipush 15, 2, 0, 0, 0, 15), (100, .istore_n 1, 1, 0, 0, 0, 0), (101, .nop, 0, 3, 0, 0, 0), (101, .iload_n 1, 1, 0, 0, 0, 0), (102, .aload_n 0, 1, 0, 0, 0, 0), (103, .getfield 26, 3, 11, 4, 0, 10096), (106, .if_icmp .eq 18, 3, 124, 0, 0, 0), (109, .aload_n 0, 1, 0, 0, 0, 0), (110, .iload_n 1, 1, 0, 0, 0, 0), (111, .putfield 26, 3, 11, 4, 0, 10096), (114, .aload_n 0, 1, 0, 0, 0, 0), (115, .dup, 1, 0, 0, 0, 0), (116, .getfield 23, 3, 11, 3, 0, 10095), (119, .iconst 1, 1, 0, 0, 0, 1), (120, .iadd, 1, 0, 0, 0, 0), (121, .putfield 23, 3, 11, 3, 0, 10095), (124, .nop, 0, 0, 0, 0, 0), (124, .return_, 1, 0, 0, 0, 0)]
/-- 29: SpeakClock$Tokens.advance()V -/
def cd_Tokens_advance : List mE := [(0, .nop, 0, 1, 0, 0, 0), (0, .aload_n 0, 1, 0, 0, 0, 0), (1, .getfield 23, 3, 11, 3, 0, 10095), (4, .aload_n 0, 1, 0, 0, 0, 0), (5, .getfield 19, 3, 11, 2, 0, 10094), (8, .if_icmp .ge 44, 3, 52, 0, 0, 0), (11, .aload_n 0, 1, 0, 0, 0, 0), (12, .getfield 9, 3, 11, 0, 2, 10091), (15, .aload_n 0, 1, 0, 0, 0, 0), (16, .getfield 23, 3, 11, 3, 0, 10095), (19, .baload, 1, 0, 0, 0, 0), (20, .bipush 10, 2, 0, 0, 0, 10), (22, .if_icmp .eq 17, 3, 39, 0, 0, 0), (25, .aload_n 0, 1, 0, 0, 0, 0), (26, .getfield 9, 3, 11, 0, 2, 10091), (29, .aload_n 0, 1, 0, 0, 0, 0), (30, .getfield 23, 3, 11, 3, 0, 10095), (33, .baload, 1, 0, 0, 0, 0), (34, .bipush 32, 2, 0, 0, 0, 32), (36, .if_icmp .ne 16, 3, 52, 0, 0, 0), (39, .nop, 0, 1, 0, 0, 0), (39, .aload_n 0, 1, 0, 0, 0, 0), (40, .dup, 1, 0, 0, 0, 0), (41, .getfield 23, 3, 11, 3, 0, 10095), (44, .iconst 1, 1, 0, 0, 0, 1), (45, .iadd, 1, 0, 0, 0, 0), (46, .putfield 23, 3, 11, 3, 0, 10095), (49, .goto (-49), 3, 0, 0, 0, 0), (52, .nop, 0, 1, 0, 0, 0), (52, .aload_n 0, 1, 0, 0, 0, 0), (53, .aload_n 0, 1, 0, 0, 0, 0), (54, .getfield 23, 3, 11, 3, 0, 10095), (57, .putfield 29, 3, 11, 5, 0, 10099), (60, .aload_n 0, 1, 0, 0, 0, 0), (61, .getfield 23, 3, 11, 3, 0, 10095), (64, .aload_n 0, 1, 0, 0, 0, 0), (65, .getfield 19, 3, 11, 2, 0, 10094), (68, .if_icmp .lt 11, 3, 79, 0, 0, 0), (71, .aload_n 0, 1, 0, 0, 0, 0), (72, .iconst 0, 1, 0, 0, 0, 0), (73, .putfield 26, 3, 11, 4, 0, 10096), (76, .goto 69, 3, 145, 0, 0, 0), (79, .aload_n 0, 1, 0, 0, 0, 0), (80, .aload_n 0, 1, 0, 0, 0, 0), (81, .getfield 23, 3, 11, 3, 0, 10095), (84, .invokevirtual 55, 3, 22, 2, 11, 30097), (87, .ifCond .eq 10, 3, 97, 0, 0, 0), (90, .aload_n 0, 1, 0, 0, 0, 0), (91, .invokevirtual 59, 3, 24, 1, 11, 30101), (94, .goto 51, 3, 145, 0, 0, 0), (97, .aload_n 0, 1, 0, 0, 0, 0), (98, .aload_n 0, 1, 0, 0, 0, 0), (99, .getfield 23, 3, 11, 3, 0, 10095), (102, .invokevirtual 62, 3, 25, 2, 11, 30109), (105, .ifCond .eq 10, 3, 115, 0, 0, 0), (108, .aload_n 0, 1, 0, 0, 0, 0), (109, .invokevirtual 65, 3, 26, 1, 11, 30113), (112, .goto 33, 3, 145, 0, 0, 0), (115, .aload_n 0, 1, 0, 0, 0, 0), (116, .aload_n 0, 1, 0, 0, 0, 0), (117, .getfield 9, 3, 11, 0, 2, 10091), (120, .aload_n 0, 1, 0, 0, 0, 0), (121, .getfield 23, 3, 11, 3, 0, 10095), (124, .baload, 1, 0, 0, 0, 0), (125, .invokestatic 68, 3, 27, 1, 11, 30118), (128, .putfield 26, 3, 11, 4, 0, 10096), (131, .aload_n 0, 1, 0, 0, 0, 0), (132, .dup, 1, 0, 0, 0, 0), (133, .getfield 23, 3, 11, 3, 0, 10095), (136, .iconst 1, 1, 0, 0, 0, 1), (137, .iadd, 1, 0, 0, 0, 0), (138, .putfield 23, 3, 11, 3, 0, 10095), (141, .aload_n 0, 1, 0, 0, 0, 0), (142, .invokevirtual 72, 3, 28, 1, 11, 30121), (145, .nop, 0, 0, 0, 0, 0), (145, .return_, 1, 0, 0, 0, 0)]
/-- 30: SpeakClock$Tokens.begin(I)V -/
def cd_Tokens_begin : List mE := [(0, .aload_n 0, 1, 0, 0, 0, 0), (1, .iload_n 1, 1, 0, 0, 0, 0), (2, .sipush 700, 3, 0, 0, 0, 700), (5, .invokestatic 46, 3, 1001, 2, 0, 30090), (8, .putfield 19, 3, 11, 2, 0, 10094), (11, .aload_n 0, 1, 0, 0, 0, 0), (12, .iconst 0, 1, 0, 0, 0, 0), (13, .putfield 23, 3, 11, 3, 0, 10095), (16, .aload_n 0, 1, 0, 0, 0, 0), (17, .invokevirtual 52, 3, 29, 1, 11, 30093), (20, .return_, 1, 0, 0, 0, 0)]
/-- 31: SpeakClock$LineReader.fails(I)Z -/
def cd_LineReader_fails : List mE := [(0, .aload_n 0, 1, 0, 0, 0, 0), (1, .iload_n 1, 1, 0, 0, 0, 0), (2, .putfield 34, 3, 7, 4, 0, 20055), (5, .aload_n 0, 1, 0, 0, 0, 0), (6, .aload_n 0, 1, 0, 0, 0, 0), (7, .getfield 22, 3, 7, 1, 2, 20050), (10, .getfield 94, 3, 11, 5, 0, 10100), (13, .putfield 37, 3, 7, 5, 0, 20057), (16, .iconst 0, 1, 0, 0, 0, 0), (17, .ireturn, 1, 1, 0, 0, 0)]
/-- 32: SpeakClock$Plan.numberOf(I)I -/
def cd_Plan_numberOf : List mE := [(0, .iconst 0, 1, 0, 0, 0, 0), (1, .istore_n 2, 1, 0, 0, 0, 0), (2, .nop, 0, 7, 0, 0, 0), (2, .iload_n 2, 1, 0, 0, 0, 0), (3, .aload_n 0, 1, 0, 0, 0, 0), (4, .getfield 55, 3, 9, 13, 0, 10226), (7, .if_icmp .ge 21, 3, 28, 0, 0, 0), (10, .aload_n 0, 1, 0, 0, 0, 0), (11, .getfield 9, 3, 9, 0, 2, 10182), (14, .iload_n 2, 1, 0, 0, 0, 0), (15, .iaload, 1, 0, 0, 0, 0), (16, .iload_n 1, 1, 0, 0, 0, 0), (17, .if_icmp .ne 5, 3, 22, 0, 0, 0), (20, .iload_n 2, 1, 0, 0, 0, 0), (21, .ireturn, 1, 0, 0, 0, 0), (22, .iinc 2 1, 3, 0, 0, 0, 0), (25, .goto (-23), 3, 2, 0, 0, 0), (28, .iconst (-1), 1, 0, 0, 0, (-1)), (29, .ireturn, 1, 0, 0, 0, 0)]
/-- 33: SpeakClock$LineReader.readsNumber(II)Z -/
def cd_LineReader_readsNumber : List mE := [(0, .aload_n 0, 1, 0, 0, 0, 0), (1, .getfield 22, 3, 7, 1, 2, 20050), (4, .getfield 59, 3, 11, 4, 0, 10098), (7, .iconst 2, 1, 0, 0, 0, 2), (8, .if_icmp .eq 9, 3, 17, 0, 0, 0), (11, .aload_n 0, 1, 0, 0, 0, 0), (12, .iconst 1, 1, 0, 0, 0, 1), (13, .invokevirtual 90, 3, 31, 2, 7, 30133), (16, .ireturn, 1, 1, 0, 0, 0), (17, .aload_n 0, 1, 0, 0, 0, 0), (18, .getfield 22, 3, 7, 1, 2, 20050), (21, .getfield 98, 3, 11, 6, 0, 10103), (24, .iload_n 1, 1, 0, 0, 0, 0), (25, .if_icmp .lt 14, 3, 39, 0, 0, 0), (28, .aload_n 0, 1, 0, 0, 0, 0), (29, .getfield 22, 3, 7, 1, 2, 20050), (32, .getfield 98, 3, 11, 6, 0, 10103), (35, .iload_n 2, 1, 0, 0, 0, 0), (36, .if_icmp .le 9, 3, 45, 0, 0, 0), (39, .nop, 0, 1, 0, 0, 0), (39, .aload_n 0, 1, 0, 0, 0, 0), (40, .iconst 2, 1, 0, 0, 0, 2), (41, .invokevirtual 90, 3, 31, 2, 7, 30133), (44, .ireturn, 1, 1, 0, 0, 0), (45, .aload_n 0, 1, 0, 0, 0, 0), (46, .aload_n 0, 1, 0, 0, 0, 0), (47, .getfield 22, 3, 7, 1, 2, 20050), (50, .getfield 98, 3, 11, 6, 0, 10103), (53, .putfield 40, 3, 7, 6, 0, 20059), (56, .aload_n 0, 1, 0, 0, 0, 0), (57, .getfield 22, 3, 7, 1, 2, 20050), (60, .invokevirtual 95, 3, 29, 1, 11, 30137), (63, .iconst 1, 1, 0, 0, 0, 1), (64, .ireturn, 1, 1, 0, 0, 0)]
/-- 34: SpeakClock$LineReader.skipsMinus()Z -/
def cd_LineReader_skipsMinus : List mE := [(0, .aload_n 0, 1, 0, 0, 0, 0), (1, .getfield 22, 3, 7, 1, 2, 20050), (4, .getfield 59, 3, 11, 4, 0, 10098), (7, .bipush 8, 2, 0, 0, 0, 8), (9, .if_icmp .eq 5, 3, 14, 0, 0, 0), (12, .iconst 0, 1, 0, 0, 0, 0), (13, .ireturn, 1, 1, 0, 0, 0), (14, .aload_n 0, 1, 0, 0, 0, 0), (15, .getfield 22, 3, 7, 1, 2, 20050), (18, .invokevirtual 95, 3, 29, 1, 11, 30137), (21, .iconst 1, 1, 0, 0, 0, 1), (22, .ireturn, 1, 1, 0, 0, 0)]
/-- 35: SpeakClock$LineReader.readsMan()Z -/
def cd_LineReader_readsMan : List mE := [(0, .aload_n 0, 1, 0, 0, 0, 0), (1, .getfield 26, 3, 7, 2, 2, 20051), (4, .getfield 108, 3, 9, 13, 0, 10228), (7, .istore_n 1, 1, 0, 0, 0, 0), (8, .iload_n 1, 1, 0, 0, 0, 0), (9, .bipush 6, 2, 0, 0, 0, 6), (11, .if_icmp .lt 9, 3, 20, 0, 0, 0), (14, .aload_n 0, 1, 0, 0, 0, 0), (15, .iconst 2, 1, 0, 0, 0, 2), (16, .invokevirtual 90, 3, 31, 2, 7, 30133), (19, .ireturn, 1, 1, 0, 0, 0), (20, .aload_n 0, 1, 0, 0, 0, 0), (21, .getfield 22, 3, 7, 1, 2, 20050), (24, .invokevirtual 95, 3, 29, 1, 11, 30137), (27, .aload_n 0, 1, 0, 0, 0, 0), (28, .getfield 22, 3, 7, 1, 2, 20050), (31, .getfield 59, 3, 11, 4, 0, 10098), (34, .iconst 3, 1, 0, 0, 0, 3), (35, .if_icmp .eq 9, 3, 44, 0, 0, 0), (38, .aload_n 0, 1, 0, 0, 0, 0), (39, .iconst 1, 1, 0, 0, 0, 1), (40, .invokevirtual 90, 3, 31, 2, 7, 30133), (43, .ireturn, 1, 1, 0, 0, 0), (44, .aload_n 0, 1, 0, 0, 0, 0), (45, .getfield 26, 3, 7, 2, 2, 20051), (48, .aload_n 0, 1, 0, 0, 0, 0), (49, .getfield 22, 3, 7, 1, 2, 20050), (52, .getfield 101, 3, 11, 7, 0, 10105), (55, .invokevirtual 104, 3, 32, 2, 9, 30138), (58, .iconst (-1), 1, 0, 0, 0, (-1)), (59, .if_icmp .eq 9, 3, 68, 0, 0, 0), (62, .aload_n 0, 1, 0, 0, 0, 0), (63, .iconst 3, 1, 0, 0, 0, 3), (64, .invokevirtual 90, 3, 31, 2, 7, 30133), (67, .ireturn, 1, 1, 0, 0, 0), (68, .aload_n 0, 1, 0, 0, 0, 0), (69, .getfield 26, 3, 7, 2, 2, 20051), (72, .getfield 111, 3, 9, 0, 2, 10183), (75, .iload_n 1, 1, 0, 0, 0, 0), (76, .aload_n 0, 1, 0, 0, 0, 0), (77, .getfield 22, 3, 7, 1, 2, 20050), (80, .getfield 101, 3, 11, 7, 0, 10105), (83, .iastore, 1, 0, 0, 0, 0), (84, .aload_n 0, 1, 0, 0, 0, 0), (85, .getfield 22, 3, 7, 1, 2, 20050), (88, .invokevirtual 95, 3, 29, 1, 11, 30137), (91, .aload_n 0, 1, 0, 0, 0, 0), (92, .iconst 1, 1, 0, 0, 0, 1), (93, .bipush 9, 2, 0, 0, 0, 9), (95, .invokevirtual 115, 3, 33, 3, 7, 30142), (98, .ifCond .ne 5, 3, 103, 0, 0, 0), (101, .iconst 0, 1, 0, 0, 0, 0), (102, .ireturn, 1, 1, 0, 0, 0), (103, .aload_n 0, 1, 0, 0, 0, 0), (104, .getfield 26, 3, 7, 2, 2, 20051), (107, .getfield 119, 3, 9, 1, 2, 10187), (110, .iload_n 1, 1, 0, 0, 0, 0), (111, .aload_n 0, 1, 0, 0, 0, 0), (112, .getfield 40, 3, 7, 6, 0, 20059), (115, .iastore, 1, 0, 0, 0, 0), (116, .aload_n 0, 1, 0, 0, 0, 0), (117, .iconst 0, 1, 0, 0, 0, 0), (118, .bipush 30, 2, 0, 0, 0, 30), (120, .invokevirtual 115, 3, 33, 3, 7, 30142), (123, .ifCond .ne 5, 3, 128, 0, 0, 0), (126, .iconst 0, 1, 0, 0, 0, 0), (127, .ireturn, 1, 1, 0, 0, 0), (128, .aload_n 0, 1, 0, 0, 0, 0), (129, .getfield 26, 3, 7, 2, 2, 20051), (132, .getfield 122, 3, 9, 2, 2, 10191), (135, .iload_n 1, 1, 0, 0, 0, 0), (136, .aload_n 0, 1, 0, 0, 0, 0), (137, .getfield 40, 3, 7, 6, 0, 20059), (140, .iastore, 1, 0, 0, 0, 0), (141, .aload_n 0, 1, 0, 0, 0, 0), (142, .invokevirtual 125, 3, 34, 1, 7, 30146), (145, .istore_n 2, 1, 0, 0, 0, 0), (146, .aload_n 0, 1, 0, 0, 0, 0), (147, .iconst 0, 1, 0, 0, 0, 0), (148, .bipush 30, 2, 0, 0, 0, 30), (150, .invokevirtual 115, 3, 33, 3, 7, 30142), (153, .ifCond .ne 5, 3, 158, 0, 0, 0), (156, .iconst 0, 1, 0, 0, 0, 0), (157, .ireturn, 1, 1, 0, 0, 0), (158, .aload_n 0, 1, 0, 0, 0, 0), (159, .getfield 26, 3, 7, 2, 2, 20051), (162, .getfield 128, 3, 9, 3, 2, 10194), (165, .iload_n 1, 1, 0, 0, 0, 0), (166, .iload_n 2, 1, 0, 0, 0, 0), (167, .ifCond .eq 11, 3, 178, 0, 0, 0), (170, .aload_n 0, 1, 0, 0, 0, 0), (171, .getfield 40, 3, 7, 6, 0, 20059), (174, .ineg, 1, 0, 0, 0, 0), (175, .goto 7, 3, 182, 0, 0, 0), (178, .aload_n 0, 1, 0, 0, 0, 0), (179, .getfield 40, 3, 7, 6, 0, 20059), (182, .nop, 0, 3, 0, 0, 0), (182, .iastore, 1, 0, 0, 0, 0), (183, .aload_n 0, 1, 0, 0, 0, 0), (184, .invokevirtual 125, 3, 34, 1, 7, 30146), (187, .istore_n 3, 1, 0, 0, 0, 0), (188, .aload_n 0, 1, 0, 0, 0, 0), (189, .iconst 0, 1, 0, 0, 0, 0), (190, .bipush 9, 2, 0, 0, 0, 9), (192, .invokevirtual 115, 3, 33, 3, 7, 30142), (195, .ifCond .ne 5, 3, 200, 0, 0, 0), (198, .iconst 0, 1, 0, 0, 0, 0), (199, .ireturn, 1, 1, 0, 0, 0), (200, .aload_n 0, 1, 0, 0, 0, 0), (201, .getfield 26, 3, 7, 2, 2, 20051), (204, .getfield 131, 3, 9, 4, 2, 10198), (207, .iload_n 1, 1, 0, 0, 0, 0), (208, .iload_n 3, 1, 0, 0, 0, 0), (209, .ifCond .eq 11, 3, 220, 0, 0, 0), (212, .aload_n 0, 1, 0, 0, 0, 0), (213, .getfield 40, 3, 7, 6, 0, 20059), (216, .ineg, 1, 0, 0, 0, 0), (217, .goto 7, 3, 224, 0, 0, 0), (220, .aload_n 0, 1, 0, 0, 0, 0), (221, .getfield 40, 3, 7, 6, 0, 20059), (224, .nop, 0, 1, 0, 0, 0), (224, .iastore, 1, 0, 0, 0, 0), (225, .aload_n 0, 1, 0, 0, 0, 0), (226, .getfield 26, 3, 7, 2, 2, 20051), (229, .dup, 1, 0, 0, 0, 0), (230, .getfield 108, 3, 9, 13, 0, 10228), (233, .iconst 1, 1, 0, 0, 0, 1), (234, .iadd, 1, 0, 0, 0, 0), (235, .putfield 108, 3, 9, 13, 0, 10228), (238, .iconst 1, 1, 0, 0, 0, 1), (239, .ireturn, 1, 1, 0, 0, 0)]
/-- 36: SpeakClock$LineReader.readsEnd()Z -/
def cd_LineReader_readsEnd : List mE := [(0, .aload_n 0, 1, 0, 0, 0, 0), (1, .getfield 22, 3, 7, 1, 2, 20050), (4, .getfield 59, 3, 11, 4, 0, 10098), (7, .iconst 4, 1, 0, 0, 0, 4), (8, .if_icmp .eq 9, 3, 17, 0, 0, 0), (11, .aload_n 0, 1, 0, 0, 0, 0), (12, .iconst 1, 1, 0, 0, 0, 1), (13, .invokevirtual 90, 3, 31, 2, 7, 30133), (16, .ireturn, 1, 1, 0, 0, 0), (17, .aload_n 0, 1, 0, 0, 0, 0), (18, .getfield 22, 3, 7, 1, 2, 20050), (21, .invokevirtual 95, 3, 29, 1, 11, 30137), (24, .iconst 1, 1, 0, 0, 0, 1), (25, .ireturn, 1, 1, 0, 0, 0)]
/-- 37: SpeakClock$LineReader.readsPerson()Z -/
def cd_LineReader_readsPerson : List mE := [(0, .aload_n 0, 1, 0, 0, 0, 0), (1, .getfield 22, 3, 7, 1, 2, 20050), (4, .getfield 59, 3, 11, 4, 0, 10098), (7, .iconst 3, 1, 0, 0, 0, 3), (8, .if_icmp .eq 9, 3, 17, 0, 0, 0), (11, .aload_n 0, 1, 0, 0, 0, 0), (12, .iconst 1, 1, 0, 0, 0, 1), (13, .invokevirtual 90, 3, 31, 2, 7, 30133), (16, .ireturn, 1, 1, 0, 0, 0), (17, .aload_n 0, 1, 0, 0, 0, 0), (18, .aload_n 0, 1, 0, 0, 0, 0), (19, .getfield 26, 3, 7, 2, 2, 20051), (22, .aload_n 0, 1, 0, 0, 0, 0), (23, .getfield 22, 3, 7, 1, 2, 20050), (26, .getfield 101, 3, 11, 7, 0, 10105), (29, .invokevirtual 104, 3, 32, 2, 9, 30138), (32, .putfield 40, 3, 7, 6, 0, 20059), (35, .aload_n 0, 1, 0, 0, 0, 0), (36, .getfield 40, 3, 7, 6, 0, 20059), (39, .iconst (-1), 1, 0, 0, 0, (-1)), (40, .if_icmp .ne 9, 3, 49, 0, 0, 0), (43, .aload_n 0, 1, 0, 0, 0, 0), (44, .iconst 4, 1, 0, 0, 0, 4), (45, .invokevirtual 90, 3, 31, 2, 7, 30133), (48, .ireturn, 1, 1, 0, 0, 0), (49, .aload_n 0, 1, 0, 0, 0, 0), (50, .getfield 22, 3, 7, 1, 2, 20050), (53, .invokevirtual 95, 3, 29, 1, 11, 30137), (56, .iconst 1, 1, 0, 0, 0, 1), (57, .ireturn, 1, 1, 0, 0, 0)]
/-- 38: SpeakClock$LineReader.readsRing()Z -/
def cd_LineReader_readsRing : List mE := [(0, .aload_n 0, 1, 0, 0, 0, 0), (1, .getfield 26, 3, 7, 2, 2, 20051), (4, .getfield 134, 3, 9, 14, 0, 10233), (7, .istore_n 1, 1, 0, 0, 0, 0), (8, .iload_n 1, 1, 0, 0, 0, 0), (9, .bipush 10, 2, 0, 0, 0, 10), (11, .if_icmp .lt 9, 3, 20, 0, 0, 0), (14, .aload_n 0, 1, 0, 0, 0, 0), (15, .iconst 2, 1, 0, 0, 0, 2), (16, .invokevirtual 90, 3, 31, 2, 7, 30133), (19, .ireturn, 1, 1, 0, 0, 0), (20, .aload_n 0, 1, 0, 0, 0, 0), (21, .getfield 22, 3, 7, 1, 2, 20050), (24, .invokevirtual 95, 3, 29, 1, 11, 30137), (27, .aload_n 0, 1, 0, 0, 0, 0), (28, .invokevirtual 137, 3, 37, 1, 7, 30158), (31, .ifCond .ne 5, 3, 36, 0, 0, 0), (34, .iconst 0, 1, 0, 0, 0, 0), (35, .ireturn, 1, 1, 0, 0, 0), (36, .aload_n 0, 1, 0, 0, 0, 0), (37, .getfield 26, 3, 7, 2, 2, 20051), (40, .getfield 140, 3, 9, 5, 2, 10201), (43, .iload_n 1, 1, 0, 0, 0, 0), (44, .aload_n 0, 1, 0, 0, 0, 0), (45, .getfield 40, 3, 7, 6, 0, 20059), (48, .iastore, 1, 0, 0, 0, 0), (49, .aload_n 0, 1, 0, 0, 0, 0), (50, .iconst 0, 1, 0, 0, 0, 0), (51, .sipush 200, 3, 0, 0, 0, 200), (54, .invokevirtual 115, 3, 33, 3, 7, 30142), (57, .ifCond .ne 5, 3, 62, 0, 0, 0), (60, .iconst 0, 1, 0, 0, 0, 0), (61, .ireturn, 1, 1, 0, 0, 0), (62, .aload_n 0, 1, 0, 0, 0, 0), (63, .getfield 26, 3, 7, 2, 2, 20051), (66, .getfield 143, 3, 9, 6, 2, 10204), (69, .iload_n 1, 1, 0, 0, 0, 0), (70, .aload_n 0, 1, 0, 0, 0, 0), (71, .getfield 40, 3, 7, 6, 0, 20059), (74, .iastore, 1, 0, 0, 0, 0), (75, .aload_n 0, 1, 0, 0, 0, 0), (76, .getfield 26, 3, 7, 2, 2, 20051), (79, .dup, 1, 0, 0, 0, 0), (80, .getfield 134, 3, 9, 14, 0, 10233), (83, .iconst 1, 1, 0, 0, 0, 1), (84, .iadd, 1, 0, 0, 0, 0), (85, .putfield 134, 3, 9, 14, 0, 10233), (88, .iconst 1, 1, 0, 0, 0, 1), (89, .ireturn, 1, 1, 0, 0, 0)]
/-- 39: SpeakClock$LineReader.readsMeet()Z -/
def cd_LineReader_readsMeet : List mE := [(0, .aload_n 0, 1, 0, 0, 0, 0), (1, .getfield 26, 3, 7, 2, 2, 20051), (4, .getfield 146, 3, 9, 15, 0, 10238), (7, .istore_n 1, 1, 0, 0, 0, 0), (8, .iload_n 1, 1, 0, 0, 0, 0), (9, .bipush 6, 2, 0, 0, 0, 6), (11, .if_icmp .lt 9, 3, 20, 0, 0, 0), (14, .aload_n 0, 1, 0, 0, 0, 0), (15, .iconst 2, 1, 0, 0, 0, 2), (16, .invokevirtual 90, 3, 31, 2, 7, 30133), (19, .ireturn, 1, 1, 0, 0, 0), (20, .aload_n 0, 1, 0, 0, 0, 0), (21, .getfield 22, 3, 7, 1, 2, 20050), (24, .invokevirtual 95, 3, 29, 1, 11, 30137), (27, .aload_n 0, 1, 0, 0, 0, 0), (28, .invokevirtual 137, 3, 37, 1, 7, 30158), (31, .ifCond .ne 5, 3, 36, 0, 0, 0), (34, .iconst 0, 1, 0, 0, 0, 0), (35, .ireturn, 1, 1, 0, 0, 0), (36, .aload_n 0, 1, 0, 0, 0, 0), (37, .getfield 26, 3, 7, 2, 2, 20051), (40, .getfield 149, 3, 9, 7, 2, 10207), (43, .iload_n 1, 1, 0, 0, 0, 0), (44, .aload_n 0, 1, 0, 0, 0, 0), (45, .getfield 40, 3, 7, 6, 0, 20059), (48, .iastore, 1, 0, 0, 0, 0), (49, .aload_n 0, 1, 0, 0, 0, 0), (50, .getfield 22, 3, 7, 1, 2, 20050), (53, .getfield 59, 3, 11, 4, 0, 10098), (56, .iconst 3, 1, 0, 0, 0, 3), (57, .if_icmp .ne 30, 3, 87, 0, 0, 0), (60, .aload_n 0, 1, 0, 0, 0, 0), (61, .getfield 26, 3, 7, 2, 2, 20051), (64, .aload_n 0, 1, 0, 0, 0, 0), (65, .getfield 22, 3, 7, 1, 2, 20050), (68, .getfield 101, 3, 11, 7, 0, 10105), (71, .invokevirtual 104, 3, 32, 2, 9, 30138), (74, .aload_n 0, 1, 0, 0, 0, 0), (75, .getfield 40, 3, 7, 6, 0, 20059), (78, .if_icmp .ne 9, 3, 87, 0, 0, 0), (81, .aload_n 0, 1, 0, 0, 0, 0), (82, .iconst 5, 1, 0, 0, 0, 5), (83, .invokevirtual 90, 3, 31, 2, 7, 30133), (86, .ireturn, 1, 1, 0, 0, 0), (87, .nop, 0, 3, 0, 0, 0), (87, .aload_n 0, 1, 0, 0, 0, 0), (88, .invokevirtual 137, 3, 37, 1, 7, 30158), (91, .ifCond .ne 5, 3, 96, 0, 0, 0), (94, .iconst 0, 1, 0, 0, 0, 0), (95, .ireturn, 1, 1, 0, 0, 0), (96, .aload_n 0, 1, 0, 0, 0, 0), (97, .getfield 26, 3, 7, 2, 2, 20051), (100, .getfield 152, 3, 9, 8, 2, 10211), (103, .iload_n 1, 1, 0, 0, 0, 0), (104, .aload_n 0, 1, 0, 0, 0, 0), (105, .getfield 40, 3, 7, 6, 0, 20059), (108, .iastore, 1, 0, 0, 0, 0), (109, .aload_n 0, 1, 0, 0, 0, 0), (110, .iconst 0, 1, 0, 0, 0, 0), (111, .sipush 300, 3, 0, 0, 0, 300), (114, .invokevirtual 115, 3, 33, 3, 7, 30142), (117, .ifCond .ne 5, 3, 122, 0, 0, 0), (120, .iconst 0, 1, 0, 0, 0, 0), (121, .ireturn, 1, 1, 0, 0, 0), (122, .aload_n 0, 1, 0, 0, 0, 0), (123, .getfield 26, 3, 7, 2, 2, 20051), (126, .getfield 155, 3, 9, 9, 2, 10215), (129, .iload_n 1, 1, 0, 0, 0, 0), (130, .aload_n 0, 1, 0, 0, 0, 0), (131, .getfield 40, 3, 7, 6, 0, 20059), (134, .iastore, 1, 0, 0, 0, 0), (135, .aload_n 0, 1, 0, 0, 0, 0), (136, .getfield 26, 3, 7, 2, 2, 20051), (139, .dup, 1, 0, 0, 0, 0), (140, .getfield 146, 3, 9, 15, 0, 10238), (143, .iconst 1, 1, 0, 0, 0, 1), (144, .iadd, 1, 0, 0, 0, 0), (145, .putfield 146, 3, 9, 15, 0, 10238), (148, .iconst 1, 1, 0, 0, 0, 1), (149, .ireturn, 1, 1, 0, 0, 0)]
/-- 40: SpeakClock$LineReader.readsCold()Z -/
def cd_LineReader_readsCold : List mE := [(0, .aload_n 0, 1, 0, 0, 0, 0), (1, .getfield 26, 3, 7, 2, 2, 20051), (4, .getfield 158, 3, 9, 16, 0, 20002), (7, .istore_n 1, 1, 0, 0, 0, 0), (8, .iload_n 1, 1, 0, 0, 0, 0), (9, .iconst 3, 1, 0, 0, 0, 3), (10, .if_icmp .lt 9, 3, 19, 0, 0, 0), (13, .aload_n 0, 1, 0, 0, 0, 0), (14, .iconst 2, 1, 0, 0, 0, 2), (15, .invokevirtual 90, 3, 31, 2, 7, 30133), (18, .ireturn, 1, 1, 0, 0, 0), (19, .aload_n 0, 1, 0, 0, 0, 0), (20, .getfield 22, 3, 7, 1, 2, 20050), (23, .invokevirtual 95, 3, 29, 1, 11, 30137), (26, .aload_n 0, 1, 0, 0, 0, 0), (27, .iconst 0, 1, 0, 0, 0, 0), (28, .sipush 200, 3, 0, 0, 0, 200), (31, .invokevirtual 115, 3, 33, 3, 7, 30142), (34, .ifCond .ne 5, 3, 39, 0, 0, 0), (37, .iconst 0, 1, 0, 0, 0, 0), (38, .ireturn, 1, 1, 0, 0, 0), (39, .aload_n 0, 1, 0, 0, 0, 0), (40, .getfield 26, 3, 7, 2, 2, 20051), (43, .getfield 161, 3, 9, 10, 2, 10218), (46, .iload_n 1, 1, 0, 0, 0, 0), (47, .aload_n 0, 1, 0, 0, 0, 0), (48, .getfield 40, 3, 7, 6, 0, 20059), (51, .iastore, 1, 0, 0, 0, 0), (52, .aload_n 0, 1, 0, 0, 0, 0), (53, .aload_n 0, 1, 0, 0, 0, 0), (54, .getfield 40, 3, 7, 6, 0, 20059), (57, .sipush 200, 3, 0, 0, 0, 200), (60, .invokevirtual 115, 3, 33, 3, 7, 30142), (63, .ifCond .ne 5, 3, 68, 0, 0, 0), (66, .iconst 0, 1, 0, 0, 0, 0), (67, .ireturn, 1, 1, 0, 0, 0), (68, .aload_n 0, 1, 0, 0, 0, 0), (69, .getfield 26, 3, 7, 2, 2, 20051), (72, .getfield 164, 3, 9, 11, 2, 10221), (75, .iload_n 1, 1, 0, 0, 0, 0), (76, .aload_n 0, 1, 0, 0, 0, 0), (77, .getfield 40, 3, 7, 6, 0, 20059), (80, .iastore, 1, 0, 0, 0, 0), (81, .aload_n 0, 1, 0, 0, 0, 0), (82, .getfield 26, 3, 7, 2, 2, 20051), (85, .dup, 1, 0, 0, 0, 0), (86, .getfield 158, 3, 9, 16, 0, 20002), (89, .iconst 1, 1, 0, 0, 0, 1), (90, .iadd, 1, 0, 0, 0, 0), (91, .putfield 158, 3, 9, 16, 0, 20002), (94, .iconst 1, 1, 0, 0, 0, 1), (95, .ireturn, 1, 1, 0, 0, 0)]
/-- 41: SpeakClock$LineReader.readsCrowd()Z -/
def cd_LineReader_readsCrowd : List mE := [(0, .aload_n 0, 1, 0, 0, 0, 0), (1, .getfield 43, 3, 7, 7, 3, 20060), (4, .ifCond .eq 9, 3, 13, 0, 0, 0), (7, .aload_n 0, 1, 0, 0, 0, 0), (8, .iconst 3, 1, 0, 0, 0, 3), (9, .invokevirtual 90, 3, 31, 2, 7, 30133), (12, .ireturn, 1, 1, 0, 0, 0), (13, .aload_n 0, 1, 0, 0, 0, 0), (14, .iconst 1, 1, 0, 0, 0, 1), (15, .putfield 43, 3, 7, 7, 3, 20060), (18, .aload_n 0, 1, 0, 0, 0, 0), (19, .getfield 22, 3, 7, 1, 2, 20050), (22, .invokevirtual 95, 3, 29, 1, 11, 30137), (25, .aload_n 0, 1, 0, 0, 0, 0), (26, .iconst 0, 1, 0, 0, 0, 0), (27, .bipush 100, 2, 0, 0, 0, 100), (29, .invokevirtual 115, 3, 33, 3, 7, 30142), (32, .ifCond .ne 5, 3, 37, 0, 0, 0), (35, .iconst 0, 1, 0, 0, 0, 0), (36, .ireturn, 1, 1, 0, 0, 0), (37, .aload_n 0, 1, 0, 0, 0, 0), (38, .getfield 26, 3, 7, 2, 2, 20051), (41, .aload_n 0, 1, 0, 0, 0, 0), (42, .getfield 40, 3, 7, 6, 0, 20059), (45, .putfield 167, 3, 9, 17, 0, 20005), (48, .iconst 1, 1, 0, 0, 0, 1), (49, .ireturn, 1, 1, 0, 0, 0)]
/-- 42: SpeakClock$LineReader.readsSeed()Z -/
def cd_LineReader_readsSeed : List mE := [(0, .aload_n 0, 1, 0, 0, 0, 0), (1, .getfield 47, 3, 7, 8, 3, 20061), (4, .ifCond .eq 9, 3, 13, 0, 0, 0), (7, .aload_n 0, 1, 0, 0, 0, 0), (8, .iconst 3, 1, 0, 0, 0, 3), (9, .invokevirtual 90, 3, 31, 2, 7, 30133), (12, .ireturn, 1, 1, 0, 0, 0), (13, .aload_n 0, 1, 0, 0, 0, 0), (14, .iconst 1, 1, 0, 0, 0, 1), (15, .putfield 47, 3, 7, 8, 3, 20061), (18, .aload_n 0, 1, 0, 0, 0, 0), (19, .getfield 22, 3, 7, 1, 2, 20050), (22, .invokevirtual 95, 3, 29, 1, 11, 30137), (25, .aload_n 0, 1, 0, 0, 0, 0), (26, .iconst 0, 1, 0, 0, 0, 0), (27, .ldc 170, 2, 30178, 0, 0, 99999), (29, .invokevirtual 115, 3, 33, 3, 7, 30142), (32, .ifCond .ne 5, 3, 37, 0, 0, 0), (35, .iconst 0, 1, 0, 0, 0, 0), (36, .ireturn, 1, 1, 0, 0, 0), (37, .aload_n 0, 1, 0, 0, 0, 0), (38, .getfield 26, 3, 7, 2, 2, 20051), (41, .aload_n 0, 1, 0, 0, 0, 0), (42, .getfield 40, 3, 7, 6, 0, 20059), (45, .putfield 171, 3, 9, 18, 0, 20008), (48, .iconst 1, 1, 0, 0, 0, 1), (49, .ireturn, 1, 1, 0, 0, 0)]
/-- 43: SpeakClock$Laws.isTold(I)Z -/
def cd_Laws_isTold : List mE := [(0, .aload_n 0, 1, 0, 0, 0, 0), (1, .getfield 21, 3, 6, 3, 2, 10158), (4, .iload_n 1, 1, 0, 0, 0, 0), (5, .iaload, 1, 0, 0, 0, 0), (6, .aload_n 0, 1, 0, 0, 0, 0), (7, .getfield 18, 3, 6, 2, 2, 10156), (10, .iload_n 1, 1, 0, 0, 0, 0), (11, .iaload, 1, 0, 0, 0, 0), (12, .if_icmp .le 7, 3, 19, 0, 0, 0), (15, .iconst 1, 1, 0, 0, 0, 1), (16, .goto 4, 3, 20, 0, 0, 0), (19, .iconst 0, 1, 0, 0, 0, 0), (20, .nop, 0, 0, 0, 0, 0), (20, .ireturn, 1, 1, 0, 0, 0)]
/-- 44: SpeakClock$LawReader.levelOf(I)I -/
def cd_LawReader_levelOf : List mE := [(0, .iload_n 0, 1, 0, 0, 0, 0), (1, .tableswitch 120 7 29 #[115, 115, 117, 117, 113, 113, 113, 113, 113, 113, 120, 120, 120, 120, 120, 120, 120, 120, 120, 120, 107, 109, 111], 107, 121, 1, 0, 0), (108, .iconst 1, 1, 0, 0, 0, 1), (109, .ireturn, 1, 0, 0, 0, 0), (110, .iconst 2, 1, 0, 0, 0, 2), (111, .ireturn, 1, 0, 0, 0, 0), (112, .iconst 3, 1, 0, 0, 0, 3), (113, .ireturn, 1, 0, 0, 0, 0), (114, .iconst 4, 1, 0, 0, 0, 4), (115, .ireturn, 1, 0, 0, 0, 0), (116, .iconst 5, 1, 0, 0, 0, 5), (117, .ireturn, 1, 0, 0, 0, 0), (118, .bipush 6, 2, 0, 0, 0, 6), (120, .ireturn, 1, 0, 0, 0, 0), (121, .iconst 0, 1, 0, 0, 0, 0), (122, .ireturn, 1, 0, 0, 0, 0)]
/-- 45: SpeakClock$Laws.add(II)V -/
def cd_Laws_add : List mE := [(0, .aload_n 0, 1, 0, 0, 0, 0), (1, .getfield 28, 3, 6, 5, 0, 10161), (4, .bipush 64, 2, 0, 0, 0, 64), (6, .if_icmp .ge 33, 3, 39, 0, 0, 0), (9, .aload_n 0, 1, 0, 0, 0, 0), (10, .getfield 9, 3, 6, 0, 2, 10154), (13, .aload_n 0, 1, 0, 0, 0, 0), (14, .getfield 28, 3, 6, 5, 0, 10161), (17, .iload_n 1, 1, 0, 0, 0, 0), (18, .iastore, 1, 0, 0, 0, 0), (19, .aload_n 0, 1, 0, 0, 0, 0), (20, .getfield 15, 3, 6, 1, 2, 10155), (23, .aload_n 0, 1, 0, 0, 0, 0), (24, .getfield 28, 3, 6, 5, 0, 10161), (27, .iload_n 2, 1, 0, 0, 0, 0), (28, .iastore, 1, 0, 0, 0, 0), (29, .aload_n 0, 1, 0, 0, 0, 0), (30, .dup, 1, 0, 0, 0, 0), (31, .getfield 28, 3, 6, 5, 0, 10161), (34, .iconst 1, 1, 0, 0, 0, 1), (35, .iadd, 1, 0, 0, 0, 0), (36, .putfield 28, 3, 6, 5, 0, 10161), (39, .nop, 0, 0, 0, 0, 0), (39, .return_, 1, 0, 0, 0, 0)]
/-- 46: SpeakClock$LawReader.unpile(LSpeakClock$Laws;I)V -/
def cd_LawReader_unpile : List mE := [(0, .nop, 0, 7, 0, 0, 0), (0, .aload_n 0, 1, 0, 0, 0, 0), (1, .getfield 22, 3, 5, 2, 0, 10128), (4, .ifCond .le 48, 3, 52, 0, 0, 0), (7, .aload_n 0, 1, 0, 0, 0, 0), (8, .getfield 18, 3, 5, 1, 2, 10127), (11, .aload_n 0, 1, 0, 0, 0, 0), (12, .getfield 22, 3, 5, 2, 0, 10128), (15, .iconst 1, 1, 0, 0, 0, 1), (16, .isub, 1, 0, 0, 0, 0), (17, .iaload, 1, 0, 0, 0, 0), (18, .invokestatic 83, 3, 44, 1, 5, 30195), (21, .iload_n 2, 1, 0, 0, 0, 0), (22, .if_icmp .lt 30, 3, 52, 0, 0, 0), (25, .aload_n 0, 1, 0, 0, 0, 0), (26, .dup, 1, 0, 0, 0, 0), (27, .getfield 22, 3, 5, 2, 0, 10128), (30, .iconst 1, 1, 0, 0, 0, 1), (31, .isub, 1, 0, 0, 0, 0), (32, .putfield 22, 3, 5, 2, 0, 10128), (35, .aload_n 1, 1, 0, 0, 0, 0), (36, .aload_n 0, 1, 0, 0, 0, 0), (37, .getfield 18, 3, 5, 1, 2, 10127), (40, .aload_n 0, 1, 0, 0, 0, 0), (41, .getfield 22, 3, 5, 2, 0, 10128), (44, .iaload, 1, 0, 0, 0, 0), (45, .iconst 0, 1, 0, 0, 0, 0), (46, .invokevirtual 79, 3, 45, 3, 6, 30198), (49, .goto (-49), 3, 0, 0, 0, 0), (52, .nop, 0, 0, 0, 0, 0), (52, .return_, 1, 0, 0, 0, 0)]
/-- 47: SpeakClock$LawReader.pileUp(I)V -/
def cd_LawReader_pileUp : List mE := [(0, .aload_n 0, 1, 0, 0, 0, 0), (1, .getfield 22, 3, 5, 2, 0, 10128), (4, .aload_n 0, 1, 0, 0, 0, 0), (5, .getfield 18, 3, 5, 1, 2, 10127), (8, .arraylength, 1, 0, 0, 0, 0), (9, .if_icmp .ge 23, 3, 32, 0, 0, 0), (12, .aload_n 0, 1, 0, 0, 0, 0), (13, .getfield 18, 3, 5, 1, 2, 10127), (16, .aload_n 0, 1, 0, 0, 0, 0), (17, .getfield 22, 3, 5, 2, 0, 10128), (20, .iload_n 1, 1, 0, 0, 0, 0), (21, .iastore, 1, 0, 0, 0, 0), (22, .aload_n 0, 1, 0, 0, 0, 0), (23, .dup, 1, 0, 0, 0, 0), (24, .getfield 22, 3, 5, 2, 0, 10128), (27, .iconst 1, 1, 0, 0, 0, 1), (28, .iadd, 1, 0, 0, 0, 0), (29, .putfield 22, 3, 5, 2, 0, 10128), (32, .nop, 0, 0, 0, 0, 0), (32, .return_, 1, 0, 0, 0, 0)]
/-- 48: SpeakClock$LawReader.topLevel()I -/
def cd_LawReader_topLevel : List mE := [(0, .aload_n 0, 1, 0, 0, 0, 0), (1, .getfield 22, 3, 5, 2, 0, 10128), (4, .ifCond .le 20, 3, 24, 0, 0, 0), (7, .aload_n 0, 1, 0, 0, 0, 0), (8, .getfield 18, 3, 5, 1, 2, 10127), (11, .aload_n 0, 1, 0, 0, 0, 0), (12, .getfield 22, 3, 5, 2, 0, 10128), (15, .iconst 1, 1, 0, 0, 0, 1), (16, .isub, 1, 0, 0, 0, 0), (17, .iaload, 1, 0, 0, 0, 0), (18, .invokestatic 83, 3, 44, 1, 5, 30195), (21, .goto 4, 3, 25, 0, 0, 0), (24, .iconst 0, 1, 0, 0, 0, 0), (25, .nop, 0, 0, 0, 0, 0), (25, .ireturn, 1, 0, 0, 0, 0)]
/-- 49: SpeakClock$LawReader.pilesKnot(LSpeakClock$Laws;I)I -/
def cd_LawReader_pilesKnot : List mE := [(0, .aload_n 1, 1, 0, 0, 0, 0), (1, .getfield 73, 3, 6, 6, 0, 10164), (4, .bipush 64, 2, 0, 0, 0, 64), (6, .if_icmp .lt 5, 3, 11, 0, 0, 0), (9, .iconst 2, 1, 0, 0, 0, 2), (10, .ireturn, 1, 0, 0, 0, 0), (11, .aload_n 1, 1, 0, 0, 0, 0), (12, .dup, 1, 0, 0, 0, 0), (13, .getfield 73, 3, 6, 6, 0, 10164), (16, .iconst 1, 1, 0, 0, 0, 1), (17, .iadd, 1, 0, 0, 0, 0), (18, .putfield 73, 3, 6, 6, 0, 10164), (21, .aload_n 0, 1, 0, 0, 0, 0), (22, .iload_n 2, 1, 0, 0, 0, 0), (23, .invokevirtual 61, 3, 47, 2, 5, 30206), (26, .iconst 0, 1, 0, 0, 0, 0), (27, .ireturn, 1, 0, 0, 0, 0)]
/-- 50: SpeakClock$LawReader.takesValue(LSpeakClock$Laws;)I -/
def cd_LawReader_takesValue : List mE := [(0, .aload_n 0, 1, 0, 0, 0, 0), (1, .getfield 12, 3, 5, 0, 2, 10125), (4, .getfield 38, 3, 11, 4, 0, 10097), (7, .istore_n 2, 1, 0, 0, 0, 0), (8, .iload_n 2, 1, 0, 0, 0, 0), (9, .iconst 5, 1, 0, 0, 0, 5), (10, .if_icmp .ne 31, 3, 41, 0, 0, 0), (13, .aload_n 0, 1, 0, 0, 0, 0), (14, .getfield 26, 3, 5, 3, 0, 10129), (17, .bipush 8, 2, 0, 0, 0, 8), (19, .if_icmp .lt 5, 3, 24, 0, 0, 0), (22, .iconst 2, 1, 0, 0, 0, 2), (23, .ireturn, 1, 0, 0, 0, 0), (24, .aload_n 0, 1, 0, 0, 0, 0), (25, .dup, 1, 0, 0, 0, 0), (26, .getfield 26, 3, 5, 3, 0, 10129), (29, .iconst 1, 1, 0, 0, 0, 1), (30, .iadd, 1, 0, 0, 0, 0), (31, .putfield 26, 3, 5, 3, 0, 10129), (34, .aload_n 0, 1, 0, 0, 0, 0), (35, .iconst 5, 1, 0, 0, 0, 5), (36, .invokevirtual 61, 3, 47, 2, 5, 30206), (39, .iconst 0, 1, 0, 0, 0, 0), (40, .ireturn, 1, 0, 0, 0, 0), (41, .iload_n 2, 1, 0, 0, 0, 0), (42, .bipush 29, 2, 0, 0, 0, 29), (44, .if_icmp .ne 23, 3, 67, 0, 0, 0), (47, .aload_n 0, 1, 0, 0, 0, 0), (48, .invokevirtual 65, 3, 48, 1, 5, 30210), (51, .iconst 3, 1, 0, 0, 0, 3), (52, .if_icmp .le 7, 3, 59, 0, 0, 0), (55, .iconst 1, 1, 0, 0, 0, 1), (56, .goto 10, 3, 66, 0, 0, 0), (59, .aload_n 0, 1, 0, 0, 0, 0), (60, .aload_n 1, 1, 0, 0, 0, 0), (61, .bipush 29, 2, 0, 0, 0, 29), (63, .invokevirtual 69, 3, 49, 3, 5, 30214), (66, .nop, 0, 0, 0, 0, 0), (66, .ireturn, 1, 0, 0, 0, 0), (67, .iload_n 2, 1, 0, 0, 0, 0), (68, .iconst 2, 1, 0, 0, 0, 2), (69, .if_icmp .eq 11, 3, 80, 0, 0, 0), (72, .iload_n 2, 1, 0, 0, 0, 0), (73, .bipush 30, 2, 0, 0, 0, 30), (75, .if_icmp .ge 5, 3, 80, 0, 0, 0), (78, .iconst 1, 1, 0, 0, 0, 1), (79, .ireturn, 1, 0, 0, 0, 0), (80, .nop, 0, 7, 0, 0, 0), (80, .aload_n 1, 1, 0, 0, 0, 0), (81, .getfield 73, 3, 6, 6, 0, 10164), (84, .bipush 64, 2, 0, 0, 0, 64), (86, .if_icmp .ge 21, 3, 107, 0, 0, 0), (89, .iload_n 2, 1, 0, 0, 0, 0), (90, .iconst 2, 1, 0, 0, 0, 2), (91, .if_icmp .ne 18, 3, 109, 0, 0, 0), (94, .aload_n 0, 1, 0, 0, 0, 0), (95, .getfield 12, 3, 5, 0, 2, 10125), (98, .getfield 76, 3, 11, 6, 0, 10102), (101, .sipush 9999, 3, 0, 0, 0, 9999), (104, .if_icmp .le 5, 3, 109, 0, 0, 0), (107, .nop, 0, 0, 0, 0, 0), (107, .iconst 2, 1, 0, 0, 0, 2), (108, .ireturn, 1, 0, 0, 0, 0), (109, .nop, 0, 7, 0, 0, 0), (109, .aload_n 1, 1, 0, 0, 0, 0), (110, .dup, 1, 0, 0, 0, 0), (111, .getfield 73, 3, 6, 6, 0, 10164), (114, .iconst 1, 1, 0, 0, 0, 1), (115, .iadd, 1, 0, 0, 0, 0), (116, .putfield 73, 3, 6, 6, 0, 10164), (119, .aload_n 1, 1, 0, 0, 0, 0), (120, .iload_n 2, 1, 0, 0, 0, 0), (121, .aload_n 0, 1, 0, 0, 0, 0), (122, .getfield 12, 3, 5, 0, 2, 10125), (125, .getfield 76, 3, 11, 6, 0, 10102), (128, .invokevirtual 79, 3, 45, 3, 6, 30198), (131, .aload_n 0, 1, 0, 0, 0, 0), (132, .iconst 0, 1, 0, 0, 0, 0), (133, .putfield 29, 3, 5, 4, 3, 10130), (136, .iconst 0, 1, 0, 0, 0, 0), (137, .ireturn, 1, 0, 0, 0, 0)]
/-- 51: SpeakClock$LawReader.takesSign(LSpeakClock$Laws;)I -/
def cd_LawReader_takesSign : List mE := [(0, .aload_n 0, 1, 0, 0, 0, 0), (1, .getfield 12, 3, 5, 0, 2, 10125), (4, .getfield 38, 3, 11, 4, 0, 10097), (7, .istore_n 2, 1, 0, 0, 0, 0), (8, .iload_n 2, 1, 0, 0, 0, 0), (9, .bipush 6, 2, 0, 0, 0, 6), (11, .if_icmp .ne 40, 3, 51, 0, 0, 0), (14, .aload_n 0, 1, 0, 0, 0, 0), (15, .getfield 26, 3, 5, 3, 0, 10129), (18, .ifCond .gt 5, 3, 23, 0, 0, 0), (21, .iconst 1, 1, 0, 0, 0, 1), (22, .ireturn, 1, 0, 0, 0, 0), (23, .aload_n 0, 1, 0, 0, 0, 0), (24, .aload_n 1, 1, 0, 0, 0, 0), (25, .iconst 1, 1, 0, 0, 0, 1), (26, .invokevirtual 41, 3, 46, 3, 5, 30191), (29, .aload_n 0, 1, 0, 0, 0, 0), (30, .dup, 1, 0, 0, 0, 0), (31, .getfield 22, 3, 5, 2, 0, 10128), (34, .iconst 1, 1, 0, 0, 0, 1), (35, .isub, 1, 0, 0, 0, 0), (36, .putfield 22, 3, 5, 2, 0, 10128), (39, .aload_n 0, 1, 0, 0, 0, 0), (40, .dup, 1, 0, 0, 0, 0), (41, .getfield 26, 3, 5, 3, 0, 10129), (44, .iconst 1, 1, 0, 0, 0, 1), (45, .isub, 1, 0, 0, 0, 0), (46, .putfield 26, 3, 5, 3, 0, 10129), (49, .iconst 0, 1, 0, 0, 0, 0), (50, .ireturn, 1, 0, 0, 0, 0), (51, .iload_n 2, 1, 0, 0, 0, 0), (52, .invokestatic 83, 3, 44, 1, 5, 30195), (55, .istore_n 3, 1, 0, 0, 0, 0), (56, .iload_n 3, 1, 0, 0, 0, 0), (57, .ifCond .eq 8, 3, 65, 0, 0, 0), (60, .iload_n 3, 1, 0, 0, 0, 0), (61, .iconst 3, 1, 0, 0, 0, 3), (62, .if_icmp .ne 5, 3, 67, 0, 0, 0), (65, .nop, 0, 0, 0, 0, 0), (65, .iconst 1, 1, 0, 0, 0, 1), (66, .ireturn, 1, 0, 0, 0, 0), (67, .iload_n 3, 1, 0, 0, 0, 0), (68, .iconst 4, 1, 0, 0, 0, 4), (69, .if_icmp .ne 21, 3, 90, 0, 0, 0), (72, .aload_n 0, 1, 0, 0, 0, 0), (73, .aload_n 1, 1, 0, 0, 0, 0), (74, .iload_n 3, 1, 0, 0, 0, 0), (75, .iconst 1, 1, 0, 0, 0, 1), (76, .iadd, 1, 0, 0, 0, 0), (77, .invokevirtual 41, 3, 46, 3, 5, 30191), (80, .aload_n 0, 1, 0, 0, 0, 0), (81, .invokevirtual 65, 3, 48, 1, 5, 30210), (84, .iload_n 3, 1, 0, 0, 0, 0), (85, .if_icmp .ne 5, 3, 90, 0, 0, 0), (88, .iconst 1, 1, 0, 0, 0, 1), (89, .ireturn, 1, 0, 0, 0, 0), (90, .nop, 0, 15, 0, 0, 0), (90, .aload_n 0, 1, 0, 0, 0, 0), (91, .aload_n 1, 1, 0, 0, 0, 0), (92, .iload_n 3, 1, 0, 0, 0, 0), (93, .invokevirtual 41, 3, 46, 3, 5, 30191), (96, .aload_n 0, 1, 0, 0, 0, 0), (97, .iconst 1, 1, 0, 0, 0, 1), (98, .putfield 29, 3, 5, 4, 3, 10130), (101, .aload_n 0, 1, 0, 0, 0, 0), (102, .aload_n 1, 1, 0, 0, 0, 0), (103, .iload_n 2, 1, 0, 0, 0, 0), (104, .invokevirtual 69, 3, 49, 3, 5, 30214), (107, .ireturn, 1, 0, 0, 0, 0)]
/-- 52: SpeakClock$LawReader.readsLaw(LSpeakClock$Laws;I)I -/
def cd_LawReader_readsLaw : List mE := [(0, .aload_n 0, 1, 0, 0, 0, 0), (1, .iconst 0, 1, 0, 0, 0, 0), (2, .putfield 22, 3, 5, 2, 0, 10128), (5, .aload_n 0, 1, 0, 0, 0, 0), (6, .iconst 0, 1, 0, 0, 0, 0), (7, .putfield 26, 3, 5, 3, 0, 10129), (10, .aload_n 0, 1, 0, 0, 0, 0), (11, .iconst 1, 1, 0, 0, 0, 1), (12, .putfield 29, 3, 5, 4, 3, 10130), (15, .aload_n 1, 1, 0, 0, 0, 0), (16, .getfield 33, 3, 6, 5, 0, 10162), (19, .istore_n 3, 1, 0, 0, 0, 0), (20, .iconst 0, 1, 0, 0, 0, 0), (21, .istore 4, 2, 0, 0, 0, 0), (23, .nop, 0, 31, 0, 0, 0), (23, .iload 4, 2, 0, 0, 0, 0), (25, .sipush 700, 3, 0, 0, 0, 700), (28, .if_icmp .gt 96, 3, 124, 0, 0, 0), (31, .aload_n 0, 1, 0, 0, 0, 0), (32, .getfield 29, 3, 5, 4, 3, 10130), (35, .ifCond .ne 46, 3, 81, 0, 0, 0), (38, .aload_n 0, 1, 0, 0, 0, 0), (39, .getfield 26, 3, 5, 3, 0, 10129), (42, .ifCond .ne 39, 3, 81, 0, 0, 0), (45, .aload_n 0, 1, 0, 0, 0, 0), (46, .getfield 12, 3, 5, 0, 2, 10125), (49, .getfield 38, 3, 11, 4, 0, 10097), (52, .iconst 4, 1, 0, 0, 0, 4), (53, .if_icmp .ne 28, 3, 81, 0, 0, 0), (56, .aload_n 0, 1, 0, 0, 0, 0), (57, .aload_n 1, 1, 0, 0, 0, 0), (58, .iconst 1, 1, 0, 0, 0, 1), (59, .invokevirtual 41, 3, 46, 3, 5, 30191), (62, .aload_n 1, 1, 0, 0, 0, 0), (63, .getfield 45, 3, 6, 2, 2, 10157), (66, .iload_n 2, 1, 0, 0, 0, 0), (67, .iload_n 3, 1, 0, 0, 0, 0), (68, .iastore, 1, 0, 0, 0, 0), (69, .aload_n 1, 1, 0, 0, 0, 0), (70, .getfield 48, 3, 6, 3, 2, 10159), (73, .iload_n 2, 1, 0, 0, 0, 0), (74, .aload_n 1, 1, 0, 0, 0, 0), (75, .getfield 33, 3, 6, 5, 0, 10162), (78, .iastore, 1, 0, 0, 0, 0), (79, .iconst 0, 1, 0, 0, 0, 0), (80, .ireturn, 1, 0, 0, 0, 0), (81, .nop, 0, 31, 0, 0, 0), (81, .aload_n 0, 1, 0, 0, 0, 0), (82, .getfield 29, 3, 5, 4, 3, 10130), (85, .ifCond .eq 11, 3, 96, 0, 0, 0), (88, .aload_n 0, 1, 0, 0, 0, 0), (89, .aload_n 1, 1, 0, 0, 0, 0), (90, .invokevirtual 51, 3, 50, 2, 5, 30202), (93, .goto 8, 3, 101, 0, 0, 0), (96, .aload_n 0, 1, 0, 0, 0, 0), (97, .aload_n 1, 1, 0, 0, 0, 0), (98, .invokevirtual 55, 3, 51, 2, 5, 30218), (101, .nop, 0, 31, 0, 0, 0), (101, .istore 5, 2, 0, 0, 0, 0), (103, .iload 5, 2, 0, 0, 0, 0), (105, .ifCond .eq 6, 3, 111, 0, 0, 0), (108, .iload 5, 2, 0, 0, 0, 0), (110, .ireturn, 1, 0, 0, 0, 0), (111, .aload_n 0, 1, 0, 0, 0, 0), (112, .getfield 12, 3, 5, 0, 2, 10125), (115, .invokevirtual 58, 3, 29, 1, 11, 30222), (118, .iinc 4 1, 3, 0, 0, 0, 0), (121, .goto (-98), 3, 23, 0, 0, 0), (124, .iconst 1, 1, 0, 0, 0, 1), (125, .ireturn, 1, 0, 0, 0, 0)]
/-- 53: SpeakClock$LineReader.readsLaw()Z -/
def cd_LineReader_readsLaw : List mE := [(0, .aload_n 0, 1, 0, 0, 0, 0), (1, .getfield 22, 3, 7, 1, 2, 20050), (4, .invokevirtual 95, 3, 29, 1, 11, 30137), (7, .aload_n 0, 1, 0, 0, 0, 0), (8, .getfield 22, 3, 7, 1, 2, 20050), (11, .getfield 59, 3, 11, 4, 0, 10098), (14, .bipush 24, 2, 0, 0, 0, 24), (16, .if_icmp .lt 15, 3, 31, 0, 0, 0), (19, .aload_n 0, 1, 0, 0, 0, 0), (20, .getfield 22, 3, 7, 1, 2, 20050), (23, .getfield 59, 3, 11, 4, 0, 10098), (26, .bipush 26, 2, 0, 0, 0, 26), (28, .if_icmp .le 9, 3, 37, 0, 0, 0), (31, .nop, 0, 1, 0, 0, 0), (31, .aload_n 0, 1, 0, 0, 0, 0), (32, .iconst 1, 1, 0, 0, 0, 1), (33, .invokevirtual 90, 3, 31, 2, 7, 30133), (36, .ireturn, 1, 1, 0, 0, 0), (37, .aload_n 0, 1, 0, 0, 0, 0), (38, .getfield 22, 3, 7, 1, 2, 20050), (41, .getfield 59, 3, 11, 4, 0, 10098), (44, .bipush 24, 2, 0, 0, 0, 24), (46, .isub, 1, 0, 0, 0, 0), (47, .istore_n 1, 1, 0, 0, 0, 0), (48, .aload_n 0, 1, 0, 0, 0, 0), (49, .getfield 26, 3, 7, 2, 2, 20051), (52, .getfield 174, 3, 9, 12, 2, 10224), (55, .iload_n 1, 1, 0, 0, 0, 0), (56, .invokevirtual 178, 3, 43, 2, 6, 30183), (59, .ifCond .eq 9, 3, 68, 0, 0, 0), (62, .aload_n 0, 1, 0, 0, 0, 0), (63, .iconst 3, 1, 0, 0, 0, 3), (64, .invokevirtual 90, 3, 31, 2, 7, 30133), (67, .ireturn, 1, 1, 0, 0, 0), (68, .aload_n 0, 1, 0, 0, 0, 0), (69, .getfield 22, 3, 7, 1, 2, 20050), (72, .invokevirtual 95, 3, 29, 1, 11, 30137), (75, .aload_n 0, 1, 0, 0, 0, 0), (76, .getfield 12, 3, 7, 0, 2, 20048), (79, .aload_n 0, 1, 0, 0, 0, 0), (80, .getfield 26, 3, 7, 2, 2, 20051), (83, .getfield 174, 3, 9, 12, 2, 10224), (86, .iload_n 1, 1, 0, 0, 0, 0), (87, .invokevirtual 183, 3, 52, 3, 5, 30187), (90, .istore_n 2, 1, 0, 0, 0, 0), (91, .iload_n 2, 1, 0, 0, 0, 0), (92, .ifCond .eq 11, 3, 103, 0, 0, 0), (95, .aload_n 0, 1, 0, 0, 0, 0), (96, .iload_n 2, 1, 0, 0, 0, 0), (97, .invokevirtual 90, 3, 31, 2, 7, 30133), (100, .ifCond .eq 7, 3, 107, 0, 0, 0), (103, .nop, 0, 0, 0, 0, 0), (103, .iconst 1, 1, 0, 0, 0, 1), (104, .goto 4, 3, 108, 0, 0, 0), (107, .iconst 0, 1, 0, 0, 0, 0), (108, .nop, 0, 0, 0, 0, 0), (108, .ireturn, 1, 1, 0, 0, 0)]
/-- 54: SpeakClock$LineReader.readsLine()Z -/
def cd_LineReader_readsLine : List mE := [(0, .aload_n 0, 1, 0, 0, 0, 0), (1, .getfield 22, 3, 7, 1, 2, 20050), (4, .getfield 59, 3, 11, 4, 0, 10098), (7, .tableswitch 181 17 23 #[41, 61, 81, 101, 121, 141, 161], 41, 188, 2, 0, 0), (48, .aload_n 0, 1, 0, 0, 0, 0), (49, .invokevirtual 66, 3, 35, 1, 7, 30129), (52, .ifCond .eq 14, 3, 66, 0, 0, 0), (55, .aload_n 0, 1, 0, 0, 0, 0), (56, .invokevirtual 69, 3, 36, 1, 7, 30150), (59, .ifCond .eq 7, 3, 66, 0, 0, 0), (62, .iconst 1, 1, 0, 0, 0, 1), (63, .goto 4, 3, 67, 0, 0, 0), (66, .nop, 0, 0, 0, 0, 0), (66, .iconst 0, 1, 0, 0, 0, 0), (67, .nop, 0, 0, 0, 0, 0), (67, .ireturn, 1, 1, 0, 0, 0), (68, .aload_n 0, 1, 0, 0, 0, 0), (69, .invokevirtual 72, 3, 38, 1, 7, 30154), (72, .ifCond .eq 14, 3, 86, 0, 0, 0), (75, .aload_n 0, 1, 0, 0, 0, 0), (76, .invokevirtual 69, 3, 36, 1, 7, 30150), (79, .ifCond .eq 7, 3, 86, 0, 0, 0), (82, .iconst 1, 1, 0, 0, 0, 1), (83, .goto 4, 3, 87, 0, 0, 0), (86, .nop, 0, 0, 0, 0, 0), (86, .iconst 0, 1, 0, 0, 0, 0), (87, .nop, 0, 0, 0, 0, 0), (87, .ireturn, 1, 1, 0, 0, 0), (88, .aload_n 0, 1, 0, 0, 0, 0), (89, .invokevirtual 75, 3, 39, 1, 7, 30162), (92, .ifCond .eq 14, 3, 106, 0, 0, 0), (95, .aload_n 0, 1, 0, 0, 0, 0), (96, .invokevirtual 69, 3, 36, 1, 7, 30150), (99, .ifCond .eq 7, 3, 106, 0, 0, 0), (102, .iconst 1, 1, 0, 0, 0, 1), (103, .goto 4, 3, 107, 0, 0, 0), (106, .nop, 0, 0, 0, 0, 0), (106, .iconst 0, 1, 0, 0, 0, 0), (107, .nop, 0, 0, 0, 0, 0), (107, .ireturn, 1, 1, 0, 0, 0), (108, .aload_n 0, 1, 0, 0, 0, 0), (109, .invokevirtual 78, 3, 40, 1, 7, 30166), (112, .ifCond .eq 14, 3, 126, 0, 0, 0), (115, .aload_n 0, 1, 0, 0, 0, 0), (116, .invokevirtual 69, 3, 36, 1, 7, 30150), (119, .ifCond .eq 7, 3, 126, 0, 0, 0), (122, .iconst 1, 1, 0, 0, 0, 1), (123, .goto 4, 3, 127, 0, 0, 0), (126, .nop, 0, 0, 0, 0, 0), (126, .iconst 0, 1, 0, 0, 0, 0), (127, .nop, 0, 0, 0, 0, 0), (127, .ireturn, 1, 1, 0, 0, 0), (128, .aload_n 0, 1, 0, 0, 0, 0), (129, .invokevirtual 81, 3, 41, 1, 7, 30170), (132, .ifCond .eq 14, 3, 146, 0, 0, 0), (135, .aload_n 0, 1, 0, 0, 0, 0), (136, .invokevirtual 69, 3, 36, 1, 7, 30150), (139, .ifCond .eq 7, 3, 146, 0, 0, 0), (142, .iconst 1, 1, 0, 0, 0, 1), (143, .goto 4, 3, 147, 0, 0, 0), (146, .nop, 0, 0, 0, 0, 0), (146, .iconst 0, 1, 0, 0, 0, 0), (147, .nop, 0, 0, 0, 0, 0), (147, .ireturn, 1, 1, 0, 0, 0), (148, .aload_n 0, 1, 0, 0, 0, 0), (149, .invokevirtual 84, 3, 42, 1, 7, 30174), (152, .ifCond .eq 14, 3, 166, 0, 0, 0), (155, .aload_n 0, 1, 0, 0, 0, 0), (156, .invokevirtual 69, 3, 36, 1, 7, 30150), (159, .ifCond .eq 7, 3, 166, 0, 0, 0), (162, .iconst 1, 1, 0, 0, 0, 1), (163, .goto 4, 3, 167, 0, 0, 0), (166, .nop, 0, 0, 0, 0, 0), (166, .iconst 0, 1, 0, 0, 0, 0), (167, .nop, 0, 0, 0, 0, 0), (167, .ireturn, 1, 1, 0, 0, 0), (168, .aload_n 0, 1, 0, 0, 0, 0), (169, .invokevirtual 87, 3, 53, 1, 7, 30179), (172, .ifCond .eq 14, 3, 186, 0, 0, 0), (175, .aload_n 0, 1, 0, 0, 0, 0), (176, .invokevirtual 69, 3, 36, 1, 7, 30150), (179, .ifCond .eq 7, 3, 186, 0, 0, 0), (182, .iconst 1, 1, 0, 0, 0, 1), (183, .goto 4, 3, 187, 0, 0, 0), (186, .nop, 0, 0, 0, 0, 0), (186, .iconst 0, 1, 0, 0, 0, 0), (187, .nop, 0, 0, 0, 0, 0), (187, .ireturn, 1, 1, 0, 0, 0), (188, .aload_n 0, 1, 0, 0, 0, 0), (189, .iconst 1, 1, 0, 0, 0, 1), (190, .invokevirtual 90, 3, 31, 2, 7, 30133), (193, .ireturn, 1, 1, 0, 0, 0)]
/-- 55: SpeakClock$LineReader.readsAll(I)Z -/
def cd_LineReader_readsAll : List mE := [(0, .aload_n 0, 1, 0, 0, 0, 0), (1, .getfield 26, 3, 7, 2, 2, 20051), (4, .invokevirtual 50, 3, 21, 1, 9, 30078), (7, .aload_n 0, 1, 0, 0, 0, 0), (8, .iconst 0, 1, 0, 0, 0, 0), (9, .putfield 30, 3, 7, 3, 0, 20053), (12, .aload_n 0, 1, 0, 0, 0, 0), (13, .iconst 0, 1, 0, 0, 0, 0), (14, .putfield 34, 3, 7, 4, 0, 20055), (17, .aload_n 0, 1, 0, 0, 0, 0), (18, .iconst (-1), 1, 0, 0, 0, (-1)), (19, .putfield 37, 3, 7, 5, 0, 20057), (22, .aload_n 0, 1, 0, 0, 0, 0), (23, .iconst 0, 1, 0, 0, 0, 0), (24, .putfield 43, 3, 7, 7, 3, 20060), (27, .aload_n 0, 1, 0, 0, 0, 0), (28, .iconst 0, 1, 0, 0, 0, 0), (29, .putfield 47, 3, 7, 8, 3, 20061), (32, .aload_n 0, 1, 0, 0, 0, 0), (33, .getfield 22, 3, 7, 1, 2, 20050), (36, .iload_n 1, 1, 0, 0, 0, 0), (37, .invokevirtual 53, 3, 30, 2, 11, 30086), (40, .iconst 0, 1, 0, 0, 0, 0), (41, .istore_n 2, 1, 0, 0, 0, 0), (42, .nop, 0, 5, 0, 0, 0), (42, .iload_n 2, 1, 0, 0, 0, 0), (43, .sipush 700, 3, 0, 0, 0, 700), (46, .if_icmp .gt 38, 3, 84, 0, 0, 0), (49, .aload_n 0, 1, 0, 0, 0, 0), (50, .getfield 22, 3, 7, 1, 2, 20050), (53, .getfield 59, 3, 11, 4, 0, 10098), (56, .ifCond .eq 28, 3, 84, 0, 0, 0), (59, .aload_n 0, 1, 0, 0, 0, 0), (60, .invokevirtual 62, 3, 54, 1, 7, 30125), (63, .ifCond .ne 5, 3, 68, 0, 0, 0), (66, .iconst 0, 1, 0, 0, 0, 0), (67, .ireturn, 1, 1, 0, 0, 0), (68, .aload_n 0, 1, 0, 0, 0, 0), (69, .dup, 1, 0, 0, 0, 0), (70, .getfield 30, 3, 7, 3, 0, 20053), (73, .iconst 1, 1, 0, 0, 0, 1), (74, .iadd, 1, 0, 0, 0, 0), (75, .putfield 30, 3, 7, 3, 0, 20053), (78, .iinc 2 1, 3, 0, 0, 0, 0), (81, .goto (-39), 3, 42, 0, 0, 0), (84, .nop, 0, 0, 0, 0, 0), (84, .iconst 1, 1, 0, 0, 0, 1), (85, .ireturn, 1, 1, 0, 0, 0)]
/-- 56: SpeakClock$Day.begin(LSpeakClock$Plan;)V -/
def cd_Day_begin : List mE := [(0, .aload_n 0, 1, 0, 0, 0, 0), (1, .aload_n 1, 1, 0, 0, 0, 0), (2, .getfield 61, 3, 9, 13, 0, 10227), (5, .putfield 36, 3, 4, 8, 0, 20112), (8, .aload_n 0, 1, 0, 0, 0, 0), (9, .aload_n 1, 1, 0, 0, 0, 0), (10, .getfield 64, 3, 9, 15, 0, 10236), (13, .putfield 40, 3, 4, 9, 0, 20113), (16, .aload_n 0, 1, 0, 0, 0, 0), (17, .iconst 0, 1, 0, 0, 0, 0), (18, .putfield 43, 3, 4, 10, 0, 20114), (21, .aload_n 0, 1, 0, 0, 0, 0), (22, .iconst 0, 1, 0, 0, 0, 0), (23, .putfield 46, 3, 4, 11, 0, 20118), (26, .aload_n 0, 1, 0, 0, 0, 0), (27, .iconst (-1), 1, 0, 0, 0, (-1)), (28, .putfield 49, 3, 4, 12, 0, 20121), (31, .aload_n 0, 1, 0, 0, 0, 0), (32, .iconst 0, 1, 0, 0, 0, 0), (33, .putfield 52, 3, 4, 13, 0, 20124), (36, .aload_n 0, 1, 0, 0, 0, 0), (37, .aload_n 1, 1, 0, 0, 0, 0), (38, .getfield 65, 3, 9, 18, 0, 20007), (41, .putfield 55, 3, 4, 14, 0, 20127), (44, .aload_n 0, 1, 0, 0, 0, 0), (45, .iconst 0, 1, 0, 0, 0, 0), (46, .putfield 58, 3, 4, 15, 0, 20129), (49, .iconst 0, 1, 0, 0, 0, 0), (50, .istore_n 2, 1, 0, 0, 0, 0), (51, .nop, 0, 7, 0, 0, 0), (51, .iload_n 2, 1, 0, 0, 0, 0), (52, .aload_n 0, 1, 0, 0, 0, 0), (53, .getfield 36, 3, 4, 8, 0, 20112), (56, .if_icmp .ge 35, 3, 91, 0, 0, 0), (59, .aload_n 0, 1, 0, 0, 0, 0), (60, .getfield 9, 3, 4, 0, 2, 20087), (63, .iload_n 2, 1, 0, 0, 0, 0), (64, .aload_n 1, 1, 0, 0, 0, 0), (65, .getfield 68, 3, 9, 3, 2, 10193), (68, .iload_n 2, 1, 0, 0, 0, 0), (69, .iaload, 1, 0, 0, 0, 0), (70, .iastore, 1, 0, 0, 0, 0), (71, .aload_n 0, 1, 0, 0, 0, 0), (72, .getfield 15, 3, 4, 1, 2, 20091), (75, .iload_n 2, 1, 0, 0, 0, 0), (76, .iconst 0, 1, 0, 0, 0, 0), (77, .iastore, 1, 0, 0, 0, 0), (78, .aload_n 0, 1, 0, 0, 0, 0), (79, .getfield 18, 3, 4, 2, 2, 20094), (82, .iload_n 2, 1, 0, 0, 0, 0), (83, .iconst 0, 1, 0, 0, 0, 0), (84, .iastore, 1, 0, 0, 0, 0), (85, .iinc 2 1, 3, 0, 0, 0, 0), (88, .goto (-37), 3, 51, 0, 0, 0), (91, .iconst 0, 1, 0, 0, 0, 0), (92, .istore_n 2, 1, 0, 0, 0, 0), (93, .nop, 0, 7, 0, 0, 0), (93, .iload_n 2, 1, 0, 0, 0, 0), (94, .aload_n 0, 1, 0, 0, 0, 0), (95, .getfield 40, 3, 4, 9, 0, 20113), (98, .if_icmp .ge 42, 3, 140, 0, 0, 0), (101, .aload_n 0, 1, 0, 0, 0, 0), (102, .getfield 24, 3, 4, 4, 2, 20100), (105, .iload_n 2, 1, 0, 0, 0, 0), (106, .aload_n 1, 1, 0, 0, 0, 0), (107, .getfield 71, 3, 9, 9, 2, 10214), (110, .iload_n 2, 1, 0, 0, 0, 0), (111, .iaload, 1, 0, 0, 0, 0), (112, .iastore, 1, 0, 0, 0, 0), (113, .aload_n 0, 1, 0, 0, 0, 0), (114, .getfield 27, 3, 4, 5, 2, 20103), (117, .iload_n 2, 1, 0, 0, 0, 0), (118, .iconst (-1), 1, 0, 0, 0, (-1)), (119, .iastore, 1, 0, 0, 0, 0), (120, .aload_n 0, 1, 0, 0, 0, 0), (121, .getfield 30, 3, 4, 6, 2, 20106), (124, .iload_n 2, 1, 0, 0, 0, 0), (125, .iconst (-1), 1, 0, 0, 0, (-1)), (126, .iastore, 1, 0, 0, 0, 0), (127, .aload_n 0, 1, 0, 0, 0, 0), (128, .getfield 33, 3, 4, 7, 2, 20109), (131, .iload_n 2, 1, 0, 0, 0, 0), (132, .iconst 0, 1, 0, 0, 0, 0), (133, .iastore, 1, 0, 0, 0, 0), (134, .iinc 2 1, 3, 0, 0, 0, 0), (137, .goto (-44), 3, 93, 0, 0, 0), (140, .return_, 1, 0, 0, 0, 0)]
/-- 57: SpeakClock$Seen.forget()V -/
def cd_Seen_forget : List mE := [(0, .aload_n 0, 1, 0, 0, 0, 0), (1, .iconst 0, 1, 0, 0, 0, 0), (2, .putfield 31, 3, 10, 6, 0, 20214), (5, .aload_n 0, 1, 0, 0, 0, 0), (6, .iconst (-1), 1, 0, 0, 0, (-1)), (7, .putfield 35, 3, 10, 7, 0, 20216), (10, .return_, 1, 0, 0, 0, 0)]
/-- 58: SpeakClock.text(I)I -/
def cd_C_text : List mE := [(0, .iload_n 1, 1, 0, 0, 0, 0), (1, .ifCond .lt 11, 3, 12, 0, 0, 0), (4, .iload_n 1, 1, 0, 0, 0, 0), (5, .aload_n 0, 1, 0, 0, 0, 0), (6, .getfield 71, 3, 13, 10, 0, 30029), (9, .if_icmp .le 6, 3, 15, 0, 0, 0), (12, .nop, 0, 0, 0, 0, 0), (12, .bipush (-2), 2, 0, 0, 0, (-2)), (14, .ireturn, 1, 0, 0, 0, 0), (15, .aload_n 0, 1, 0, 0, 0, 0), (16, .iconst 0, 1, 0, 0, 0, 0), (17, .putfield 71, 3, 13, 10, 0, 30029), (20, .aload_n 0, 1, 0, 0, 0, 0), (21, .getfield 12, 3, 13, 0, 2, 30019), (24, .iload_n 1, 1, 0, 0, 0, 0), (25, .invokevirtual 89, 3, 55, 2, 7, 30074), (28, .istore_n 2, 1, 0, 0, 0, 0), (29, .aload_n 0, 1, 0, 0, 0, 0), (30, .aload_n 0, 1, 0, 0, 0, 0), (31, .getfield 12, 3, 13, 0, 2, 30019), (34, .getfield 93, 3, 7, 4, 0, 20056), (37, .putfield 75, 3, 13, 11, 0, 30030), (40, .aload_n 0, 1, 0, 0, 0, 0), (41, .aload_n 0, 1, 0, 0, 0, 0), (42, .getfield 12, 3, 13, 0, 2, 30019), (45, .getfield 94, 3, 7, 5, 0, 20058), (48, .putfield 78, 3, 13, 12, 0, 30031), (51, .iload_n 2, 1, 0, 0, 0, 0), (52, .ifCond .ne 5, 3, 57, 0, 0, 0), (55, .iconst (-1), 1, 0, 0, 0, (-1)), (56, .ireturn, 1, 0, 0, 0, 0), (57, .aload_n 0, 1, 0, 0, 0, 0), (58, .getfield 70, 3, 13, 9, 2, 30028), (61, .astore_n 3, 1, 0, 0, 0, 0), (62, .aload_n 0, 1, 0, 0, 0, 0), (63, .aload_n 0, 1, 0, 0, 0, 0), (64, .getfield 12, 3, 13, 0, 2, 30019), (67, .getfield 97, 3, 7, 2, 2, 20052), (70, .putfield 70, 3, 13, 9, 2, 30028), (73, .aload_n 0, 1, 0, 0, 0, 0), (74, .getfield 48, 3, 13, 6, 2, 30025), (77, .aload_n 0, 1, 0, 0, 0, 0), (78, .getfield 70, 3, 13, 9, 2, 30028), (81, .putfield 66, 3, 12, 3, 2, 20177), (84, .aload_n 0, 1, 0, 0, 0, 0), (85, .getfield 12, 3, 13, 0, 2, 30019), (88, .aload_n 3, 1, 0, 0, 0, 0), (89, .putfield 97, 3, 7, 2, 2, 20052), (92, .aload_n 0, 1, 0, 0, 0, 0), (93, .getfield 32, 3, 13, 2, 2, 30021), (96, .aload_n 0, 1, 0, 0, 0, 0), (97, .getfield 70, 3, 13, 9, 2, 30028), (100, .invokevirtual 98, 3, 56, 2, 4, 30223), (103, .aload_n 0, 1, 0, 0, 0, 0), (104, .getfield 55, 3, 13, 7, 2, 30026), (107, .invokevirtual 102, 3, 57, 1, 10, 30227), (110, .aload_n 0, 1, 0, 0, 0, 0), (111, .getfield 62, 3, 13, 8, 2, 30027), (114, .iconst 0, 1, 0, 0, 0, 0), (115, .putfield 105, 3, 8, 3, 0, 30009), (118, .aload_n 0, 1, 0, 0, 0, 0), (119, .iconst 0, 1, 0, 0, 0, 0), (120, .putfield 81, 3, 13, 13, 3, 30032), (123, .aload_n 0, 1, 0, 0, 0, 0), (124, .getfield 12, 3, 13, 0, 2, 30019), (127, .getfield 108, 3, 7, 3, 0, 20054), (130, .ireturn, 1, 0, 0, 0, 0)]
/-- 59: SpeakClockModel.isSmall(I)Z -/
def cd_M_isSmall : List mE := [(0, .iload_n 1, 1, 0, 0, 0, 0), (1, .aload_n 0, 1, 0, 0, 0, 0), (2, .getfield 169, 3, 14, 6, 0, 60022), (5, .if_icmp .ge 29, 3, 34, 0, 0, 0), (8, .aload_n 0, 1, 0, 0, 0, 0), (9, .getfield 7, 3, 14, 0, 2, 60016), (12, .iload_n 1, 1, 0, 0, 0, 0), (13, .iaload, 1, 0, 0, 0, 0), (14, .bipush 97, 2, 0, 0, 0, 97), (16, .if_icmp .lt 18, 3, 34, 0, 0, 0), (19, .aload_n 0, 1, 0, 0, 0, 0), (20, .getfield 7, 3, 14, 0, 2, 60016), (23, .iload_n 1, 1, 0, 0, 0, 0), (24, .iaload, 1, 0, 0, 0, 0), (25, .bipush 122, 2, 0, 0, 0, 122), (27, .if_icmp .gt 7, 3, 34, 0, 0, 0), (30, .iconst 1, 1, 0, 0, 0, 1), (31, .goto 4, 3, 35, 0, 0, 0), (34, .nop, 0, 0, 0, 0, 0), (34, .iconst 0, 1, 0, 0, 0, 0), (35, .nop, 0, 0, 0, 0, 0), (35, .ireturn, 1, 1, 0, 0, 0)]
/-- 60: SpeakClockModel.wordAt(II)I -/
def cd_M_wordAt : List mE := [(0, .iconst 0, 1, 0, 0, 0, 0), (1, .istore_n 3, 1, 0, 0, 0, 0), (2, .iconst 0, 1, 0, 0, 0, 0), (3, .istore 4, 2, 0, 0, 0, 0), (5, .nop, 0, 31, 0, 0, 0), (5, .iload 4, 2, 0, 0, 0, 0), (7, .aload_n 0, 1, 0, 0, 0, 0), (8, .getfield 13, 3, 14, 3, 2, 60019), (11, .arraylength, 1, 0, 0, 0, 0), (12, .if_icmp .ge 114, 3, 126, 0, 0, 0), (15, .iconst 0, 1, 0, 0, 0, 0), (16, .istore 5, 2, 0, 0, 0, 0), (18, .nop, 0, 63, 0, 0, 0), (18, .aload_n 0, 1, 0, 0, 0, 0), (19, .getfield 13, 3, 14, 3, 2, 60019), (22, .iload 4, 2, 0, 0, 0, 0), (24, .iload 5, 2, 0, 0, 0, 0), (26, .iadd, 1, 0, 0, 0, 0), (27, .iaload, 1, 0, 0, 0, 0), (28, .bipush 32, 2, 0, 0, 0, 32), (30, .if_icmp .eq 9, 3, 39, 0, 0, 0), (33, .iinc 5 1, 3, 0, 0, 0, 0), (36, .goto (-18), 3, 18, 0, 0, 0), (39, .iload 5, 2, 0, 0, 0, 0), (41, .iload_n 2, 1, 0, 0, 0, 0), (42, .iload_n 1, 1, 0, 0, 0, 0), (43, .isub, 1, 0, 0, 0, 0), (44, .if_icmp .ne 7, 3, 51, 0, 0, 0), (47, .iconst 1, 1, 0, 0, 0, 1), (48, .goto 4, 3, 52, 0, 0, 0), (51, .iconst 0, 1, 0, 0, 0, 0), (52, .nop, 0, 63, 0, 0, 0), (52, .istore 6, 2, 0, 0, 0, 0), (54, .iconst 0, 1, 0, 0, 0, 0), (55, .istore 7, 2, 0, 0, 0, 0), (57, .nop, 0, 255, 0, 0, 0), (57, .iload 7, 2, 0, 0, 0, 0), (59, .iload 5, 2, 0, 0, 0, 0), (61, .if_icmp .ge 43, 3, 104, 0, 0, 0), (64, .iload 6, 2, 0, 0, 0, 0), (66, .ifCond .eq 38, 3, 104, 0, 0, 0), (69, .aload_n 0, 1, 0, 0, 0, 0), (70, .getfield 13, 3, 14, 3, 2, 60019), (73, .iload 4, 2, 0, 0, 0, 0), (75, .iload 7, 2, 0, 0, 0, 0), (77, .iadd, 1, 0, 0, 0, 0), (78, .iaload, 1, 0, 0, 0, 0), (79, .aload_n 0, 1, 0, 0, 0, 0), (80, .getfield 7, 3, 14, 0, 2, 60016), (83, .iload_n 1, 1, 0, 0, 0, 0), (84, .iload 7, 2, 0, 0, 0, 0), (86, .iadd, 1, 0, 0, 0, 0), (87, .iaload, 1, 0, 0, 0, 0), (88, .if_icmp .ne 7, 3, 95, 0, 0, 0), (91, .iconst 1, 1, 0, 0, 0, 1), (92, .goto 4, 3, 96, 0, 0, 0), (95, .iconst 0, 1, 0, 0, 0, 0), (96, .nop, 0, 191, 0, 0, 0), (96, .istore 6, 2, 0, 0, 0, 0), (98, .iinc 7 1, 3, 0, 0, 0, 0), (101, .goto (-44), 3, 57, 0, 0, 0), (104, .nop, 0, 127, 0, 0, 0), (104, .iload 6, 2, 0, 0, 0, 0), (106, .ifCond .eq 5, 3, 111, 0, 0, 0), (109, .iload_n 3, 1, 0, 0, 0, 0), (110, .ireturn, 1, 0, 0, 0, 0), (111, .iload 4, 2, 0, 0, 0, 0), (113, .iload 5, 2, 0, 0, 0, 0), (115, .iconst 1, 1, 0, 0, 0, 1), (116, .iadd, 1, 0, 0, 0, 0), (117, .iadd, 1, 0, 0, 0, 0), (118, .istore 4, 2, 0, 0, 0, 0), (120, .iinc 3 1, 3, 0, 0, 0, 0), (123, .goto (-118), 3, 5, 0, 0, 0), (126, .iconst (-1), 1, 0, 0, 0, (-1)), (127, .ireturn, 1, 0, 0, 0, 0)]
/-- 61: SpeakClockModel.packed(II)I -/
def cd_M_packed : List mE := [(0, .iconst 0, 1, 0, 0, 0, 0), (1, .istore_n 3, 1, 0, 0, 0, 0), (2, .iload_n 1, 1, 0, 0, 0, 0), (3, .istore 4, 2, 0, 0, 0, 0), (5, .nop, 0, 31, 0, 0, 0), (5, .iload 4, 2, 0, 0, 0, 0), (7, .iload_n 1, 1, 0, 0, 0, 0), (8, .bipush 6, 2, 0, 0, 0, 6), (10, .iadd, 1, 0, 0, 0, 0), (11, .if_icmp .ge 34, 3, 45, 0, 0, 0), (14, .iload_n 3, 1, 0, 0, 0, 0), (15, .iconst 5, 1, 0, 0, 0, 5), (16, .ishl, 1, 0, 0, 0, 0), (17, .iload 4, 2, 0, 0, 0, 0), (19, .iload_n 2, 1, 0, 0, 0, 0), (20, .if_icmp .ge 16, 3, 36, 0, 0, 0), (23, .aload_n 0, 1, 0, 0, 0, 0), (24, .getfield 7, 3, 14, 0, 2, 60016), (27, .iload 4, 2, 0, 0, 0, 0), (29, .iaload, 1, 0, 0, 0, 0), (30, .bipush 96, 2, 0, 0, 0, 96), (32, .isub, 1, 0, 0, 0, 0), (33, .goto 4, 3, 37, 0, 0, 0), (36, .iconst 0, 1, 0, 0, 0, 0), (37, .nop, 0, 23, 0, 0, 0), (37, .ior, 1, 0, 0, 0, 0), (38, .istore_n 3, 1, 0, 0, 0, 0), (39, .iinc 4 1, 3, 0, 0, 0, 0), (42, .goto (-37), 3, 5, 0, 0, 0), (45, .iload_n 3, 1, 0, 0, 0, 0), (46, .ireturn, 1, 0, 0, 0, 0)]
/-- 62: SpeakClockModel.isDigit(I)Z -/
def cd_M_isDigit : List mE := [(0, .iload_n 1, 1, 0, 0, 0, 0), (1, .aload_n 0, 1, 0, 0, 0, 0), (2, .getfield 169, 3, 14, 6, 0, 60022), (5, .if_icmp .ge 29, 3, 34, 0, 0, 0), (8, .aload_n 0, 1, 0, 0, 0, 0), (9, .getfield 7, 3, 14, 0, 2, 60016), (12, .iload_n 1, 1, 0, 0, 0, 0), (13, .iaload, 1, 0, 0, 0, 0), (14, .bipush 48, 2, 0, 0, 0, 48), (16, .if_icmp .lt 18, 3, 34, 0, 0, 0), (19, .aload_n 0, 1, 0, 0, 0, 0), (20, .getfield 7, 3, 14, 0, 2, 60016), (23, .iload_n 1, 1, 0, 0, 0, 0), (24, .iaload, 1, 0, 0, 0, 0), (25, .bipush 57, 2, 0, 0, 0, 57), (27, .if_icmp .gt 7, 3, 34, 0, 0, 0), (30, .iconst 1, 1, 0, 0, 0, 1), (31, .goto 4, 3, 35, 0, 0, 0), (34, .nop, 0, 0, 0, 0, 0), (34, .iconst 0, 1, 0, 0, 0, 0), (35, .nop, 0, 0, 0, 0, 0), (35, .ireturn, 1, 1, 0, 0, 0)]
/-- 63: SpeakClockModel.signToken()V -/
def cd_M_signToken : List mE := [(0, .aload_n 0, 1, 0, 0, 0, 0), (1, .aload_n 0, 1, 0, 0, 0, 0), (2, .getfield 7, 3, 14, 0, 2, 60016), (5, .aload_n 0, 1, 0, 0, 0, 0), (6, .getfield 172, 3, 14, 7, 0, 60023), (9, .iaload, 1, 0, 0, 0, 0), (10, .putfield 186, 3, 14, 9, 0, 60025), (13, .aload_n 0, 1, 0, 0, 0, 0), (14, .dup, 1, 0, 0, 0, 0), (15, .getfield 172, 3, 14, 7, 0, 60023), (18, .iconst 1, 1, 0, 0, 0, 1), (19, .iadd, 1, 0, 0, 0, 0), (20, .putfield 172, 3, 14, 7, 0, 60023), (23, .aload_n 0, 1, 0, 0, 0, 0), (24, .getfield 186, 3, 14, 9, 0, 60025), (27, .bipush 60, 2, 0, 0, 0, 60), (29, .if_icmp .eq 21, 3, 50, 0, 0, 0), (32, .aload_n 0, 1, 0, 0, 0, 0), (33, .getfield 186, 3, 14, 9, 0, 60025), (36, .bipush 62, 2, 0, 0, 0, 62), (38, .if_icmp .eq 12, 3, 50, 0, 0, 0), (41, .aload_n 0, 1, 0, 0, 0, 0), (42, .getfield 186, 3, 14, 9, 0, 60025), (45, .bipush 61, 2, 0, 0, 0, 61), (47, .if_icmp .ne 151, 3, 198, 0, 0, 0), (50, .nop, 0, 1, 0, 0, 0), (50, .aload_n 0, 1, 0, 0, 0, 0), (51, .getfield 172, 3, 14, 7, 0, 60023), (54, .aload_n 0, 1, 0, 0, 0, 0), (55, .getfield 169, 3, 14, 6, 0, 60022), (58, .if_icmp .ge 15, 3, 73, 0, 0, 0), (61, .aload_n 0, 1, 0, 0, 0, 0), (62, .getfield 7, 3, 14, 0, 2, 60016), (65, .aload_n 0, 1, 0, 0, 0, 0), (66, .getfield 172, 3, 14, 7, 0, 60023), (69, .iaload, 1, 0, 0, 0, 0), (70, .goto 4, 3, 74, 0, 0, 0), (73, .iconst 0, 1, 0, 0, 0, 0), (74, .nop, 0, 1, 0, 0, 0), (74, .istore_n 1, 1, 0, 0, 0, 0), (75, .aload_n 0, 1, 0, 0, 0, 0), (76, .getfield 186, 3, 14, 9, 0, 60025), (79, .bipush 61, 2, 0, 0, 0, 61), (81, .if_icmp .eq 13, 3, 94, 0, 0, 0), (84, .iload_n 1, 1, 0, 0, 0, 0), (85, .bipush 61, 2, 0, 0, 0, 61), (87, .if_icmp .ne 7, 3, 94, 0, 0, 0), (90, .iconst 1, 1, 0, 0, 0, 1), (91, .goto 4, 3, 95, 0, 0, 0), (94, .nop, 0, 3, 0, 0, 0), (94, .iconst 0, 1, 0, 0, 0, 0), (95, .nop, 0, 3, 0, 0, 0), (95, .istore_n 2, 1, 0, 0, 0, 0), (96, .aload_n 0, 1, 0, 0, 0, 0), (97, .getfield 186, 3, 14, 9, 0, 60025), (100, .bipush 60, 2, 0, 0, 0, 60), (102, .if_icmp .ne 13, 3, 115, 0, 0, 0), (105, .iload_n 1, 1, 0, 0, 0, 0), (106, .bipush 62, 2, 0, 0, 0, 62), (108, .if_icmp .ne 7, 3, 115, 0, 0, 0), (111, .iconst 1, 1, 0, 0, 0, 1), (112, .goto 4, 3, 116, 0, 0, 0), (115, .nop, 0, 5, 0, 0, 0), (115, .iconst 0, 1, 0, 0, 0, 0), (116, .nop, 0, 5, 0, 0, 0), (116, .istore_n 3, 1, 0, 0, 0, 0), (117, .iload_n 2, 1, 0, 0, 0, 0), (118, .ifCond .ne 7, 3, 125, 0, 0, 0), (121, .iload_n 3, 1, 0, 0, 0, 0), (122, .ifCond .eq 13, 3, 135, 0, 0, 0), (125, .nop, 0, 13, 0, 0, 0), (125, .aload_n 0, 1, 0, 0, 0, 0), (126, .dup, 1, 0, 0, 0, 0), (127, .getfield 172, 3, 14, 7, 0, 60023), (130, .iconst 1, 1, 0, 0, 0, 1), (131, .iadd, 1, 0, 0, 0, 0), (132, .putfield 172, 3, 14, 7, 0, 60023), (135, .nop, 0, 13, 0, 0, 0), (135, .aload_n 0, 1, 0, 0, 0, 0), (136, .iconst 5, 1, 0, 0, 0, 5), (137, .putfield 175, 3, 14, 8, 0, 60024), (140, .aload_n 0, 1, 0, 0, 0, 0), (141, .aload_n 0, 1, 0, 0, 0, 0), (142, .getfield 186, 3, 14, 9, 0, 60025), (145, .bipush 61, 2, 0, 0, 0, 61), (147, .if_icmp .ne 7, 3, 154, 0, 0, 0), (150, .iconst 2, 1, 0, 0, 0, 2), (151, .goto 41, 3, 192, 0, 0, 0), (154, .aload_n 0, 1, 0, 0, 0, 0), (155, .getfield 186, 3, 14, 9, 0, 60025), (158, .bipush 60, 2, 0, 0, 0, 60), (160, .if_icmp .ne 23, 3, 183, 0, 0, 0), (163, .iload_n 2, 1, 0, 0, 0, 0), (164, .ifCond .eq 7, 3, 171, 0, 0, 0), (167, .iconst 1, 1, 0, 0, 0, 1), (168, .goto 24, 3, 192, 0, 0, 0), (171, .iload_n 3, 1, 0, 0, 0, 0), (172, .ifCond .eq 7, 3, 179, 0, 0, 0), (175, .iconst 3, 1, 0, 0, 0, 3), (176, .goto 16, 3, 192, 0, 0, 0), (179, .iconst 0, 1, 0, 0, 0, 0), (180, .goto 12, 3, 192, 0, 0, 0), (183, .iload_n 2, 1, 0, 0, 0, 0), (184, .ifCond .eq 7, 3, 191, 0, 0, 0), (187, .iconst 4, 1, 0, 0, 0, 4), (188, .goto 4, 3, 192, 0, 0, 0), (191, .iconst 5, 1, 0, 0, 0, 5), (192, .nop, 0, 0, 0, 0, 0), (192, .putfield 186, 3, 14, 9, 0, 60025), (195, .goto 95, 3, 290, 0, 0, 0), (198, .aload_n 0, 1, 0, 0, 0, 0), (199, .getfield 186, 3, 14, 9, 0, 60025), (202, .bipush 59, 2, 0, 0, 0, 59), (204, .if_icmp .eq 66, 3, 270, 0, 0, 0), (207, .aload_n 0, 1, 0, 0, 0, 0), (208, .getfield 186, 3, 14, 9, 0, 60025), (211, .bipush 40, 2, 0, 0, 0, 40), (213, .if_icmp .eq 57, 3, 270, 0, 0, 0), (216, .aload_n 0, 1, 0, 0, 0, 0), (217, .getfield 186, 3, 14, 9, 0, 60025), (220, .bipush 41, 2, 0, 0, 0, 41), (222, .if_icmp .eq 48, 3, 270, 0, 0, 0), (225, .aload_n 0, 1, 0, 0, 0, 0), (226, .getfield 186, 3, 14, 9, 0, 60025), (229, .bipush 43, 2, 0, 0, 0, 43), (231, .if_icmp .eq 39, 3, 270, 0, 0, 0), (234, .aload_n 0, 1, 0, 0, 0, 0), (235, .getfield 186, 3, 14, 9, 0, 60025), (238, .bipush 45, 2, 0, 0, 0, 45), (240, .if_icmp .eq 30, 3, 270, 0, 0, 0), (243, .aload_n 0, 1, 0, 0, 0, 0), (244, .getfield 186, 3, 14, 9, 0, 60025), (247, .bipush 42, 2, 0, 0, 0, 42), (249, .if_icmp .eq 21, 3, 270, 0, 0, 0), (252, .aload_n 0, 1, 0, 0, 0, 0), (253, .getfield 186, 3, 14, 9, 0, 60025), (256, .bipush 47, 2, 0, 0, 0, 47), (258, .if_icmp .eq 12, 3, 270, 0, 0, 0), (261, .aload_n 0, 1, 0, 0, 0, 0), (262, .getfield 186, 3, 14, 9, 0, 60025), (265, .bipush 37, 2, 0, 0, 0, 37), (267, .if_icmp .ne 7, 3, 274, 0, 0, 0), (270, .nop, 0, 1, 0, 0, 0), (270, .iconst 1, 1, 0, 0, 0, 1), (271, .goto 4, 3, 275, 0, 0, 0), (274, .iconst 0, 1, 0, 0, 0, 0), (275, .nop, 0, 1, 0, 0, 0), (275, .istore_n 1, 1, 0, 0, 0, 0), (276, .aload_n 0, 1, 0, 0, 0, 0), (277, .iload_n 1, 1, 0, 0, 0, 0), (278, .ifCond .eq 7, 3, 285, 0, 0, 0), (281, .iconst 4, 1, 0, 0, 0, 4), (282, .goto 5, 3, 287, 0, 0, 0), (285, .bipush 6, 2, 0, 0, 0, 6), (287, .nop, 0, 0, 0, 0, 0), (287, .putfield 175, 3, 14, 8, 0, 60024), (290, .nop, 0, 0, 0, 0, 0), (290, .return_, 1, 0, 0, 0, 0)]
/-- 64: SpeakClockModel.token()V -/
def cd_M_token : List mE := [(0, .nop, 0, 1, 0, 0, 0), (0, .aload_n 0, 1, 0, 0, 0, 0), (1, .getfield 172, 3, 14, 7, 0, 60023), (4, .aload_n 0, 1, 0, 0, 0, 0), (5, .getfield 169, 3, 14, 6, 0, 60022), (8, .if_icmp .ge 44, 3, 52, 0, 0, 0), (11, .aload_n 0, 1, 0, 0, 0, 0), (12, .getfield 7, 3, 14, 0, 2, 60016), (15, .aload_n 0, 1, 0, 0, 0, 0), (16, .getfield 172, 3, 14, 7, 0, 60023), (19, .iaload, 1, 0, 0, 0, 0), (20, .bipush 10, 2, 0, 0, 0, 10), (22, .if_icmp .eq 17, 3, 39, 0, 0, 0), (25, .aload_n 0, 1, 0, 0, 0, 0), (26, .getfield 7, 3, 14, 0, 2, 60016), (29, .aload_n 0, 1, 0, 0, 0, 0), (30, .getfield 172, 3, 14, 7, 0, 60023), (33, .iaload, 1, 0, 0, 0, 0), (34, .bipush 32, 2, 0, 0, 0, 32), (36, .if_icmp .ne 16, 3, 52, 0, 0, 0), (39, .nop, 0, 1, 0, 0, 0), (39, .aload_n 0, 1, 0, 0, 0, 0), (40, .dup, 1, 0, 0, 0, 0), (41, .getfield 172, 3, 14, 7, 0, 60023), (44, .iconst 1, 1, 0, 0, 0, 1), (45, .iadd, 1, 0, 0, 0, 0), (46, .putfield 172, 3, 14, 7, 0, 60023), (49, .goto (-49), 3, 0, 0, 0, 0), (52, .nop, 0, 1, 0, 0, 0), (52, .aload_n 0, 1, 0, 0, 0, 0), (53, .aload_n 0, 1, 0, 0, 0, 0), (54, .getfield 172, 3, 14, 7, 0, 60023), (57, .putfield 166, 3, 14, 10, 0, 60026), (60, .aload_n 0, 1, 0, 0, 0, 0), (61, .getfield 172, 3, 14, 7, 0, 60023), (64, .aload_n 0, 1, 0, 0, 0, 0), (65, .getfield 169, 3, 14, 6, 0, 60022), (68, .if_icmp .ne 11, 3, 79, 0, 0, 0), (71, .aload_n 0, 1, 0, 0, 0, 0), (72, .iconst 0, 1, 0, 0, 0, 0), (73, .putfield 175, 3, 14, 8, 0, 60024), (76, .goto 205, 3, 281, 0, 0, 0), (79, .aload_n 0, 1, 0, 0, 0, 0), (80, .aload_n 0, 1, 0, 0, 0, 0), (81, .getfield 172, 3, 14, 7, 0, 60023), (84, .invokevirtual 178, 3, 59, 2, 14, 70048), (87, .ifCond .eq 105, 3, 192, 0, 0, 0), (90, .nop, 0, 1, 0, 0, 0), (90, .aload_n 0, 1, 0, 0, 0, 0), (91, .aload_n 0, 1, 0, 0, 0, 0), (92, .getfield 172, 3, 14, 7, 0, 60023), (95, .invokevirtual 178, 3, 59, 2, 14, 70048), (98, .ifCond .eq 16, 3, 114, 0, 0, 0), (101, .aload_n 0, 1, 0, 0, 0, 0), (102, .dup, 1, 0, 0, 0, 0), (103, .getfield 172, 3, 14, 7, 0, 60023), (106, .iconst 1, 1, 0, 0, 0, 1), (107, .iadd, 1, 0, 0, 0, 0), (108, .putfield 172, 3, 14, 7, 0, 60023), (111, .goto (-21), 3, 90, 0, 0, 0), (114, .aload_n 0, 1, 0, 0, 0, 0), (115, .aload_n 0, 1, 0, 0, 0, 0), (116, .aload_n 0, 1, 0, 0, 0, 0), (117, .getfield 166, 3, 14, 10, 0, 60026), (120, .aload_n 0, 1, 0, 0, 0, 0), (121, .getfield 172, 3, 14, 7, 0, 60023), (124, .invokevirtual 182, 3, 60, 3, 14, 70052), (127, .putfield 186, 3, 14, 9, 0, 60025), (130, .aload_n 0, 1, 0, 0, 0, 0), (131, .aload_n 0, 1, 0, 0, 0, 0), (132, .getfield 186, 3, 14, 9, 0, 60025), (135, .ifCond .lt 7, 3, 142, 0, 0, 0), (138, .iconst 1, 1, 0, 0, 0, 1), (139, .goto 23, 3, 162, 0, 0, 0), (142, .aload_n 0, 1, 0, 0, 0, 0), (143, .getfield 172, 3, 14, 7, 0, 60023), (146, .aload_n 0, 1, 0, 0, 0, 0), (147, .getfield 166, 3, 14, 10, 0, 60026), (150, .isub, 1, 0, 0, 0, 0), (151, .bipush 6, 2, 0, 0, 0, 6), (153, .if_icmp .le 8, 3, 161, 0, 0, 0), (156, .bipush 6, 2, 0, 0, 0, 6), (158, .goto 4, 3, 162, 0, 0, 0), (161, .iconst 2, 1, 0, 0, 0, 2), (162, .nop, 0, 1, 0, 0, 0), (162, .putfield 175, 3, 14, 8, 0, 60024), (165, .aload_n 0, 1, 0, 0, 0, 0), (166, .getfield 175, 3, 14, 8, 0, 60024), (169, .iconst 2, 1, 0, 0, 0, 2), (170, .if_icmp .ne 111, 3, 281, 0, 0, 0), (173, .aload_n 0, 1, 0, 0, 0, 0), (174, .aload_n 0, 1, 0, 0, 0, 0), (175, .aload_n 0, 1, 0, 0, 0, 0), (176, .getfield 166, 3, 14, 10, 0, 60026), (179, .aload_n 0, 1, 0, 0, 0, 0), (180, .getfield 172, 3, 14, 7, 0, 60023), (183, .invokevirtual 189, 3, 61, 3, 14, 70056), (186, .putfield 186, 3, 14, 9, 0, 60025), (189, .goto 92, 3, 281, 0, 0, 0), (192, .aload_n 0, 1, 0, 0, 0, 0), (193, .aload_n 0, 1, 0, 0, 0, 0), (194, .getfield 172, 3, 14, 7, 0, 60023), (197, .invokevirtual 192, 3, 62, 2, 14, 70060), (200, .ifCond .eq 77, 3, 277, 0, 0, 0), (203, .aload_n 0, 1, 0, 0, 0, 0), (204, .iconst 3, 1, 0, 0, 0, 3), (205, .putfield 175, 3, 14, 8, 0, 60024), (208, .aload_n 0, 1, 0, 0, 0, 0), (209, .iconst 0, 1, 0, 0, 0, 0), (210, .putfield 186, 3, 14, 9, 0, 60025), (213, .nop, 0, 1, 0, 0, 0), (213, .aload_n 0, 1, 0, 0, 0, 0), (214, .aload_n 0, 1, 0, 0, 0, 0), (215, .getfield 172, 3, 14, 7, 0, 60023), (218, .invokevirtual 192, 3, 62, 2, 14, 70060), (221, .ifCond .eq 60, 3, 281, 0, 0, 0), (224, .aload_n 0, 1, 0, 0, 0, 0), (225, .aload_n 0, 1, 0, 0, 0, 0), (226, .getfield 186, 3, 14, 9, 0, 60025), (229, .ldc 195, 2, 70064, 0, 0, 99999), (231, .if_icmp .le 10, 3, 241, 0, 0, 0), (234, .aload_n 0, 1, 0, 0, 0, 0), (235, .getfield 186, 3, 14, 9, 0, 60025), (238, .goto 23, 3, 261, 0, 0, 0), (241, .bipush 10, 2, 0, 0, 0, 10), (243, .aload_n 0, 1, 0, 0, 0, 0), (244, .getfield 186, 3, 14, 9, 0, 60025), (247, .imul, 1, 0, 0, 0, 0), (248, .aload_n 0, 1, 0, 0, 0, 0), (249, .getfield 7, 3, 14, 0, 2, 60016), (252, .aload_n 0, 1, 0, 0, 0, 0), (253, .getfield 172, 3, 14, 7, 0, 60023), (256, .iaload, 1, 0, 0, 0, 0), (257, .iadd, 1, 0, 0, 0, 0), (258, .bipush 48, 2, 0, 0, 0, 48), (260, .isub, 1, 0, 0, 0, 0), (261, .nop, 0, 1, 0, 0, 0), (261, .putfield 186, 3, 14, 9, 0, 60025), (264, .aload_n 0, 1, 0, 0, 0, 0), (265, .dup, 1, 0, 0, 0, 0), (266, .getfield 172, 3, 14, 7, 0, 60023), (269, .iconst 1, 1, 0, 0, 0, 1), (270, .iadd, 1, 0, 0, 0, 0), (271, .putfield 172, 3, 14, 7, 0, 60023), (274, .goto (-61), 3, 213, 0, 0, 0), (277, .aload_n 0, 1, 0, 0, 0, 0), (278, .invokevirtual 196, 3, 63, 1, 14, 70065), (281, .nop, 0, 0, 0, 0, 0), (281, .return_, 1, 0, 0, 0, 0)]
/-- 65: SpeakClockModel.wrong(I)Z -/
def cd_M_wrong : List mE := [(0, .aload_n 0, 1, 0, 0, 0, 0), (1, .iload_n 1, 1, 0, 0, 0, 0), (2, .putfield 163, 3, 14, 4, 0, 60020), (5, .aload_n 0, 1, 0, 0, 0, 0), (6, .aload_n 0, 1, 0, 0, 0, 0), (7, .getfield 166, 3, 14, 10, 0, 60026), (10, .putfield 16, 3, 14, 5, 0, 60021), (13, .iconst 0, 1, 0, 0, 0, 0), (14, .ireturn, 1, 1, 0, 0, 0)]
/-- 66: SpeakClockModel.find([IIII)I -/
def cd_M_find : List mE := [(0, .iconst 0, 1, 0, 0, 0, 0), (1, .istore 4, 2, 0, 0, 0, 0), (3, .nop, 0, 31, 0, 0, 0), (3, .iload 4, 2, 0, 0, 0, 0), (5, .iload_n 2, 1, 0, 0, 0, 0), (6, .if_icmp .ge 22, 3, 28, 0, 0, 0), (9, .aload_n 0, 1, 0, 0, 0, 0), (10, .iload_n 1, 1, 0, 0, 0, 0), (11, .iload 4, 2, 0, 0, 0, 0), (13, .iadd, 1, 0, 0, 0, 0), (14, .iaload, 1, 0, 0, 0, 0), (15, .iload_n 3, 1, 0, 0, 0, 0), (16, .if_icmp .ne 6, 3, 22, 0, 0, 0), (19, .iload 4, 2, 0, 0, 0, 0), (21, .ireturn, 1, 0, 0, 0, 0), (22, .iinc 4 1, 3, 0, 0, 0, 0), (25, .goto (-22), 3, 3, 0, 0, 0), (28, .iconst (-1), 1, 0, 0, 0, (-1)), (29, .ireturn, 1, 0, 0, 0, 0)]
/-- 67: SpeakClockModel.isIn(III)Z -/
def cd_M_isIn : List mE := [(0, .iload_n 0, 1, 0, 0, 0, 0), (1, .iload_n 1, 1, 0, 0, 0, 0), (2, .if_icmp .lt 12, 3, 14, 0, 0, 0), (5, .iload_n 0, 1, 0, 0, 0, 0), (6, .iload_n 2, 1, 0, 0, 0, 0), (7, .if_icmp .gt 7, 3, 14, 0, 0, 0), (10, .iconst 1, 1, 0, 0, 0, 1), (11, .goto 4, 3, 15, 0, 0, 0), (14, .nop, 0, 0, 0, 0, 0), (14, .iconst 0, 1, 0, 0, 0, 0), (15, .nop, 0, 0, 0, 0, 0), (15, .ireturn, 1, 1, 0, 0, 0)]
/-- 68: SpeakClockModel.number(II)Z -/
def cd_M_number : List mE := [(0, .aload_n 0, 1, 0, 0, 0, 0), (1, .getfield 175, 3, 14, 8, 0, 60024), (4, .iconst 3, 1, 0, 0, 0, 3), (5, .if_icmp .eq 9, 3, 14, 0, 0, 0), (8, .aload_n 0, 1, 0, 0, 0, 0), (9, .iconst 1, 1, 0, 0, 0, 1), (10, .invokevirtual 199, 3, 65, 2, 14, 70073), (13, .ireturn, 1, 1, 0, 0, 0), (14, .aload_n 0, 1, 0, 0, 0, 0), (15, .getfield 186, 3, 14, 9, 0, 60025), (18, .iload_n 1, 1, 0, 0, 0, 0), (19, .iload_n 2, 1, 0, 0, 0, 0), (20, .invokestatic 202, 3, 67, 3, 14, 70088), (23, .ifCond .ne 9, 3, 32, 0, 0, 0), (26, .aload_n 0, 1, 0, 0, 0, 0), (27, .iconst 2, 1, 0, 0, 0, 2), (28, .invokevirtual 199, 3, 65, 2, 14, 70073), (31, .ireturn, 1, 1, 0, 0, 0), (32, .aload_n 0, 1, 0, 0, 0, 0), (33, .aload_n 0, 1, 0, 0, 0, 0), (34, .getfield 186, 3, 14, 9, 0, 60025), (37, .putfield 206, 3, 14, 11, 0, 60027), (40, .aload_n 0, 1, 0, 0, 0, 0), (41, .invokevirtual 209, 3, 64, 1, 14, 70044), (44, .iconst 1, 1, 0, 0, 0, 1), (45, .ireturn, 1, 1, 0, 0, 0)]
/-- 69: SpeakClockModel.isSign(I)Z -/
def cd_M_isSign : List mE := [(0, .aload_n 0, 1, 0, 0, 0, 0), (1, .getfield 175, 3, 14, 8, 0, 60024), (4, .iconst 4, 1, 0, 0, 0, 4), (5, .if_icmp .ne 15, 3, 20, 0, 0, 0), (8, .aload_n 0, 1, 0, 0, 0, 0), (9, .getfield 186, 3, 14, 9, 0, 60025), (12, .iload_n 1, 1, 0, 0, 0, 0), (13, .if_icmp .ne 7, 3, 20, 0, 0, 0), (16, .iconst 1, 1, 0, 0, 0, 1), (17, .goto 4, 3, 21, 0, 0, 0), (20, .nop, 0, 0, 0, 0, 0), (20, .iconst 0, 1, 0, 0, 0, 0), (21, .nop, 0, 0, 0, 0, 0), (21, .ireturn, 1, 1, 0, 0, 0)]
/-- 70: SpeakClockModel.signed(I)Z -/
def cd_M_signed : List mE := [(0, .aload_n 0, 1, 0, 0, 0, 0), (1, .bipush 45, 2, 0, 0, 0, 45), (3, .invokevirtual 212, 3, 69, 2, 14, 70095), (6, .istore_n 2, 1, 0, 0, 0, 0), (7, .iload_n 2, 1, 0, 0, 0, 0), (8, .ifCond .eq 7, 3, 15, 0, 0, 0), (11, .aload_n 0, 1, 0, 0, 0, 0), (12, .invokevirtual 209, 3, 64, 1, 14, 70044), (15, .nop, 0, 7, 0, 0, 0), (15, .aload_n 0, 1, 0, 0, 0, 0), (16, .iconst 0, 1, 0, 0, 0, 0), (17, .iload_n 1, 1, 0, 0, 0, 0), (18, .invokevirtual 215, 3, 68, 3, 14, 70084), (21, .ifCond .ne 5, 3, 26, 0, 0, 0), (24, .iconst 0, 1, 0, 0, 0, 0), (25, .ireturn, 1, 1, 0, 0, 0), (26, .aload_n 0, 1, 0, 0, 0, 0), (27, .iload_n 2, 1, 0, 0, 0, 0), (28, .ifCond .eq 11, 3, 39, 0, 0, 0), (31, .aload_n 0, 1, 0, 0, 0, 0), (32, .getfield 206, 3, 14, 11, 0, 60027), (35, .ineg, 1, 0, 0, 0, 0), (36, .goto 7, 3, 43, 0, 0, 0), (39, .aload_n 0, 1, 0, 0, 0, 0), (40, .getfield 206, 3, 14, 11, 0, 60027), (43, .nop, 0, 0, 0, 0, 0), (43, .putfield 206, 3, 14, 11, 0, 60027), (46, .iconst 1, 1, 0, 0, 0, 1), (47, .ireturn, 1, 1, 0, 0, 0)]
/-- 71: SpeakClockModel.manLine()Z -/
def cd_M_manLine : List mE := [(0, .aload_n 0, 1, 0, 0, 0, 0), (1, .getfield 219, 3, 14, 17, 0, 60033), (4, .bipush 6, 2, 0, 0, 0, 6), (6, .if_icmp .ne 9, 3, 15, 0, 0, 0), (9, .aload_n 0, 1, 0, 0, 0, 0), (10, .iconst 2, 1, 0, 0, 0, 2), (11, .invokevirtual 199, 3, 65, 2, 14, 70073), (14, .ireturn, 1, 1, 0, 0, 0), (15, .aload_n 0, 1, 0, 0, 0, 0), (16, .invokevirtual 209, 3, 64, 1, 14, 70044), (19, .aload_n 0, 1, 0, 0, 0, 0), (20, .getfield 175, 3, 14, 8, 0, 60024), (23, .iconst 2, 1, 0, 0, 0, 2), (24, .if_icmp .eq 9, 3, 33, 0, 0, 0), (27, .aload_n 0, 1, 0, 0, 0, 0), (28, .iconst 1, 1, 0, 0, 0, 1), (29, .invokevirtual 199, 3, 65, 2, 14, 70073), (32, .ireturn, 1, 1, 0, 0, 0), (33, .aload_n 0, 1, 0, 0, 0, 0), (34, .getfield 27, 3, 14, 24, 2, 60040), (37, .bipush 6, 2, 0, 0, 0, 6), (39, .aload_n 0, 1, 0, 0, 0, 0), (40, .getfield 219, 3, 14, 17, 0, 60033), (43, .aload_n 0, 1, 0, 0, 0, 0), (44, .getfield 186, 3, 14, 9, 0, 60025), (47, .invokestatic 259, 3, 66, 4, 14, 70081), (50, .ifCond .lt 9, 3, 59, 0, 0, 0), (53, .aload_n 0, 1, 0, 0, 0, 0), (54, .iconst 3, 1, 0, 0, 0, 3), (55, .invokevirtual 199, 3, 65, 2, 14, 70073), (58, .ireturn, 1, 1, 0, 0, 0), (59, .bipush 6, 2, 0, 0, 0, 6), (61, .aload_n 0, 1, 0, 0, 0, 0), (62, .getfield 219, 3, 14, 17, 0, 60033), (65, .iadd, 1, 0, 0, 0, 0), (66, .istore_n 1, 1, 0, 0, 0, 0), (67, .aload_n 0, 1, 0, 0, 0, 0), (68, .getfield 27, 3, 14, 24, 2, 60040), (71, .iload_n 1, 1, 0, 0, 0, 0), (72, .aload_n 0, 1, 0, 0, 0, 0), (73, .getfield 186, 3, 14, 9, 0, 60025), (76, .iastore, 1, 0, 0, 0, 0), (77, .aload_n 0, 1, 0, 0, 0, 0), (78, .invokevirtual 209, 3, 64, 1, 14, 70044), (81, .aload_n 0, 1, 0, 0, 0, 0), (82, .iconst 1, 1, 0, 0, 0, 1), (83, .bipush 9, 2, 0, 0, 0, 9), (85, .invokevirtual 215, 3, 68, 3, 14, 70084), (88, .ifCond .ne 5, 3, 93, 0, 0, 0), (91, .iconst 0, 1, 0, 0, 0, 0), (92, .ireturn, 1, 1, 0, 0, 0), (93, .aload_n 0, 1, 0, 0, 0, 0), (94, .getfield 30, 3, 14, 25, 2, 60041), (97, .iload_n 1, 1, 0, 0, 0, 0), (98, .aload_n 0, 1, 0, 0, 0, 0), (99, .getfield 206, 3, 14, 11, 0, 60027), (102, .iastore, 1, 0, 0, 0, 0), (103, .aload_n 0, 1, 0, 0, 0, 0), (104, .iconst 0, 1, 0, 0, 0, 0), (105, .bipush 30, 2, 0, 0, 0, 30), (107, .invokevirtual 215, 3, 68, 3, 14, 70084), (110, .ifCond .ne 5, 3, 115, 0, 0, 0), (113, .iconst 0, 1, 0, 0, 0, 0), (114, .ireturn, 1, 1, 0, 0, 0), (115, .aload_n 0, 1, 0, 0, 0, 0), (116, .getfield 33, 3, 14, 26, 2, 60042), (119, .iload_n 1, 1, 0, 0, 0, 0), (120, .aload_n 0, 1, 0, 0, 0, 0), (121, .getfield 206, 3, 14, 11, 0, 60027), (124, .iastore, 1, 0, 0, 0, 0), (125, .aload_n 0, 1, 0, 0, 0, 0), (126, .bipush 30, 2, 0, 0, 0, 30), (128, .invokevirtual 263, 3, 70, 2, 14, 70091), (131, .ifCond .ne 5, 3, 136, 0, 0, 0), (134, .iconst 0, 1, 0, 0, 0, 0), (135, .ireturn, 1, 1, 0, 0, 0), (136, .aload_n 0, 1, 0, 0, 0, 0), (137, .getfield 36, 3, 14, 27, 2, 60043), (140, .iload_n 1, 1, 0, 0, 0, 0), (141, .aload_n 0, 1, 0, 0, 0, 0), (142, .getfield 206, 3, 14, 11, 0, 60027), (145, .iastore, 1, 0, 0, 0, 0), (146, .aload_n 0, 1, 0, 0, 0, 0), (147, .bipush 9, 2, 0, 0, 0, 9), (149, .invokevirtual 263, 3, 70, 2, 14, 70091), (152, .ifCond .ne 5, 3, 157, 0, 0, 0), (155, .iconst 0, 1, 0, 0, 0, 0), (156, .ireturn, 1, 1, 0, 0, 0), (157, .aload_n 0, 1, 0, 0, 0, 0), (158, .getfield 39, 3, 14, 28, 2, 60044), (161, .iload_n 1, 1, 0, 0, 0, 0), (162, .aload_n 0, 1, 0, 0, 0, 0), (163, .getfield 206, 3, 14, 11, 0, 60027), (166, .iastore, 1, 0, 0, 0, 0), (167, .aload_n 0, 1, 0, 0, 0, 0), (168, .dup, 1, 0, 0, 0, 0), (169, .getfield 219, 3, 14, 17, 0, 60033), (172, .iconst 1, 1, 0, 0, 0, 1), (173, .iadd, 1, 0, 0, 0, 0), (174, .putfield 219, 3, 14, 17, 0, 60033), (177, .iconst 1, 1, 0, 0, 0, 1), (178, .ireturn, 1, 1, 0, 0, 0)]
/-- 72: SpeakClockModel.manThere()Z -/
def cd_M_manThere : List mE := [(0, .aload_n 0, 1, 0, 0, 0, 0), (1, .getfield 175, 3, 14, 8, 0, 60024), (4, .iconst 2, 1, 0, 0, 0, 2), (5, .if_icmp .eq 9, 3, 14, 0, 0, 0), (8, .aload_n 0, 1, 0, 0, 0, 0), (9, .iconst 1, 1, 0, 0, 0, 1), (10, .invokevirtual 199, 3, 65, 2, 14, 70073), (13, .ireturn, 1, 1, 0, 0, 0), (14, .aload_n 0, 1, 0, 0, 0, 0), (15, .getfield 27, 3, 14, 24, 2, 60040), (18, .bipush 6, 2, 0, 0, 0, 6), (20, .aload_n 0, 1, 0, 0, 0, 0), (21, .getfield 219, 3, 14, 17, 0, 60033), (24, .aload_n 0, 1, 0, 0, 0, 0), (25, .getfield 186, 3, 14, 9, 0, 60025), (28, .invokestatic 259, 3, 66, 4, 14, 70081), (31, .istore_n 1, 1, 0, 0, 0, 0), (32, .iload_n 1, 1, 0, 0, 0, 0), (33, .ifCond .ge 9, 3, 42, 0, 0, 0), (36, .aload_n 0, 1, 0, 0, 0, 0), (37, .iconst 4, 1, 0, 0, 0, 4), (38, .invokevirtual 199, 3, 65, 2, 14, 70073), (41, .ireturn, 1, 1, 0, 0, 0), (42, .aload_n 0, 1, 0, 0, 0, 0), (43, .invokevirtual 209, 3, 64, 1, 14, 70044), (46, .aload_n 0, 1, 0, 0, 0, 0), (47, .iload_n 1, 1, 0, 0, 0, 0), (48, .putfield 206, 3, 14, 11, 0, 60027), (51, .iconst 1, 1, 0, 0, 0, 1), (52, .ireturn, 1, 1, 0, 0, 0)]
/-- 73: SpeakClockModel.ringLine()Z -/
def cd_M_ringLine : List mE := [(0, .aload_n 0, 1, 0, 0, 0, 0), (1, .getfield 222, 3, 14, 18, 0, 60034), (4, .bipush 10, 2, 0, 0, 0, 10), (6, .if_icmp .ne 9, 3, 15, 0, 0, 0), (9, .aload_n 0, 1, 0, 0, 0, 0), (10, .iconst 2, 1, 0, 0, 0, 2), (11, .invokevirtual 199, 3, 65, 2, 14, 70073), (14, .ireturn, 1, 1, 0, 0, 0), (15, .aload_n 0, 1, 0, 0, 0, 0), (16, .invokevirtual 209, 3, 64, 1, 14, 70044), (19, .aload_n 0, 1, 0, 0, 0, 0), (20, .invokevirtual 266, 3, 72, 1, 14, 70103), (23, .ifCond .ne 5, 3, 28, 0, 0, 0), (26, .iconst 0, 1, 0, 0, 0, 0), (27, .ireturn, 1, 1, 0, 0, 0), (28, .aload_n 0, 1, 0, 0, 0, 0), (29, .getfield 42, 3, 14, 29, 2, 60045), (32, .bipush 10, 2, 0, 0, 0, 10), (34, .aload_n 0, 1, 0, 0, 0, 0), (35, .getfield 222, 3, 14, 18, 0, 60034), (38, .iadd, 1, 0, 0, 0, 0), (39, .aload_n 0, 1, 0, 0, 0, 0), (40, .getfield 206, 3, 14, 11, 0, 60027), (43, .iastore, 1, 0, 0, 0, 0), (44, .aload_n 0, 1, 0, 0, 0, 0), (45, .iconst 0, 1, 0, 0, 0, 0), (46, .sipush 200, 3, 0, 0, 0, 200), (49, .invokevirtual 215, 3, 68, 3, 14, 70084), (52, .ifCond .ne 5, 3, 57, 0, 0, 0), (55, .iconst 0, 1, 0, 0, 0, 0), (56, .ireturn, 1, 1, 0, 0, 0), (57, .aload_n 0, 1, 0, 0, 0, 0), (58, .getfield 45, 3, 14, 30, 2, 60046), (61, .bipush 10, 2, 0, 0, 0, 10), (63, .aload_n 0, 1, 0, 0, 0, 0), (64, .getfield 222, 3, 14, 18, 0, 60034), (67, .iadd, 1, 0, 0, 0, 0), (68, .aload_n 0, 1, 0, 0, 0, 0), (69, .getfield 206, 3, 14, 11, 0, 60027), (72, .iastore, 1, 0, 0, 0, 0), (73, .aload_n 0, 1, 0, 0, 0, 0), (74, .dup, 1, 0, 0, 0, 0), (75, .getfield 222, 3, 14, 18, 0, 60034), (78, .iconst 1, 1, 0, 0, 0, 1), (79, .iadd, 1, 0, 0, 0, 0), (80, .putfield 222, 3, 14, 18, 0, 60034), (83, .iconst 1, 1, 0, 0, 0, 1), (84, .ireturn, 1, 1, 0, 0, 0)]
/-- 74: SpeakClockModel.meetLine()Z -/
def cd_M_meetLine : List mE := [(0, .aload_n 0, 1, 0, 0, 0, 0), (1, .getfield 225, 3, 14, 19, 0, 60035), (4, .bipush 6, 2, 0, 0, 0, 6), (6, .if_icmp .ne 9, 3, 15, 0, 0, 0), (9, .aload_n 0, 1, 0, 0, 0, 0), (10, .iconst 2, 1, 0, 0, 0, 2), (11, .invokevirtual 199, 3, 65, 2, 14, 70073), (14, .ireturn, 1, 1, 0, 0, 0), (15, .aload_n 0, 1, 0, 0, 0, 0), (16, .invokevirtual 209, 3, 64, 1, 14, 70044), (19, .aload_n 0, 1, 0, 0, 0, 0), (20, .invokevirtual 266, 3, 72, 1, 14, 70103), (23, .ifCond .ne 5, 3, 28, 0, 0, 0), (26, .iconst 0, 1, 0, 0, 0, 0), (27, .ireturn, 1, 1, 0, 0, 0), (28, .aload_n 0, 1, 0, 0, 0, 0), (29, .getfield 206, 3, 14, 11, 0, 60027), (32, .istore_n 1, 1, 0, 0, 0, 0), (33, .aload_n 0, 1, 0, 0, 0, 0), (34, .getfield 166, 3, 14, 10, 0, 60026), (37, .istore_n 2, 1, 0, 0, 0, 0), (38, .aload_n 0, 1, 0, 0, 0, 0), (39, .invokevirtual 266, 3, 72, 1, 14, 70103), (42, .ifCond .ne 5, 3, 47, 0, 0, 0), (45, .iconst 0, 1, 0, 0, 0, 0), (46, .ireturn, 1, 1, 0, 0, 0), (47, .iload_n 1, 1, 0, 0, 0, 0), (48, .aload_n 0, 1, 0, 0, 0, 0), (49, .getfield 206, 3, 14, 11, 0, 60027), (52, .if_icmp .ne 14, 3, 66, 0, 0, 0), (55, .aload_n 0, 1, 0, 0, 0, 0), (56, .iload_n 2, 1, 0, 0, 0, 0), (57, .putfield 166, 3, 14, 10, 0, 60026), (60, .aload_n 0, 1, 0, 0, 0, 0), (61, .iconst 5, 1, 0, 0, 0, 5), (62, .invokevirtual 199, 3, 65, 2, 14, 70073), (65, .ireturn, 1, 1, 0, 0, 0), (66, .aload_n 0, 1, 0, 0, 0, 0), (67, .getfield 48, 3, 14, 31, 2, 60047), (70, .bipush 6, 2, 0, 0, 0, 6), (72, .aload_n 0, 1, 0, 0, 0, 0), (73, .getfield 225, 3, 14, 19, 0, 60035), (76, .iadd, 1, 0, 0, 0, 0), (77, .iload_n 1, 1, 0, 0, 0, 0), (78, .iastore, 1, 0, 0, 0, 0), (79, .aload_n 0, 1, 0, 0, 0, 0), (80, .getfield 51, 3, 14, 32, 2, 60048), (83, .bipush 6, 2, 0, 0, 0, 6), (85, .aload_n 0, 1, 0, 0, 0, 0), (86, .getfield 225, 3, 14, 19, 0, 60035), (89, .iadd, 1, 0, 0, 0, 0), (90, .aload_n 0, 1, 0, 0, 0, 0), (91, .getfield 206, 3, 14, 11, 0, 60027), (94, .iastore, 1, 0, 0, 0, 0), (95, .aload_n 0, 1, 0, 0, 0, 0), (96, .iconst 0, 1, 0, 0, 0, 0), (97, .sipush 300, 3, 0, 0, 0, 300), (100, .invokevirtual 215, 3, 68, 3, 14, 70084), (103, .ifCond .ne 5, 3, 108, 0, 0, 0), (106, .iconst 0, 1, 0, 0, 0, 0), (107, .ireturn, 1, 1, 0, 0, 0), (108, .aload_n 0, 1, 0, 0, 0, 0), (109, .getfield 54, 3, 14, 33, 2, 60049), (112, .bipush 6, 2, 0, 0, 0, 6), (114, .aload_n 0, 1, 0, 0, 0, 0), (115, .getfield 225, 3, 14, 19, 0, 60035), (118, .iadd, 1, 0, 0, 0, 0), (119, .aload_n 0, 1, 0, 0, 0, 0), (120, .getfield 206, 3, 14, 11, 0, 60027), (123, .iastore, 1, 0, 0, 0, 0), (124, .aload_n 0, 1, 0, 0, 0, 0), (125, .dup, 1, 0, 0, 0, 0), (126, .getfield 225, 3, 14, 19, 0, 60035), (129, .iconst 1, 1, 0, 0, 0, 1), (130, .iadd, 1, 0, 0, 0, 0), (131, .putfield 225, 3, 14, 19, 0, 60035), (134, .iconst 1, 1, 0, 0, 0, 1), (135, .ireturn, 1, 1, 0, 0, 0)]
/-- 75: SpeakClockModel.coldLine()Z -/
def cd_M_coldLine : List mE := [(0, .aload_n 0, 1, 0, 0, 0, 0), (1, .getfield 228, 3, 14, 20, 0, 60036), (4, .iconst 3, 1, 0, 0, 0, 3), (5, .if_icmp .ne 9, 3, 14, 0, 0, 0), (8, .aload_n 0, 1, 0, 0, 0, 0), (9, .iconst 2, 1, 0, 0, 0, 2), (10, .invokevirtual 199, 3, 65, 2, 14, 70073), (13, .ireturn, 1, 1, 0, 0, 0), (14, .aload_n 0, 1, 0, 0, 0, 0), (15, .invokevirtual 209, 3, 64, 1, 14, 70044), (18, .aload_n 0, 1, 0, 0, 0, 0), (19, .iconst 0, 1, 0, 0, 0, 0), (20, .sipush 200, 3, 0, 0, 0, 200), (23, .invokevirtual 215, 3, 68, 3, 14, 70084), (26, .ifCond .ne 5, 3, 31, 0, 0, 0), (29, .iconst 0, 1, 0, 0, 0, 0), (30, .ireturn, 1, 1, 0, 0, 0), (31, .aload_n 0, 1, 0, 0, 0, 0), (32, .getfield 206, 3, 14, 11, 0, 60027), (35, .istore_n 1, 1, 0, 0, 0, 0), (36, .aload_n 0, 1, 0, 0, 0, 0), (37, .getfield 57, 3, 14, 34, 2, 60050), (40, .iconst 3, 1, 0, 0, 0, 3), (41, .aload_n 0, 1, 0, 0, 0, 0), (42, .getfield 228, 3, 14, 20, 0, 60036), (45, .iadd, 1, 0, 0, 0, 0), (46, .iload_n 1, 1, 0, 0, 0, 0), (47, .iastore, 1, 0, 0, 0, 0), (48, .aload_n 0, 1, 0, 0, 0, 0), (49, .iload_n 1, 1, 0, 0, 0, 0), (50, .sipush 200, 3, 0, 0, 0, 200), (53, .invokevirtual 215, 3, 68, 3, 14, 70084), (56, .ifCond .ne 5, 3, 61, 0, 0, 0), (59, .iconst 0, 1, 0, 0, 0, 0), (60, .ireturn, 1, 1, 0, 0, 0), (61, .aload_n 0, 1, 0, 0, 0, 0), (62, .getfield 60, 3, 14, 35, 2, 60051), (65, .iconst 3, 1, 0, 0, 0, 3), (66, .aload_n 0, 1, 0, 0, 0, 0), (67, .getfield 228, 3, 14, 20, 0, 60036), (70, .iadd, 1, 0, 0, 0, 0), (71, .aload_n 0, 1, 0, 0, 0, 0), (72, .getfield 206, 3, 14, 11, 0, 60027), (75, .iastore, 1, 0, 0, 0, 0), (76, .aload_n 0, 1, 0, 0, 0, 0), (77, .dup, 1, 0, 0, 0, 0), (78, .getfield 228, 3, 14, 20, 0, 60036), (81, .iconst 1, 1, 0, 0, 0, 1), (82, .iadd, 1, 0, 0, 0, 0), (83, .putfield 228, 3, 14, 20, 0, 60036), (86, .iconst 1, 1, 0, 0, 0, 1), (87, .ireturn, 1, 1, 0, 0, 0)]
/-- 76: SpeakClockModel.onceLine(II)Z -/
def cd_M_onceLine : List mE := [(0, .aload_n 0, 1, 0, 0, 0, 0), (1, .getfield 20, 3, 14, 22, 2, 60038), (4, .iload_n 1, 1, 0, 0, 0, 0), (5, .baload, 1, 0, 0, 0, 0), (6, .ifCond .eq 9, 3, 15, 0, 0, 0), (9, .aload_n 0, 1, 0, 0, 0, 0), (10, .iconst 3, 1, 0, 0, 0, 3), (11, .invokevirtual 199, 3, 65, 2, 14, 70073), (14, .ireturn, 1, 1, 0, 0, 0), (15, .aload_n 0, 1, 0, 0, 0, 0), (16, .getfield 20, 3, 14, 22, 2, 60038), (19, .iload_n 1, 1, 0, 0, 0, 0), (20, .iconst 1, 1, 0, 0, 0, 1), (21, .bastore, 1, 0, 0, 0, 0), (22, .aload_n 0, 1, 0, 0, 0, 0), (23, .invokevirtual 209, 3, 64, 1, 14, 70044), (26, .aload_n 0, 1, 0, 0, 0, 0), (27, .iconst 0, 1, 0, 0, 0, 0), (28, .iload_n 2, 1, 0, 0, 0, 0), (29, .invokevirtual 215, 3, 68, 3, 14, 70084), (32, .ifCond .ne 5, 3, 37, 0, 0, 0), (35, .iconst 0, 1, 0, 0, 0, 0), (36, .ireturn, 1, 1, 0, 0, 0), (37, .aload_n 0, 1, 0, 0, 0, 0), (38, .getfield 24, 3, 14, 23, 2, 60039), (41, .iconst 2, 1, 0, 0, 0, 2), (42, .iload_n 1, 1, 0, 0, 0, 0), (43, .iadd, 1, 0, 0, 0, 0), (44, .aload_n 0, 1, 0, 0, 0, 0), (45, .getfield 206, 3, 14, 11, 0, 60027), (48, .iastore, 1, 0, 0, 0, 0), (49, .iconst 1, 1, 0, 0, 0, 1), (50, .ireturn, 1, 1, 0, 0, 0)]
/-- 77: SpeakClockModel.waitsFor(I)V -/
def cd_M_waitsFor : List mE := [(0, .aload_n 0, 1, 0, 0, 0, 0), (1, .getfield 81, 3, 14, 42, 2, 60058), (4, .aload_n 0, 1, 0, 0, 0, 0), (5, .getfield 294, 3, 14, 44, 0, 60060), (8, .iload_n 1, 1, 0, 0, 0, 0), (9, .iastore, 1, 0, 0, 0, 0), (10, .aload_n 0, 1, 0, 0, 0, 0), (11, .dup, 1, 0, 0, 0, 0), (12, .getfield 294, 3, 14, 44, 0, 60060), (15, .iconst 1, 1, 0, 0, 0, 1), (16, .iadd, 1, 0, 0, 0, 0), (17, .putfield 294, 3, 14, 44, 0, 60060), (20, .return_, 1, 0, 0, 0, 0)]
/-- 78: SpeakClockModel.isKey(I)Z -/
def cd_M_isKey : List mE := [(0, .aload_n 0, 1, 0, 0, 0, 0), (1, .getfield 175, 3, 14, 8, 0, 60024), (4, .iconst 1, 1, 0, 0, 0, 1), (5, .if_icmp .ne 15, 3, 20, 0, 0, 0), (8, .aload_n 0, 1, 0, 0, 0, 0), (9, .getfield 186, 3, 14, 9, 0, 60025), (12, .iload_n 1, 1, 0, 0, 0, 0), (13, .if_icmp .ne 7, 3, 20, 0, 0, 0), (16, .iconst 1, 1, 0, 0, 0, 1), (17, .goto 4, 3, 21, 0, 0, 0), (20, .nop, 0, 0, 0, 0, 0), (20, .iconst 0, 1, 0, 0, 0, 0), (21, .nop, 0, 0, 0, 0, 0), (21, .ireturn, 1, 1, 0, 0, 0)]
/-- 79: SpeakClockModel.isCounted()Z -/
def cd_M_isCounted : List mE := [(0, .aload_n 0, 1, 0, 0, 0, 0), (1, .getfield 234, 3, 14, 47, 0, 60063), (4, .bipush 64, 2, 0, 0, 0, 64), (6, .if_icmp .ne 9, 3, 15, 0, 0, 0), (9, .aload_n 0, 1, 0, 0, 0, 0), (10, .iconst 2, 1, 0, 0, 0, 2), (11, .invokevirtual 199, 3, 65, 2, 14, 70073), (14, .ireturn, 1, 1, 0, 0, 0), (15, .aload_n 0, 1, 0, 0, 0, 0), (16, .dup, 1, 0, 0, 0, 0), (17, .getfield 234, 3, 14, 47, 0, 60063), (20, .iconst 1, 1, 0, 0, 0, 1), (21, .iadd, 1, 0, 0, 0, 0), (22, .putfield 234, 3, 14, 47, 0, 60063), (25, .iconst 1, 1, 0, 0, 0, 1), (26, .ireturn, 1, 1, 0, 0, 0)]
/-- 80: SpeakClockModel.nameMet()I -/
def cd_M_nameMet : List mE := [(0, .aload_n 0, 1, 0, 0, 0, 0), (1, .getfield 175, 3, 14, 8, 0, 60024), (4, .iconst 1, 1, 0, 0, 0, 1), (5, .if_icmp .ne 22, 3, 27, 0, 0, 0), (8, .aload_n 0, 1, 0, 0, 0, 0), (9, .getfield 186, 3, 14, 9, 0, 60025), (12, .bipush 13, 2, 0, 0, 0, 13), (14, .if_icmp .lt 13, 3, 27, 0, 0, 0), (17, .aload_n 0, 1, 0, 0, 0, 0), (18, .getfield 186, 3, 14, 9, 0, 60025), (21, .bipush 13, 2, 0, 0, 0, 13), (23, .isub, 1, 0, 0, 0, 0), (24, .goto 4, 3, 28, 0, 0, 0), (27, .nop, 0, 0, 0, 0, 0), (27, .iconst (-1), 1, 0, 0, 0, (-1)), (28, .nop, 0, 0, 0, 0, 0), (28, .ireturn, 1, 0, 0, 0, 0)]
/-- 81: SpeakClockModel.grown(III)V -/
def cd_M_grown : List mE := [(0, .aload_n 0, 1, 0, 0, 0, 0), (1, .getfield 72, 3, 14, 39, 2, 60055), (4, .bipush 64, 2, 0, 0, 0, 64), (6, .aload_n 0, 1, 0, 0, 0, 0), (7, .getfield 231, 3, 14, 21, 0, 60037), (10, .iadd, 1, 0, 0, 0, 0), (11, .iload_n 1, 1, 0, 0, 0, 0), (12, .iastore, 1, 0, 0, 0, 0), (13, .aload_n 0, 1, 0, 0, 0, 0), (14, .getfield 75, 3, 14, 40, 2, 60056), (17, .bipush 64, 2, 0, 0, 0, 64), (19, .aload_n 0, 1, 0, 0, 0, 0), (20, .getfield 231, 3, 14, 21, 0, 60037), (23, .iadd, 1, 0, 0, 0, 0), (24, .iload_n 2, 1, 0, 0, 0, 0), (25, .iastore, 1, 0, 0, 0, 0), (26, .aload_n 0, 1, 0, 0, 0, 0), (27, .getfield 78, 3, 14, 41, 2, 60057), (30, .bipush 64, 2, 0, 0, 0, 64), (32, .aload_n 0, 1, 0, 0, 0, 0), (33, .getfield 231, 3, 14, 21, 0, 60037), (36, .iadd, 1, 0, 0, 0, 0), (37, .iload_n 3, 1, 0, 0, 0, 0), (38, .iastore, 1, 0, 0, 0, 0), (39, .aload_n 0, 1, 0, 0, 0, 0), (40, .getfield 84, 3, 14, 43, 2, 60059), (43, .aload_n 0, 1, 0, 0, 0, 0), (44, .getfield 291, 3, 14, 45, 0, 60061), (47, .aload_n 0, 1, 0, 0, 0, 0), (48, .getfield 231, 3, 14, 21, 0, 60037), (51, .iastore, 1, 0, 0, 0, 0), (52, .aload_n 0, 1, 0, 0, 0, 0), (53, .dup, 1, 0, 0, 0, 0), (54, .getfield 291, 3, 14, 45, 0, 60061), (57, .iconst 1, 1, 0, 0, 0, 1), (58, .iadd, 1, 0, 0, 0, 0), (59, .putfield 291, 3, 14, 45, 0, 60061), (62, .aload_n 0, 1, 0, 0, 0, 0), (63, .dup, 1, 0, 0, 0, 0), (64, .getfield 231, 3, 14, 21, 0, 60037), (67, .iconst 1, 1, 0, 0, 0, 1), (68, .iadd, 1, 0, 0, 0, 0), (69, .putfield 231, 3, 14, 21, 0, 60037), (72, .return_, 1, 0, 0, 0, 0)]
/-- 82: SpeakClockModel.leafRead()Z -/
def cd_M_leafRead : List mE := [(0, .aload_n 0, 1, 0, 0, 0, 0), (1, .bipush 40, 2, 0, 0, 0, 40), (3, .invokevirtual 212, 3, 69, 2, 14, 70095), (6, .ifCond .eq 44, 3, 50, 0, 0, 0), (9, .aload_n 0, 1, 0, 0, 0, 0), (10, .getfield 309, 3, 14, 46, 0, 60062), (13, .bipush 8, 2, 0, 0, 0, 8), (15, .if_icmp .ne 9, 3, 24, 0, 0, 0), (18, .aload_n 0, 1, 0, 0, 0, 0), (19, .iconst 2, 1, 0, 0, 0, 2), (20, .invokevirtual 199, 3, 65, 2, 14, 70073), (23, .ireturn, 1, 1, 0, 0, 0), (24, .aload_n 0, 1, 0, 0, 0, 0), (25, .dup, 1, 0, 0, 0, 0), (26, .getfield 309, 3, 14, 46, 0, 60062), (29, .iconst 1, 1, 0, 0, 0, 1), (30, .iadd, 1, 0, 0, 0, 0), (31, .putfield 309, 3, 14, 46, 0, 60062), (34, .aload_n 0, 1, 0, 0, 0, 0), (35, .iconst 0, 1, 0, 0, 0, 0), (36, .invokevirtual 312, 3, 77, 2, 14, 70127), (39, .aload_n 0, 1, 0, 0, 0, 0), (40, .iconst 1, 1, 0, 0, 0, 1), (41, .putfield 316, 3, 14, 49, 3, 60065), (44, .aload_n 0, 1, 0, 0, 0, 0), (45, .invokevirtual 209, 3, 64, 1, 14, 70044), (48, .iconst 1, 1, 0, 0, 0, 1), (49, .ireturn, 1, 1, 0, 0, 0), (50, .aload_n 0, 1, 0, 0, 0, 0), (51, .bipush 12, 2, 0, 0, 0, 12), (53, .invokevirtual 320, 3, 78, 2, 14, 70131), (56, .ifCond .eq 30, 3, 86, 0, 0, 0), (59, .aload_n 0, 1, 0, 0, 0, 0), (60, .getfield 316, 3, 14, 49, 3, 60065), (63, .ifCond .eq 23, 3, 86, 0, 0, 0), (66, .aload_n 0, 1, 0, 0, 0, 0), (67, .invokevirtual 323, 3, 79, 1, 14, 70135), (70, .ifCond .ne 5, 3, 75, 0, 0, 0), (73, .iconst 0, 1, 0, 0, 0, 0), (74, .ireturn, 1, 1, 0, 0, 0), (75, .aload_n 0, 1, 0, 0, 0, 0), (76, .iconst 2, 1, 0, 0, 0, 2), (77, .invokevirtual 312, 3, 77, 2, 14, 70127), (80, .aload_n 0, 1, 0, 0, 0, 0), (81, .invokevirtual 209, 3, 64, 1, 14, 70044), (84, .iconst 1, 1, 0, 0, 0, 1), (85, .ireturn, 1, 1, 0, 0, 0), (86, .nop, 0, 1, 0, 0, 0), (86, .aload_n 0, 1, 0, 0, 0, 0), (87, .invokevirtual 326, 3, 80, 1, 14, 70139), (90, .istore_n 1, 1, 0, 0, 0, 0), (91, .iload_n 1, 1, 0, 0, 0, 0), (92, .ifCond .ge 17, 3, 109, 0, 0, 0), (95, .aload_n 0, 1, 0, 0, 0, 0), (96, .getfield 175, 3, 14, 8, 0, 60024), (99, .iconst 3, 1, 0, 0, 0, 3), (100, .if_icmp .eq 9, 3, 109, 0, 0, 0), (103, .aload_n 0, 1, 0, 0, 0, 0), (104, .iconst 1, 1, 0, 0, 0, 1), (105, .invokevirtual 199, 3, 65, 2, 14, 70073), (108, .ireturn, 1, 1, 0, 0, 0), (109, .nop, 0, 3, 0, 0, 0), (109, .iload_n 1, 1, 0, 0, 0, 0), (110, .ifCond .ge 19, 3, 129, 0, 0, 0), (113, .aload_n 0, 1, 0, 0, 0, 0), (114, .getfield 186, 3, 14, 9, 0, 60025), (117, .sipush 9999, 3, 0, 0, 0, 9999), (120, .if_icmp .le 9, 3, 129, 0, 0, 0), (123, .aload_n 0, 1, 0, 0, 0, 0), (124, .iconst 2, 1, 0, 0, 0, 2), (125, .invokevirtual 199, 3, 65, 2, 14, 70073), (128, .ireturn, 1, 1, 0, 0, 0), (129, .nop, 0, 3, 0, 0, 0), (129, .aload_n 0, 1, 0, 0, 0, 0), (130, .invokevirtual 323, 3, 79, 1, 14, 70135), (133, .ifCond .ne 5, 3, 138, 0, 0, 0), (136, .iconst 0, 1, 0, 0, 0, 0), (137, .ireturn, 1, 1, 0, 0, 0), (138, .aload_n 0, 1, 0, 0, 0, 0), (139, .iload_n 1, 1, 0, 0, 0, 0), (140, .ifCond .lt 7, 3, 147, 0, 0, 0), (143, .iconst 1, 1, 0, 0, 0, 1), (144, .goto 4, 3, 148, 0, 0, 0), (147, .iconst 0, 1, 0, 0, 0, 0), (148, .nop, 0, 3, 0, 0, 0), (148, .iload_n 1, 1, 0, 0, 0, 0), (149, .ifCond .lt 7, 3, 156, 0, 0, 0), (152, .iload_n 1, 1, 0, 0, 0, 0), (153, .goto 7, 3, 160, 0, 0, 0), (156, .aload_n 0, 1, 0, 0, 0, 0), (157, .getfield 186, 3, 14, 9, 0, 60025), (160, .nop, 0, 1, 0, 0, 0), (160, .iconst 0, 1, 0, 0, 0, 0), (161, .invokevirtual 305, 3, 81, 4, 14, 70143), (164, .aload_n 0, 1, 0, 0, 0, 0), (165, .iconst 0, 1, 0, 0, 0, 0), (166, .putfield 329, 3, 14, 48, 3, 60064), (169, .aload_n 0, 1, 0, 0, 0, 0), (170, .invokevirtual 209, 3, 64, 1, 14, 70044), (173, .iconst 1, 1, 0, 0, 0, 1), (174, .ireturn, 1, 1, 0, 0, 0)]
/-- 83: SpeakClockModel.rank(I)I -/
def cd_M_rank : List mE := [(0, .iload_n 0, 1, 0, 0, 0, 0), (1, .bipush 13, 2, 0, 0, 0, 13), (3, .if_icmp .lt 8, 3, 11, 0, 0, 0), (6, .bipush 6, 2, 0, 0, 0, 6), (8, .goto 50, 3, 58, 0, 0, 0), (11, .iload_n 0, 1, 0, 0, 0, 0), (12, .bipush 11, 2, 0, 0, 0, 11), (14, .if_icmp .lt 7, 3, 21, 0, 0, 0), (17, .iconst 5, 1, 0, 0, 0, 5), (18, .goto 40, 3, 58, 0, 0, 0), (21, .iload_n 0, 1, 0, 0, 0, 0), (22, .iconst 5, 1, 0, 0, 0, 5), (23, .if_icmp .lt 7, 3, 30, 0, 0, 0), (26, .iconst 4, 1, 0, 0, 0, 4), (27, .goto 31, 3, 58, 0, 0, 0), (30, .iload_n 0, 1, 0, 0, 0, 0), (31, .iconst 2, 1, 0, 0, 0, 2), (32, .if_icmp .ne 7, 3, 39, 0, 0, 0), (35, .iconst 3, 1, 0, 0, 0, 3), (36, .goto 22, 3, 58, 0, 0, 0), (39, .iload_n 0, 1, 0, 0, 0, 0), (40, .iconst 3, 1, 0, 0, 0, 3), (41, .if_icmp .ne 7, 3, 48, 0, 0, 0), (44, .iconst 2, 1, 0, 0, 0, 2), (45, .goto 13, 3, 58, 0, 0, 0), (48, .iload_n 0, 1, 0, 0, 0, 0), (49, .iconst 4, 1, 0, 0, 0, 4), (50, .if_icmp .ne 7, 3, 57, 0, 0, 0), (53, .iconst 1, 1, 0, 0, 0, 1), (54, .goto 4, 3, 58, 0, 0, 0), (57, .iconst 0, 1, 0, 0, 0, 0), (58, .nop, 0, 0, 0, 0, 0), (58, .ireturn, 1, 0, 0, 0, 0)]
/-- 84: SpeakClockModel.dropHeld()I -/
def cd_M_dropHeld : List mE := [(0, .aload_n 0, 1, 0, 0, 0, 0), (1, .dup, 1, 0, 0, 0, 0), (2, .getfield 291, 3, 14, 45, 0, 60061), (5, .iconst 1, 1, 0, 0, 0, 1), (6, .isub, 1, 0, 0, 0, 0), (7, .putfield 291, 3, 14, 45, 0, 60061), (10, .aload_n 0, 1, 0, 0, 0, 0), (11, .getfield 84, 3, 14, 43, 2, 60059), (14, .aload_n 0, 1, 0, 0, 0, 0), (15, .getfield 291, 3, 14, 45, 0, 60061), (18, .iaload, 1, 0, 0, 0, 0), (19, .ireturn, 1, 0, 0, 0, 0)]
/-- 85: SpeakClockModel.bind(I)V -/
def cd_M_bind : List mE := [(0, .nop, 0, 3, 0, 0, 0), (0, .aload_n 0, 1, 0, 0, 0, 0), (1, .getfield 294, 3, 14, 44, 0, 60060), (4, .ifCond .le 72, 3, 76, 0, 0, 0), (7, .aload_n 0, 1, 0, 0, 0, 0), (8, .getfield 81, 3, 14, 42, 2, 60058), (11, .aload_n 0, 1, 0, 0, 0, 0), (12, .getfield 294, 3, 14, 44, 0, 60060), (15, .iconst 1, 1, 0, 0, 0, 1), (16, .isub, 1, 0, 0, 0, 0), (17, .iaload, 1, 0, 0, 0, 0), (18, .invokestatic 297, 3, 83, 1, 14, 70155), (21, .iload_n 1, 1, 0, 0, 0, 0), (22, .if_icmp .lt 54, 3, 76, 0, 0, 0), (25, .aload_n 0, 1, 0, 0, 0, 0), (26, .dup, 1, 0, 0, 0, 0), (27, .getfield 294, 3, 14, 44, 0, 60060), (30, .iconst 1, 1, 0, 0, 0, 1), (31, .isub, 1, 0, 0, 0, 0), (32, .putfield 294, 3, 14, 44, 0, 60060), (35, .aload_n 0, 1, 0, 0, 0, 0), (36, .getfield 81, 3, 14, 42, 2, 60058), (39, .aload_n 0, 1, 0, 0, 0, 0), (40, .getfield 294, 3, 14, 44, 0, 60060), (43, .iaload, 1, 0, 0, 0, 0), (44, .istore_n 2, 1, 0, 0, 0, 0), (45, .iload_n 2, 1, 0, 0, 0, 0), (46, .iconst 2, 1, 0, 0, 0, 2), (47, .if_icmp .ne 7, 3, 54, 0, 0, 0), (50, .iconst (-1), 1, 0, 0, 0, (-1)), (51, .goto 7, 3, 58, 0, 0, 0), (54, .aload_n 0, 1, 0, 0, 0, 0), (55, .invokevirtual 301, 3, 84, 1, 14, 70158), (58, .nop, 0, 7, 0, 0, 0), (58, .istore_n 3, 1, 0, 0, 0, 0), (59, .aload_n 0, 1, 0, 0, 0, 0), (60, .invokevirtual 301, 3, 84, 1, 14, 70158), (63, .istore 4, 2, 0, 0, 0, 0), (65, .aload_n 0, 1, 0, 0, 0, 0), (66, .iload_n 2, 1, 0, 0, 0, 0), (67, .iload 4, 2, 0, 0, 0, 0), (69, .iload_n 3, 1, 0, 0, 0, 0), (70, .invokevirtual 305, 3, 81, 4, 14, 70143), (73, .goto (-73), 3, 0, 0, 0, 0), (76, .nop, 0, 0, 0, 0, 0), (76, .return_, 1, 0, 0, 0, 0)]
/-- 86: SpeakClockModel.signs()Z -/
def cd_M_signs : List mE := [(0, .aload_n 0, 1, 0, 0, 0, 0), (1, .bipush 41, 2, 0, 0, 0, 41), (3, .invokevirtual 212, 3, 69, 2, 14, 70095), (6, .ifCond .eq 41, 3, 47, 0, 0, 0), (9, .aload_n 0, 1, 0, 0, 0, 0), (10, .getfield 309, 3, 14, 46, 0, 60062), (13, .ifCond .le 34, 3, 47, 0, 0, 0), (16, .aload_n 0, 1, 0, 0, 0, 0), (17, .iconst 1, 1, 0, 0, 0, 1), (18, .invokevirtual 332, 3, 85, 2, 14, 70151), (21, .aload_n 0, 1, 0, 0, 0, 0), (22, .dup, 1, 0, 0, 0, 0), (23, .getfield 294, 3, 14, 44, 0, 60060), (26, .iconst 1, 1, 0, 0, 0, 1), (27, .isub, 1, 0, 0, 0, 0), (28, .putfield 294, 3, 14, 44, 0, 60060), (31, .aload_n 0, 1, 0, 0, 0, 0), (32, .dup, 1, 0, 0, 0, 0), (33, .getfield 309, 3, 14, 46, 0, 60062), (36, .iconst 1, 1, 0, 0, 0, 1), (37, .isub, 1, 0, 0, 0, 0), (38, .putfield 309, 3, 14, 46, 0, 60062), (41, .aload_n 0, 1, 0, 0, 0, 0), (42, .invokevirtual 209, 3, 64, 1, 14, 70044), (45, .iconst 1, 1, 0, 0, 0, 1), (46, .ireturn, 1, 1, 0, 0, 0), (47, .nop, 0, 1, 0, 0, 0), (47, .aload_n 0, 1, 0, 0, 0, 0), (48, .bipush 10, 2, 0, 0, 0, 10), (50, .invokevirtual 320, 3, 78, 2, 14, 70131), (53, .ifCond .eq 7, 3, 60, 0, 0, 0), (56, .iconst 3, 1, 0, 0, 0, 3), (57, .goto 90, 3, 147, 0, 0, 0), (60, .aload_n 0, 1, 0, 0, 0, 0), (61, .bipush 11, 2, 0, 0, 0, 11), (63, .invokevirtual 320, 3, 78, 2, 14, 70131), (66, .ifCond .eq 7, 3, 73, 0, 0, 0), (69, .iconst 4, 1, 0, 0, 0, 4), (70, .goto 77, 3, 147, 0, 0, 0), (73, .aload_n 0, 1, 0, 0, 0, 0), (74, .getfield 175, 3, 14, 8, 0, 60024), (77, .iconst 5, 1, 0, 0, 0, 5), (78, .if_icmp .ne 12, 3, 90, 0, 0, 0), (81, .iconst 5, 1, 0, 0, 0, 5), (82, .aload_n 0, 1, 0, 0, 0, 0), (83, .getfield 186, 3, 14, 9, 0, 60025), (86, .iadd, 1, 0, 0, 0, 0), (87, .goto 60, 3, 147, 0, 0, 0), (90, .aload_n 0, 1, 0, 0, 0, 0), (91, .bipush 43, 2, 0, 0, 0, 43), (93, .invokevirtual 212, 3, 69, 2, 14, 70095), (96, .ifCond .eq 8, 3, 104, 0, 0, 0), (99, .bipush 11, 2, 0, 0, 0, 11), (101, .goto 46, 3, 147, 0, 0, 0), (104, .aload_n 0, 1, 0, 0, 0, 0), (105, .bipush 45, 2, 0, 0, 0, 45), (107, .invokevirtual 212, 3, 69, 2, 14, 70095), (110, .ifCond .eq 8, 3, 118, 0, 0, 0), (113, .bipush 12, 2, 0, 0, 0, 12), (115, .goto 32, 3, 147, 0, 0, 0), (118, .aload_n 0, 1, 0, 0, 0, 0), (119, .bipush 42, 2, 0, 0, 0, 42), (121, .invokevirtual 212, 3, 69, 2, 14, 70095), (124, .ifCond .eq 8, 3, 132, 0, 0, 0), (127, .bipush 13, 2, 0, 0, 0, 13), (129, .goto 18, 3, 147, 0, 0, 0), (132, .aload_n 0, 1, 0, 0, 0, 0), (133, .bipush 47, 2, 0, 0, 0, 47), (135, .invokevirtual 212, 3, 69, 2, 14, 70095), (138, .ifCond .eq 8, 3, 146, 0, 0, 0), (141, .bipush 14, 2, 0, 0, 0, 14), (143, .goto 4, 3, 147, 0, 0, 0), (146, .iconst 0, 1, 0, 0, 0, 0), (147, .nop, 0, 1, 0, 0, 0), (147, .istore_n 1, 1, 0, 0, 0, 0), (148, .iload_n 1, 1, 0, 0, 0, 0), (149, .ifCond .ne 9, 3, 158, 0, 0, 0), (152, .aload_n 0, 1, 0, 0, 0, 0), (153, .iconst 1, 1, 0, 0, 0, 1), (154, .invokevirtual 199, 3, 65, 2, 14, 70073), (157, .ireturn, 1, 1, 0, 0, 0), (158, .aload_n 0, 1, 0, 0, 0, 0), (159, .iload_n 1, 1, 0, 0, 0, 0), (160, .invokestatic 297, 3, 83, 1, 14, 70155), (163, .iconst 4, 1, 0, 0, 0, 4), (164, .if_icmp .ne 7, 3, 171, 0, 0, 0), (167, .iconst 5, 1, 0, 0, 0, 5), (168, .goto 7, 3, 175, 0, 0, 0), (171, .iload_n 1, 1, 0, 0, 0, 0), (172, .invokestatic 297, 3, 83, 1, 14, 70155), (175, .nop, 0, 3, 0, 0, 0), (175, .invokevirtual 332, 3, 85, 2, 14, 70151), (178, .iload_n 1, 1, 0, 0, 0, 0), (179, .invokestatic 297, 3, 83, 1, 14, 70155), (182, .iconst 4, 1, 0, 0, 0, 4), (183, .if_icmp .ne 34, 3, 217, 0, 0, 0), (186, .aload_n 0, 1, 0, 0, 0, 0), (187, .getfield 294, 3, 14, 44, 0, 60060), (190, .ifCond .le 27, 3, 217, 0, 0, 0), (193, .aload_n 0, 1, 0, 0, 0, 0), (194, .getfield 81, 3, 14, 42, 2, 60058), (197, .aload_n 0, 1, 0, 0, 0, 0), (198, .getfield 294, 3, 14, 44, 0, 60060), (201, .iconst 1, 1, 0, 0, 0, 1), (202, .isub, 1, 0, 0, 0, 0), (203, .iaload, 1, 0, 0, 0, 0), (204, .invokestatic 297, 3, 83, 1, 14, 70155), (207, .iconst 4, 1, 0, 0, 0, 4), (208, .if_icmp .ne 9, 3, 217, 0, 0, 0), (211, .aload_n 0, 1, 0, 0, 0, 0), (212, .iconst 1, 1, 0, 0, 0, 1), (213, .invokevirtual 199, 3, 65, 2, 14, 70073), (216, .ireturn, 1, 1, 0, 0, 0), (217, .nop, 0, 3, 0, 0, 0), (217, .aload_n 0, 1, 0, 0, 0, 0), (218, .invokevirtual 323, 3, 79, 1, 14, 70135), (221, .ifCond .ne 5, 3, 226, 0, 0, 0), (224, .iconst 0, 1, 0, 0, 0, 0), (225, .ireturn, 1, 1, 0, 0, 0), (226, .aload_n 0, 1, 0, 0, 0, 0), (227, .iload_n 1, 1, 0, 0, 0, 0), (228, .invokevirtual 312, 3, 77, 2, 14, 70127), (231, .aload_n 0, 1, 0, 0, 0, 0), (232, .iconst 1, 1, 0, 0, 0, 1), (233, .putfield 329, 3, 14, 48, 3, 60064), (236, .aload_n 0, 1, 0, 0, 0, 0), (237, .iload_n 1, 1, 0, 0, 0, 0), (238, .invokestatic 297, 3, 83, 1, 14, 70155), (241, .iconst 3, 1, 0, 0, 0, 3), (242, .if_icmp .ge 7, 3, 249, 0, 0, 0), (245, .iconst 1, 1, 0, 0, 0, 1), (246, .goto 4, 3, 250, 0, 0, 0), (249, .iconst 0, 1, 0, 0, 0, 0), (250, .nop, 0, 1, 0, 0, 0), (250, .putfield 316, 3, 14, 49, 3, 60065), (253, .aload_n 0, 1, 0, 0, 0, 0), (254, .invokevirtual 209, 3, 64, 1, 14, 70044), (257, .iconst 1, 1, 0, 0, 0, 1), (258, .ireturn, 1, 1, 0, 0, 0)]
/-- 87: SpeakClockModel.sumRead()Z -/
def cd_M_sumRead : List mE := [(0, .aload_n 0, 1, 0, 0, 0, 0), (1, .iconst 0, 1, 0, 0, 0, 0), (2, .putfield 294, 3, 14, 44, 0, 60060), (5, .aload_n 0, 1, 0, 0, 0, 0), (6, .iconst 0, 1, 0, 0, 0, 0), (7, .putfield 291, 3, 14, 45, 0, 60061), (10, .aload_n 0, 1, 0, 0, 0, 0), (11, .iconst 0, 1, 0, 0, 0, 0), (12, .putfield 309, 3, 14, 46, 0, 60062), (15, .aload_n 0, 1, 0, 0, 0, 0), (16, .iconst 1, 1, 0, 0, 0, 1), (17, .putfield 329, 3, 14, 48, 3, 60064), (20, .aload_n 0, 1, 0, 0, 0, 0), (21, .iconst 1, 1, 0, 0, 0, 1), (22, .putfield 316, 3, 14, 49, 3, 60065), (25, .nop, 0, 1, 0, 0, 0), (25, .aload_n 0, 1, 0, 0, 0, 0), (26, .bipush 59, 2, 0, 0, 0, 59), (28, .invokevirtual 212, 3, 69, 2, 14, 70095), (31, .ifCond .eq 17, 3, 48, 0, 0, 0), (34, .aload_n 0, 1, 0, 0, 0, 0), (35, .getfield 329, 3, 14, 48, 3, 60064), (38, .ifCond .ne 10, 3, 48, 0, 0, 0), (41, .aload_n 0, 1, 0, 0, 0, 0), (42, .getfield 309, 3, 14, 46, 0, 60062), (45, .ifCond .le 29, 3, 74, 0, 0, 0), (48, .nop, 0, 1, 0, 0, 0), (48, .aload_n 0, 1, 0, 0, 0, 0), (49, .getfield 329, 3, 14, 48, 3, 60064), (52, .ifCond .eq 13, 3, 65, 0, 0, 0), (55, .aload_n 0, 1, 0, 0, 0, 0), (56, .invokevirtual 335, 3, 82, 1, 14, 70123), (59, .ifCond .eq 13, 3, 72, 0, 0, 0), (62, .goto (-37), 3, 25, 0, 0, 0), (65, .aload_n 0, 1, 0, 0, 0, 0), (66, .invokevirtual 338, 3, 86, 1, 14, 70147), (69, .ifCond .ne (-44), 3, 25, 0, 0, 0), (72, .nop, 0, 0, 0, 0, 0), (72, .iconst 0, 1, 0, 0, 0, 0), (73, .ireturn, 1, 1, 0, 0, 0), (74, .aload_n 0, 1, 0, 0, 0, 0), (75, .iconst 1, 1, 0, 0, 0, 1), (76, .invokevirtual 332, 3, 85, 2, 14, 70151), (79, .iconst 1, 1, 0, 0, 0, 1), (80, .ireturn, 1, 1, 0, 0, 0)]
/-- 88: SpeakClockModel.lineRead()Z -/
def cd_M_lineRead : List mE := [(0, .aload_n 0, 1, 0, 0, 0, 0), (1, .getfield 175, 3, 14, 8, 0, 60024), (4, .iconst 1, 1, 0, 0, 0, 1), (5, .if_icmp .ne 12, 3, 17, 0, 0, 0), (8, .aload_n 0, 1, 0, 0, 0, 0), (9, .getfield 186, 3, 14, 9, 0, 60025), (12, .bipush 6, 2, 0, 0, 0, 6), (14, .if_icmp .le 9, 3, 23, 0, 0, 0), (17, .nop, 0, 1, 0, 0, 0), (17, .aload_n 0, 1, 0, 0, 0, 0), (18, .iconst 1, 1, 0, 0, 0, 1), (19, .invokevirtual 199, 3, 65, 2, 14, 70073), (22, .ireturn, 1, 1, 0, 0, 0), (23, .aload_n 0, 1, 0, 0, 0, 0), (24, .getfield 186, 3, 14, 9, 0, 60025), (27, .tableswitch 91 0 5 #[37, 45, 53, 61, 69, 80], 37, 118, 3, 0, 0), (64, .aload_n 0, 1, 0, 0, 0, 0), (65, .invokevirtual 270, 3, 71, 1, 14, 70077), (68, .istore_n 1, 1, 0, 0, 0, 0), (69, .goto 146, 3, 215, 0, 0, 0), (72, .aload_n 0, 1, 0, 0, 0, 0), (73, .invokevirtual 273, 3, 73, 1, 14, 70099), (76, .istore_n 1, 1, 0, 0, 0, 0), (77, .goto 138, 3, 215, 0, 0, 0), (80, .aload_n 0, 1, 0, 0, 0, 0), (81, .invokevirtual 276, 3, 74, 1, 14, 70107), (84, .istore_n 1, 1, 0, 0, 0, 0), (85, .goto 130, 3, 215, 0, 0, 0), (88, .aload_n 0, 1, 0, 0, 0, 0), (89, .invokevirtual 279, 3, 75, 1, 14, 70111), (92, .istore_n 1, 1, 0, 0, 0, 0), (93, .goto 122, 3, 215, 0, 0, 0), (96, .aload_n 0, 1, 0, 0, 0, 0), (97, .iconst 0, 1, 0, 0, 0, 0), (98, .bipush 100, 2, 0, 0, 0, 100), (100, .invokevirtual 282, 3, 76, 3, 14, 70115), (103, .istore_n 1, 1, 0, 0, 0, 0), (104, .goto 111, 3, 215, 0, 0, 0), (107, .aload_n 0, 1, 0, 0, 0, 0), (108, .iconst 1, 1, 0, 0, 0, 1), (109, .ldc 195, 2, 70064, 0, 0, 99999), (111, .invokevirtual 282, 3, 76, 3, 14, 70115), (114, .istore_n 1, 1, 0, 0, 0, 0), (115, .goto 100, 3, 215, 0, 0, 0), (118, .aload_n 0, 1, 0, 0, 0, 0), (119, .invokevirtual 209, 3, 64, 1, 14, 70044), (122, .aload_n 0, 1, 0, 0, 0, 0), (123, .getfield 175, 3, 14, 8, 0, 60024), (126, .iconst 1, 1, 0, 0, 0, 1), (127, .if_icmp .ne 21, 3, 148, 0, 0, 0), (130, .aload_n 0, 1, 0, 0, 0, 0), (131, .getfield 186, 3, 14, 9, 0, 60025), (134, .bipush 7, 2, 0, 0, 0, 7), (136, .if_icmp .lt 12, 3, 148, 0, 0, 0), (139, .aload_n 0, 1, 0, 0, 0, 0), (140, .getfield 186, 3, 14, 9, 0, 60025), (143, .bipush 9, 2, 0, 0, 0, 9), (145, .if_icmp .le 9, 3, 154, 0, 0, 0), (148, .nop, 0, 1, 0, 0, 0), (148, .aload_n 0, 1, 0, 0, 0, 0), (149, .iconst 1, 1, 0, 0, 0, 1), (150, .invokevirtual 199, 3, 65, 2, 14, 70073), (153, .ireturn, 1, 1, 0, 0, 0), (154, .iconst 3, 1, 0, 0, 0, 3), (155, .aload_n 0, 1, 0, 0, 0, 0), (156, .getfield 186, 3, 14, 9, 0, 60025), (159, .iadd, 1, 0, 0, 0, 0), (160, .bipush 7, 2, 0, 0, 0, 7), (162, .isub, 1, 0, 0, 0, 0), (163, .istore_n 2, 1, 0, 0, 0, 0), (164, .aload_n 0, 1, 0, 0, 0, 0), (165, .getfield 63, 3, 14, 36, 2, 60052), (168, .iload_n 2, 1, 0, 0, 0, 0), (169, .baload, 1, 0, 0, 0, 0), (170, .ifCond .eq 9, 3, 179, 0, 0, 0), (173, .aload_n 0, 1, 0, 0, 0, 0), (174, .iconst 3, 1, 0, 0, 0, 3), (175, .invokevirtual 199, 3, 65, 2, 14, 70073), (178, .ireturn, 1, 1, 0, 0, 0), (179, .aload_n 0, 1, 0, 0, 0, 0), (180, .getfield 63, 3, 14, 36, 2, 60052), (183, .iload_n 2, 1, 0, 0, 0, 0), (184, .iconst 1, 1, 0, 0, 0, 1), (185, .bastore, 1, 0, 0, 0, 0), (186, .aload_n 0, 1, 0, 0, 0, 0), (187, .invokevirtual 209, 3, 64, 1, 14, 70044), (190, .aload_n 0, 1, 0, 0, 0, 0), (191, .getfield 66, 3, 14, 37, 2, 60053), (194, .iload_n 2, 1, 0, 0, 0, 0), (195, .aload_n 0, 1, 0, 0, 0, 0), (196, .getfield 231, 3, 14, 21, 0, 60037), (199, .iastore, 1, 0, 0, 0, 0), (200, .aload_n 0, 1, 0, 0, 0, 0), (201, .invokevirtual 285, 3, 87, 1, 14, 70119), (204, .istore_n 1, 1, 0, 0, 0, 0), (205, .aload_n 0, 1, 0, 0, 0, 0), (206, .getfield 69, 3, 14, 38, 2, 60054), (209, .iload_n 2, 1, 0, 0, 0, 0), (210, .aload_n 0, 1, 0, 0, 0, 0), (211, .getfield 231, 3, 14, 21, 0, 60037), (214, .iastore, 1, 0, 0, 0, 0), (215, .nop, 0, 3, 0, 0, 0), (215, .iload_n 1, 1, 0, 0, 0, 0), (216, .ifCond .ne 5, 3, 221, 0, 0, 0), (219, .iconst 0, 1, 0, 0, 0, 0), (220, .ireturn, 1, 1, 0, 0, 0), (221, .aload_n 0, 1, 0, 0, 0, 0), (222, .bipush 59, 2, 0, 0, 0, 59), (224, .invokevirtual 212, 3, 69, 2, 14, 70095), (227, .ifCond .ne 9, 3, 236, 0, 0, 0), (230, .aload_n 0, 1, 0, 0, 0, 0), (231, .iconst 1, 1, 0, 0, 0, 1), (232, .invokevirtual 199, 3, 65, 2, 14, 70073), (235, .ireturn, 1, 1, 0, 0, 0), (236, .aload_n 0, 1, 0, 0, 0, 0), (237, .invokevirtual 209, 3, 64, 1, 14, 70044), (240, .iconst 1, 1, 0, 0, 0, 1), (241, .ireturn, 1, 1, 0, 0, 0)]
/-- 89: SpeakClockModel.text(I)I -/
def cd_M_text : List mE := [(0, .aload_n 0, 1, 0, 0, 0, 0), (1, .iconst 0, 1, 0, 0, 0, 0), (2, .putfield 157, 3, 14, 2, 0, 60018), (5, .iload_n 1, 1, 0, 0, 0, 0), (6, .ifCond .lt 11, 3, 17, 0, 0, 0), (9, .iload_n 1, 1, 0, 0, 0, 0), (10, .aload_n 0, 1, 0, 0, 0, 0), (11, .getfield 160, 3, 14, 1, 0, 60017), (14, .if_icmp .le 6, 3, 20, 0, 0, 0), (17, .nop, 0, 0, 0, 0, 0), (17, .bipush (-2), 2, 0, 0, 0, (-2)), (19, .ireturn, 1, 0, 0, 0, 0), (20, .aload_n 0, 1, 0, 0, 0, 0), (21, .iload_n 1, 1, 0, 0, 0, 0), (22, .putfield 169, 3, 14, 6, 0, 60022), (25, .aload_n 0, 1, 0, 0, 0, 0), (26, .iconst 0, 1, 0, 0, 0, 0), (27, .putfield 160, 3, 14, 1, 0, 60017), (30, .aload_n 0, 1, 0, 0, 0, 0), (31, .iconst 0, 1, 0, 0, 0, 0), (32, .putfield 163, 3, 14, 4, 0, 60020), (35, .aload_n 0, 1, 0, 0, 0, 0), (36, .iconst (-1), 1, 0, 0, 0, (-1)), (37, .putfield 16, 3, 14, 5, 0, 60021), (40, .aload_n 0, 1, 0, 0, 0, 0), (41, .iconst 0, 1, 0, 0, 0, 0), (42, .putfield 172, 3, 14, 7, 0, 60023), (45, .aload_n 0, 1, 0, 0, 0, 0), (46, .invokevirtual 151, 3, 10, 1, 14, 50233), (49, .aload_n 0, 1, 0, 0, 0, 0), (50, .invokevirtual 209, 3, 64, 1, 14, 70044), (53, .iconst 0, 1, 0, 0, 0, 0), (54, .istore_n 2, 1, 0, 0, 0, 0), (55, .nop, 0, 5, 0, 0, 0), (55, .aload_n 0, 1, 0, 0, 0, 0), (56, .getfield 175, 3, 14, 8, 0, 60024), (59, .ifCond .eq 18, 3, 77, 0, 0, 0), (62, .aload_n 0, 1, 0, 0, 0, 0), (63, .invokevirtual 288, 3, 88, 1, 14, 70069), (66, .ifCond .ne 5, 3, 71, 0, 0, 0), (69, .iconst (-1), 1, 0, 0, 0, (-1)), (70, .ireturn, 1, 0, 0, 0, 0), (71, .iinc 2 1, 3, 0, 0, 0, 0), (74, .goto (-19), 3, 55, 0, 0, 0), (77, .aload_n 0, 1, 0, 0, 0, 0), (78, .invokevirtual 154, 3, 15, 1, 14, 50237), (81, .iload_n 2, 1, 0, 0, 0, 0), (82, .ireturn, 1, 0, 0, 0, 0)]
/-- 90: SpeakClock.fault(I)I -/
def cd_C_fault : List mE := [(0, .iload_n 1, 1, 0, 0, 0, 0), (1, .ifCond .ne 8, 3, 9, 0, 0, 0), (4, .aload_n 0, 1, 0, 0, 0, 0), (5, .getfield 75, 3, 13, 11, 0, 30030), (8, .ireturn, 1, 0, 0, 0, 0), (9, .iload_n 1, 1, 0, 0, 0, 0), (10, .iconst 1, 1, 0, 0, 0, 1), (11, .if_icmp .ne 10, 3, 21, 0, 0, 0), (14, .aload_n 0, 1, 0, 0, 0, 0), (15, .getfield 78, 3, 13, 12, 0, 30031), (18, .goto 4, 3, 22, 0, 0, 0), (21, .iconst (-1), 1, 0, 0, 0, (-1)), (22, .nop, 0, 0, 0, 0, 0), (22, .ireturn, 1, 0, 0, 0, 0)]
/-- 91: SpeakClockModel.fault(I)I -/
def cd_M_fault : List mE := [(0, .aload_n 0, 1, 0, 0, 0, 0), (1, .iconst 0, 1, 0, 0, 0, 0), (2, .putfield 157, 3, 14, 2, 0, 60018), (5, .iload_n 1, 1, 0, 0, 0, 0), (6, .ifCond .ne 10, 3, 16, 0, 0, 0), (9, .aload_n 0, 1, 0, 0, 0, 0), (10, .getfield 163, 3, 14, 4, 0, 60020), (13, .goto 16, 3, 29, 0, 0, 0), (16, .iload_n 1, 1, 0, 0, 0, 0), (17, .iconst 1, 1, 0, 0, 0, 1), (18, .if_icmp .ne 10, 3, 28, 0, 0, 0), (21, .aload_n 0, 1, 0, 0, 0, 0), (22, .getfield 16, 3, 14, 5, 0, 60021), (25, .goto 4, 3, 29, 0, 0, 0), (28, .iconst (-1), 1, 0, 0, 0, (-1)), (29, .nop, 0, 0, 0, 0, 0), (29, .ireturn, 1, 0, 0, 0, 0)]
/-- 92: SpeakClock.named(I)I -/
def cd_C_named : List mE := [(0, .aload_n 0, 1, 0, 0, 0, 0), (1, .getfield 70, 3, 13, 9, 2, 30028), (4, .iload_n 1, 1, 0, 0, 0, 0), (5, .invokevirtual 111, 3, 32, 2, 9, 30239), (8, .ireturn, 1, 0, 0, 0, 0)]
/-- 93: SpeakClockModel.named(I)I -/
def cd_M_named : List mE := [(0, .aload_n 0, 1, 0, 0, 0, 0), (1, .iconst 0, 1, 0, 0, 0, 0), (2, .putfield 157, 3, 14, 2, 0, 60018), (5, .aload_n 0, 1, 0, 0, 0, 0), (6, .getfield 27, 3, 14, 24, 2, 60040), (9, .iconst 0, 1, 0, 0, 0, 0), (10, .aload_n 0, 1, 0, 0, 0, 0), (11, .getfield 237, 3, 14, 12, 0, 60028), (14, .iload_n 1, 1, 0, 0, 0, 0), (15, .invokestatic 259, 3, 66, 4, 14, 70081), (18, .ireturn, 1, 0, 0, 0, 0)]
/-- 94: SpeakClock.isPerson(I)Z -/
def cd_C_isPerson : List mE := [(0, .iload_n 1, 1, 0, 0, 0, 0), (1, .ifCond .lt 18, 3, 19, 0, 0, 0), (4, .iload_n 1, 1, 0, 0, 0, 0), (5, .aload_n 0, 1, 0, 0, 0, 0), (6, .getfield 70, 3, 13, 9, 2, 30028), (9, .getfield 235, 3, 9, 13, 0, 10230), (12, .if_icmp .ge 7, 3, 19, 0, 0, 0), (15, .iconst 1, 1, 0, 0, 0, 1), (16, .goto 4, 3, 20, 0, 0, 0), (19, .nop, 0, 0, 0, 0, 0), (19, .iconst 0, 1, 0, 0, 0, 0), (20, .nop, 0, 0, 0, 0, 0), (20, .ireturn, 1, 1, 0, 0, 0)]
/-- 95: SpeakClock$Day.placeOf(I)I -/
def cd_Day_placeOf : List mE := [(0, .iconst 0, 1, 0, 0, 0, 0), (1, .istore_n 2, 1, 0, 0, 0, 0), (2, .nop, 0, 7, 0, 0, 0), (2, .iload_n 2, 1, 0, 0, 0, 0), (3, .aload_n 0, 1, 0, 0, 0, 0), (4, .getfield 46, 3, 4, 11, 0, 20118), (7, .if_icmp .ge 21, 3, 28, 0, 0, 0), (10, .aload_n 0, 1, 0, 0, 0, 0), (11, .getfield 21, 3, 4, 3, 2, 20097), (14, .iload_n 2, 1, 0, 0, 0, 0), (15, .iaload, 1, 0, 0, 0, 0), (16, .iload_n 1, 1, 0, 0, 0, 0), (17, .if_icmp .ne 5, 3, 22, 0, 0, 0), (20, .iload_n 2, 1, 0, 0, 0, 0), (21, .ireturn, 1, 0, 0, 0, 0), (22, .iinc 2 1, 3, 0, 0, 0, 0), (25, .goto (-23), 3, 2, 0, 0, 0), (28, .iconst (-1), 1, 0, 0, 0, (-1)), (29, .ireturn, 1, 0, 0, 0, 0)]
/-- 96: SpeakClock$Day.modeOf(I)I -/
def cd_Day_modeOf : List mE := [(0, .aload_n 0, 1, 0, 0, 0, 0), (1, .getfield 49, 3, 4, 12, 0, 20121), (4, .iload_n 1, 1, 0, 0, 0, 0), (5, .if_icmp .ne 5, 3, 10, 0, 0, 0), (8, .iconst 2, 1, 0, 0, 0, 2), (9, .ireturn, 1, 0, 0, 0, 0), (10, .aload_n 0, 1, 0, 0, 0, 0), (11, .iload_n 1, 1, 0, 0, 0, 0), (12, .invokevirtual 80, 3, 95, 2, 4, 40058), (15, .iconst (-1), 1, 0, 0, 0, (-1)), (16, .if_icmp .ne 7, 3, 23, 0, 0, 0), (19, .iconst 0, 1, 0, 0, 0, 0), (20, .goto 4, 3, 24, 0, 0, 0), (23, .iconst 1, 1, 0, 0, 0, 1), (24, .nop, 0, 0, 0, 0, 0), (24, .ireturn, 1, 0, 0, 0, 0)]
/-- 97: SpeakClock.man(II)I -/
def cd_C_man : List mE := [(0, .aload_n 0, 1, 0, 0, 0, 0), (1, .iload_n 1, 1, 0, 0, 0, 0), (2, .invokevirtual 117, 3, 94, 2, 13, 40012), (5, .ifCond .ne 13, 3, 18, 0, 0, 0), (8, .athrow, 1, 0, 0, 0, 0), (18, .iload_n 2, 1, 0, 0, 0, 0), (19, .tableswitch 123 0 7 #[45, 55, 65, 75, 85, 94, 104, 114], 45, 142, 4, 0, 0), (64, .aload_n 0, 1, 0, 0, 0, 0), (65, .getfield 70, 3, 13, 9, 2, 30028), (68, .getfield 127, 3, 9, 1, 2, 10186), (71, .iload_n 1, 1, 0, 0, 0, 0), (72, .iaload, 1, 0, 0, 0, 0), (73, .ireturn, 1, 0, 0, 0, 0), (74, .aload_n 0, 1, 0, 0, 0, 0), (75, .getfield 70, 3, 13, 9, 2, 30028), (78, .getfield 131, 3, 9, 2, 2, 10190), (81, .iload_n 1, 1, 0, 0, 0, 0), (82, .iaload, 1, 0, 0, 0, 0), (83, .ireturn, 1, 0, 0, 0, 0), (84, .aload_n 0, 1, 0, 0, 0, 0), (85, .getfield 32, 3, 13, 2, 2, 30021), (88, .getfield 134, 3, 4, 0, 2, 20089), (91, .iload_n 1, 1, 0, 0, 0, 0), (92, .iaload, 1, 0, 0, 0, 0), (93, .ireturn, 1, 0, 0, 0, 0), (94, .aload_n 0, 1, 0, 0, 0, 0), (95, .getfield 70, 3, 13, 9, 2, 30028), (98, .getfield 137, 3, 9, 4, 2, 10197), (101, .iload_n 1, 1, 0, 0, 0, 0), (102, .iaload, 1, 0, 0, 0, 0), (103, .ireturn, 1, 0, 0, 0, 0), (104, .aload_n 0, 1, 0, 0, 0, 0), (105, .getfield 32, 3, 13, 2, 2, 30021), (108, .iload_n 1, 1, 0, 0, 0, 0), (109, .invokevirtual 140, 3, 96, 2, 4, 50210), (112, .ireturn, 1, 0, 0, 0, 0), (113, .aload_n 0, 1, 0, 0, 0, 0), (114, .getfield 32, 3, 13, 2, 2, 30021), (117, .getfield 143, 3, 4, 1, 2, 20092), (120, .iload_n 1, 1, 0, 0, 0, 0), (121, .iaload, 1, 0, 0, 0, 0), (122, .ireturn, 1, 0, 0, 0, 0), (123, .aload_n 0, 1, 0, 0, 0, 0), (124, .getfield 32, 3, 13, 2, 2, 30021), (127, .getfield 146, 3, 4, 2, 2, 20096), (130, .iload_n 1, 1, 0, 0, 0, 0), (131, .iaload, 1, 0, 0, 0, 0), (132, .ireturn, 1, 0, 0, 0, 0), (133, .aload_n 0, 1, 0, 0, 0, 0), (134, .getfield 32, 3, 13, 2, 2, 30021), (137, .iload_n 1, 1, 0, 0, 0, 0), (138, .invokevirtual 149, 3, 95, 2, 4, 40070), (141, .ireturn, 1, 0, 0, 0, 0), (142, .athrow, 1, 0, 0, 0, 0)]
/-- 98: SpeakClockLaw.man(LSpeakClock;II[J)I -/
def cd_L_man : List mE := []
/-- 99: SpeakClockModel.isMan(I)Z -/
def cd_M_isMan : List mE := [(0, .iload_n 1, 1, 0, 0, 0, 0), (1, .ifCond .lt 15, 3, 16, 0, 0, 0), (4, .iload_n 1, 1, 0, 0, 0, 0), (5, .aload_n 0, 1, 0, 0, 0, 0), (6, .getfield 237, 3, 14, 12, 0, 60028), (9, .if_icmp .ge 7, 3, 16, 0, 0, 0), (12, .iconst 1, 1, 0, 0, 0, 1), (13, .goto 4, 3, 17, 0, 0, 0), (16, .nop, 0, 0, 0, 0, 0), (16, .iconst 0, 1, 0, 0, 0, 0), (17, .nop, 0, 0, 0, 0, 0), (17, .ireturn, 1, 1, 0, 0, 0)]
/-- 100: SpeakClockModel.fails(I)I -/
def cd_M_fails : List mE := [(0, .aload_n 0, 1, 0, 0, 0, 0), (1, .iload_n 1, 1, 0, 0, 0, 0), (2, .putfield 157, 3, 14, 2, 0, 60018), (5, .iconst 0, 1, 0, 0, 0, 0), (6, .ireturn, 1, 0, 0, 0, 0)]
/-- 101: SpeakClockModel.placeOf(I)I -/
def cd_M_placeOf : List mE := [(0, .iconst 0, 1, 0, 0, 0, 0), (1, .istore_n 2, 1, 0, 0, 0, 0), (2, .nop, 0, 7, 0, 0, 0), (2, .iload_n 2, 1, 0, 0, 0, 0), (3, .aload_n 0, 1, 0, 0, 0, 0), (4, .getfield 109, 3, 14, 58, 2, 60074), (7, .iconst 0, 1, 0, 0, 0, 0), (8, .iaload, 1, 0, 0, 0, 0), (9, .if_icmp .ge 21, 3, 30, 0, 0, 0), (12, .aload_n 0, 1, 0, 0, 0, 0), (13, .getfield 106, 3, 14, 57, 2, 60073), (16, .iload_n 2, 1, 0, 0, 0, 0), (17, .iaload, 1, 0, 0, 0, 0), (18, .iload_n 1, 1, 0, 0, 0, 0), (19, .if_icmp .ne 5, 3, 24, 0, 0, 0), (22, .iload_n 2, 1, 0, 0, 0, 0), (23, .ireturn, 1, 0, 0, 0, 0), (24, .iinc 2 1, 3, 0, 0, 0, 0), (27, .goto (-25), 3, 2, 0, 0, 0), (30, .iconst (-1), 1, 0, 0, 0, (-1)), (31, .ireturn, 1, 0, 0, 0, 0)]
/-- 102: SpeakClockModel.man(II)I -/
def cd_M_man : List mE := [(0, .aload_n 0, 1, 0, 0, 0, 0), (1, .iconst 0, 1, 0, 0, 0, 0), (2, .putfield 157, 3, 14, 2, 0, 60018), (5, .aload_n 0, 1, 0, 0, 0, 0), (6, .iload_n 1, 1, 0, 0, 0, 0), (7, .invokevirtual 468, 3, 99, 2, 14, 70174), (10, .ifCond .ne 9, 3, 19, 0, 0, 0), (13, .aload_n 0, 1, 0, 0, 0, 0), (14, .iconst 1, 1, 0, 0, 0, 1), (15, .invokevirtual 471, 3, 100, 2, 14, 70178), (18, .ireturn, 1, 0, 0, 0, 0), (19, .iload_n 2, 1, 0, 0, 0, 0), (20, .tableswitch 103 0 7 #[48, 55, 62, 69, 76, 83, 90, 97], 48, 123, 5, 0, 0), (68, .aload_n 0, 1, 0, 0, 0, 0), (69, .getfield 30, 3, 14, 25, 2, 60041), (72, .iload_n 1, 1, 0, 0, 0, 0), (73, .iaload, 1, 0, 0, 0, 0), (74, .ireturn, 1, 0, 0, 0, 0), (75, .aload_n 0, 1, 0, 0, 0, 0), (76, .getfield 33, 3, 14, 26, 2, 60042), (79, .iload_n 1, 1, 0, 0, 0, 0), (80, .iaload, 1, 0, 0, 0, 0), (81, .ireturn, 1, 0, 0, 0, 0), (82, .aload_n 0, 1, 0, 0, 0, 0), (83, .getfield 100, 3, 14, 55, 2, 60071), (86, .iload_n 1, 1, 0, 0, 0, 0), (87, .iaload, 1, 0, 0, 0, 0), (88, .ireturn, 1, 0, 0, 0, 0), (89, .aload_n 0, 1, 0, 0, 0, 0), (90, .getfield 39, 3, 14, 28, 2, 60044), (93, .iload_n 1, 1, 0, 0, 0, 0), (94, .iaload, 1, 0, 0, 0, 0), (95, .ireturn, 1, 0, 0, 0, 0), (96, .aload_n 0, 1, 0, 0, 0, 0), (97, .getfield 94, 3, 14, 53, 2, 60069), (100, .iload_n 1, 1, 0, 0, 0, 0), (101, .iaload, 1, 0, 0, 0, 0), (102, .ireturn, 1, 0, 0, 0, 0), (103, .aload_n 0, 1, 0, 0, 0, 0), (104, .getfield 97, 3, 14, 54, 2, 60070), (107, .iload_n 1, 1, 0, 0, 0, 0), (108, .iaload, 1, 0, 0, 0, 0), (109, .ireturn, 1, 0, 0, 0, 0), (110, .aload_n 0, 1, 0, 0, 0, 0), (111, .getfield 103, 3, 14, 56, 2, 60072), (114, .iload_n 1, 1, 0, 0, 0, 0), (115, .iaload, 1, 0, 0, 0, 0), (116, .ireturn, 1, 0, 0, 0, 0), (117, .aload_n 0, 1, 0, 0, 0, 0), (118, .iload_n 1, 1, 0, 0, 0, 0), (119, .invokevirtual 474, 3, 101, 2, 14, 70182), (122, .ireturn, 1, 0, 0, 0, 0), (123, .aload_n 0, 1, 0, 0, 0, 0), (124, .iconst 2, 1, 0, 0, 0, 2), (125, .invokevirtual 471, 3, 100, 2, 14, 70178), (128, .ireturn, 1, 0, 0, 0, 0)]
/-- 103: SpeakClockModel.thrown()I -/
def cd_M_thrown : List mE := [(0, .aload_n 0, 1, 0, 0, 0, 0), (1, .getfield 157, 3, 14, 2, 0, 60018), (4, .ireturn, 1, 0, 0, 0, 0)]
/-- 104: SpeakClock.isMeeting(I)Z -/
def cd_C_isMeeting : List mE := [(0, .iload_n 1, 1, 0, 0, 0, 0), (1, .ifCond .lt 18, 3, 19, 0, 0, 0), (4, .iload_n 1, 1, 0, 0, 0, 0), (5, .aload_n 0, 1, 0, 0, 0, 0), (6, .getfield 70, 3, 13, 9, 2, 30028), (9, .getfield 253, 3, 9, 15, 0, 10239), (12, .if_icmp .ge 7, 3, 19, 0, 0, 0), (15, .iconst 1, 1, 0, 0, 0, 1), (16, .goto 4, 3, 20, 0, 0, 0), (19, .nop, 0, 0, 0, 0, 0), (19, .iconst 0, 1, 0, 0, 0, 0), (20, .nop, 0, 0, 0, 0, 0), (20, .ireturn, 1, 1, 0, 0, 0)]
/-- 105: SpeakClock.meeting(II)I -/
def cd_C_meeting : List mE := [(0, .aload_n 0, 1, 0, 0, 0, 0), (1, .iload_n 1, 1, 0, 0, 0, 0), (2, .invokevirtual 157, 3, 104, 2, 13, 40004), (5, .ifCond .ne 5, 3, 10, 0, 0, 0), (8, .iconst (-1), 1, 0, 0, 0, (-1)), (9, .ireturn, 1, 0, 0, 0, 0), (10, .iload_n 2, 1, 0, 0, 0, 0), (11, .tableswitch 97 0 5 #[37, 47, 57, 67, 77, 87], 37, 108, 6, 0, 0), (48, .aload_n 0, 1, 0, 0, 0, 0), (49, .getfield 70, 3, 13, 9, 2, 30028), (52, .getfield 160, 3, 9, 7, 2, 10206), (55, .iload_n 1, 1, 0, 0, 0, 0), (56, .iaload, 1, 0, 0, 0, 0), (57, .ireturn, 1, 0, 0, 0, 0), (58, .aload_n 0, 1, 0, 0, 0, 0), (59, .getfield 70, 3, 13, 9, 2, 30028), (62, .getfield 163, 3, 9, 8, 2, 10210), (65, .iload_n 1, 1, 0, 0, 0, 0), (66, .iaload, 1, 0, 0, 0, 0), (67, .ireturn, 1, 0, 0, 0, 0), (68, .aload_n 0, 1, 0, 0, 0, 0), (69, .getfield 32, 3, 13, 2, 2, 30021), (72, .getfield 166, 3, 4, 4, 2, 20101), (75, .iload_n 1, 1, 0, 0, 0, 0), (76, .iaload, 1, 0, 0, 0, 0), (77, .ireturn, 1, 0, 0, 0, 0), (78, .aload_n 0, 1, 0, 0, 0, 0), (79, .getfield 32, 3, 13, 2, 2, 30021), (82, .getfield 169, 3, 4, 7, 2, 20111), (85, .iload_n 1, 1, 0, 0, 0, 0), (86, .iaload, 1, 0, 0, 0, 0), (87, .ireturn, 1, 0, 0, 0, 0), (88, .aload_n 0, 1, 0, 0, 0, 0), (89, .getfield 32, 3, 13, 2, 2, 30021), (92, .getfield 172, 3, 4, 5, 2, 20104), (95, .iload_n 1, 1, 0, 0, 0, 0), (96, .iaload, 1, 0, 0, 0, 0), (97, .ireturn, 1, 0, 0, 0, 0), (98, .aload_n 0, 1, 0, 0, 0, 0), (99, .getfield 32, 3, 13, 2, 2, 30021), (102, .getfield 175, 3, 4, 6, 2, 20107), (105, .iload_n 1, 1, 0, 0, 0, 0), (106, .iaload, 1, 0, 0, 0, 0), (107, .ireturn, 1, 0, 0, 0, 0), (108, .iconst (-1), 1, 0, 0, 0, (-1)), (109, .ireturn, 1, 0, 0, 0, 0)]
/-- 106: SpeakClockModel.isMeeting(I)Z -/
def cd_M_isMeeting : List mE := [(0, .iload_n 1, 1, 0, 0, 0, 0), (1, .ifCond .lt 15, 3, 16, 0, 0, 0), (4, .iload_n 1, 1, 0, 0, 0, 0), (5, .aload_n 0, 1, 0, 0, 0, 0), (6, .getfield 243, 3, 14, 14, 0, 60030), (9, .if_icmp .ge 7, 3, 16, 0, 0, 0), (12, .iconst 1, 1, 0, 0, 0, 1), (13, .goto 4, 3, 17, 0, 0, 0), (16, .nop, 0, 0, 0, 0, 0), (16, .iconst 0, 1, 0, 0, 0, 0), (17, .nop, 0, 0, 0, 0, 0), (17, .ireturn, 1, 1, 0, 0, 0)]
/-- 107: SpeakClockModel.meeting(II)I -/
def cd_M_meeting : List mE := [(0, .aload_n 0, 1, 0, 0, 0, 0), (1, .iconst 0, 1, 0, 0, 0, 0), (2, .putfield 157, 3, 14, 2, 0, 60018), (5, .aload_n 0, 1, 0, 0, 0, 0), (6, .iload_n 1, 1, 0, 0, 0, 0), (7, .invokevirtual 477, 3, 106, 2, 14, 70190), (10, .ifCond .ne 5, 3, 15, 0, 0, 0), (13, .iconst (-1), 1, 0, 0, 0, (-1)), (14, .ireturn, 1, 0, 0, 0, 0), (15, .iload_n 2, 1, 0, 0, 0, 0), (16, .tableswitch 88 0 5 #[40, 47, 54, 61, 68, 77], 40, 104, 7, 0, 0), (56, .aload_n 0, 1, 0, 0, 0, 0), (57, .getfield 48, 3, 14, 31, 2, 60047), (60, .iload_n 1, 1, 0, 0, 0, 0), (61, .iaload, 1, 0, 0, 0, 0), (62, .ireturn, 1, 0, 0, 0, 0), (63, .aload_n 0, 1, 0, 0, 0, 0), (64, .getfield 51, 3, 14, 32, 2, 60048), (67, .iload_n 1, 1, 0, 0, 0, 0), (68, .iaload, 1, 0, 0, 0, 0), (69, .ireturn, 1, 0, 0, 0, 0), (70, .aload_n 0, 1, 0, 0, 0, 0), (71, .getfield 118, 3, 14, 61, 2, 60077), (74, .iload_n 1, 1, 0, 0, 0, 0), (75, .iaload, 1, 0, 0, 0, 0), (76, .ireturn, 1, 0, 0, 0, 0), (77, .aload_n 0, 1, 0, 0, 0, 0), (78, .getfield 124, 3, 14, 63, 2, 60079), (81, .iload_n 1, 1, 0, 0, 0, 0), (82, .iaload, 1, 0, 0, 0, 0), (83, .ireturn, 1, 0, 0, 0, 0), (84, .aload_n 0, 1, 0, 0, 0, 0), (85, .getfield 121, 3, 14, 62, 2, 60078), (88, .iconst 2, 1, 0, 0, 0, 2), (89, .iload_n 1, 1, 0, 0, 0, 0), (90, .imul, 1, 0, 0, 0, 0), (91, .iaload, 1, 0, 0, 0, 0), (92, .ireturn, 1, 0, 0, 0, 0), (93, .aload_n 0, 1, 0, 0, 0, 0), (94, .getfield 121, 3, 14, 62, 2, 60078), (97, .iconst 2, 1, 0, 0, 0, 2), (98, .iload_n 1, 1, 0, 0, 0, 0), (99, .imul, 1, 0, 0, 0, 0), (100, .iconst 1, 1, 0, 0, 0, 1), (101, .iadd, 1, 0, 0, 0, 0), (102, .iaload, 1, 0, 0, 0, 0), (103, .ireturn, 1, 0, 0, 0, 0), (104, .iconst (-1), 1, 0, 0, 0, (-1)), (105, .ireturn, 1, 0, 0, 0, 0)]
/-- 108: SpeakClock.shows(I)I -/
def cd_C_shows : List mE := [(0, .aload_n 0, 1, 0, 0, 0, 0), (1, .iload_n 1, 1, 0, 0, 0, 0), (2, .invokevirtual 117, 3, 94, 2, 13, 40012), (5, .ifCond .eq 23, 3, 28, 0, 0, 0), (8, .aload_n 0, 1, 0, 0, 0, 0), (9, .getfield 32, 3, 13, 2, 2, 30021), (12, .getfield 178, 3, 4, 10, 0, 20116), (15, .aload_n 0, 1, 0, 0, 0, 0), (16, .getfield 32, 3, 13, 2, 2, 30021), (19, .getfield 134, 3, 4, 0, 2, 20089), (22, .iload_n 1, 1, 0, 0, 0, 0), (23, .iaload, 1, 0, 0, 0, 0), (24, .iadd, 1, 0, 0, 0, 0), (25, .goto 5, 3, 30, 0, 0, 0), (28, .ldc 183, 2, 40016, 0, 0, (-2147483648)), (30, .nop, 0, 0, 0, 0, 0), (30, .ireturn, 1, 0, 0, 0, 0)]
/-- 109: SpeakClockModel.shows(I)I -/
def cd_M_shows : List mE := [(0, .aload_n 0, 1, 0, 0, 0, 0), (1, .iconst 0, 1, 0, 0, 0, 0), (2, .putfield 157, 3, 14, 2, 0, 60018), (5, .aload_n 0, 1, 0, 0, 0, 0), (6, .iload_n 1, 1, 0, 0, 0, 0), (7, .invokevirtual 468, 3, 99, 2, 14, 70174), (10, .ifCond .eq 19, 3, 29, 0, 0, 0), (13, .aload_n 0, 1, 0, 0, 0, 0), (14, .getfield 127, 3, 14, 64, 2, 60080), (17, .iconst 0, 1, 0, 0, 0, 0), (18, .iaload, 1, 0, 0, 0, 0), (19, .aload_n 0, 1, 0, 0, 0, 0), (20, .getfield 100, 3, 14, 55, 2, 60071), (23, .iload_n 1, 1, 0, 0, 0, 0), (24, .iaload, 1, 0, 0, 0, 0), (25, .iadd, 1, 0, 0, 0, 0), (26, .goto 6, 3, 32, 0, 0, 0), (29, .ldc_w 480, 3, 70198, 0, 0, (-2147483648)), (32, .nop, 0, 0, 0, 0, 0), (32, .ireturn, 1, 0, 0, 0, 0)]
/-- 110: SpeakClock$Way.follow(Z)V -/
def cd_Way_follow : List mE := [(0, .aload_n 0, 1, 0, 0, 0, 0), (1, .iload_n 1, 1, 0, 0, 0, 0), (2, .putfield 43, 3, 12, 8, 3, 20182), (5, .aload_n 0, 1, 0, 0, 0, 0), (6, .aload_n 0, 1, 0, 0, 0, 0), (7, .getfield 25, 3, 12, 3, 2, 20176), (10, .getfield 46, 3, 9, 17, 0, 20004), (13, .putfield 29, 3, 12, 4, 0, 20178), (16, .aload_n 0, 1, 0, 0, 0, 0), (17, .aload_n 0, 1, 0, 0, 0, 0), (18, .getfield 25, 3, 12, 3, 2, 20176), (21, .getfield 47, 3, 9, 16, 0, 20001), (24, .putfield 33, 3, 12, 5, 0, 20179), (27, .aload_n 0, 1, 0, 0, 0, 0), (28, .iconst (-1), 1, 0, 0, 0, (-1)), (29, .putfield 36, 3, 12, 6, 0, 20180), (32, .aload_n 0, 1, 0, 0, 0, 0), (33, .iconst 1, 1, 0, 0, 0, 1), (34, .putfield 39, 3, 12, 7, 3, 20181), (37, .aload_n 0, 1, 0, 0, 0, 0), (38, .getfield 25, 3, 12, 3, 2, 20176), (41, .getfield 48, 3, 9, 2, 2, 10189), (44, .iconst 0, 1, 0, 0, 0, 0), (45, .aload_n 0, 1, 0, 0, 0, 0), (46, .getfield 9, 3, 12, 0, 2, 20172), (49, .iconst 0, 1, 0, 0, 0, 0), (50, .bipush 6, 2, 0, 0, 0, 6), (52, .invokestatic 49, 3, 1006, 5, 0, 40026), (55, .aload_n 0, 1, 0, 0, 0, 0), (56, .getfield 25, 3, 12, 3, 2, 20176), (59, .getfield 55, 3, 9, 4, 2, 10196), (62, .iconst 0, 1, 0, 0, 0, 0), (63, .aload_n 0, 1, 0, 0, 0, 0), (64, .getfield 15, 3, 12, 1, 2, 20173), (67, .iconst 0, 1, 0, 0, 0, 0), (68, .bipush 6, 2, 0, 0, 0, 6), (70, .invokestatic 49, 3, 1006, 5, 0, 40026), (73, .return_, 1, 0, 0, 0, 0)]
/-- 111: SpeakClock$Laws.joined(IJJ)J -/
def cd_Laws_joined : List mE := [(0, .iload_n 0, 1, 0, 0, 0, 0), (1, .tableswitch 267 7 28 #[103, 107, 111, 143, 195, 207, 219, 231, 243, 255, 267, 267, 267, 267, 267, 267, 267, 267, 267, 267, 177, 159], 103, 268, 8, 0, 0), (104, .lload_n 1, 1, 0, 0, 0, 0), (105, .lload_n 3, 1, 0, 0, 0, 0), (106, .ladd, 1, 0, 0, 0, 0), (107, .lreturn, 1, 0, 0, 0, 0), (108, .lload_n 1, 1, 0, 0, 0, 0), (109, .lload_n 3, 1, 0, 0, 0, 0), (110, .lsub, 1, 0, 0, 0, 0), (111, .lreturn, 1, 0, 0, 0, 0), (112, .lload_n 3, 1, 0, 0, 0, 0), (113, .lconst 0, 1, 0, 0, 0, 0), (114, .lcmp, 1, 0, 0, 0, 0), (115, .ifCond .eq 25, 3, 140, 0, 0, 0), (118, .lload_n 1, 1, 0, 0, 0, 0), (119, .invokestatic 45, 3, 1005, 1, 0, 40040), (122, .ldc2_w 39, 3, 40043, 0, 0, 1000000000000), (125, .lload_n 3, 1, 0, 0, 0, 0), (126, .invokestatic 45, 3, 1005, 1, 0, 40040), (129, .ldiv, 1, 0, 0, 0, 0), (130, .lcmp, 1, 0, 0, 0, 0), (131, .ifCond .le 9, 3, 140, 0, 0, 0), (134, .ldc2_w 43, 3, 40044, 0, 0, (-9223372036854775808)), (137, .goto 6, 3, 143, 0, 0, 0), (140, .nop, 0, 10, 0, 0, 0), (140, .lload_n 1, 1, 0, 0, 0, 0), (141, .lload_n 3, 1, 0, 0, 0, 0), (142, .lmul, 1, 0, 0, 0, 0), (143, .nop, 0, 0, 0, 0, 0), (143, .lreturn, 1, 0, 0, 0, 0), (144, .lload_n 3, 1, 0, 0, 0, 0), (145, .lconst 0, 1, 0, 0, 0, 0), (146, .lcmp, 1, 0, 0, 0, 0), (147, .ifCond .ne 9, 3, 156, 0, 0, 0), (150, .ldc2_w 43, 3, 40044, 0, 0, (-9223372036854775808)), (153, .goto 6, 3, 159, 0, 0, 0), (156, .lload_n 1, 1, 0, 0, 0, 0), (157, .lload_n 3, 1, 0, 0, 0, 0), (158, .ldiv, 1, 0, 0, 0, 0), (159, .nop, 0, 0, 0, 0, 0), (159, .lreturn, 1, 0, 0, 0, 0), (160, .lload_n 1, 1, 0, 0, 0, 0), (161, .lconst 0, 1, 0, 0, 0, 0), (162, .lcmp, 1, 0, 0, 0, 0), (163, .ifCond .eq 13, 3, 176, 0, 0, 0), (166, .lload_n 3, 1, 0, 0, 0, 0), (167, .lconst 0, 1, 0, 0, 0, 0), (168, .lcmp, 1, 0, 0, 0, 0), (169, .ifCond .eq 7, 3, 176, 0, 0, 0), (172, .lconst 1, 1, 0, 0, 0, 1), (173, .goto 4, 3, 177, 0, 0, 0), (176, .nop, 0, 0, 0, 0, 0), (176, .lconst 0, 1, 0, 0, 0, 0), (177, .nop, 0, 0, 0, 0, 0), (177, .lreturn, 1, 0, 0, 0, 0), (178, .lload_n 1, 1, 0, 0, 0, 0), (179, .lconst 0, 1, 0, 0, 0, 0), (180, .lcmp, 1, 0, 0, 0, 0), (181, .ifCond .ne 9, 3, 190, 0, 0, 0), (184, .lload_n 3, 1, 0, 0, 0, 0), (185, .lconst 0, 1, 0, 0, 0, 0), (186, .lcmp, 1, 0, 0, 0, 0), (187, .ifCond .eq 7, 3, 194, 0, 0, 0), (190, .nop, 0, 0, 0, 0, 0), (190, .lconst 1, 1, 0, 0, 0, 1), (191, .goto 4, 3, 195, 0, 0, 0), (194, .lconst 0, 1, 0, 0, 0, 0), (195, .nop, 0, 0, 0, 0, 0), (195, .lreturn, 1, 0, 0, 0, 0), (196, .lload_n 1, 1, 0, 0, 0, 0), (197, .lload_n 3, 1, 0, 0, 0, 0), (198, .lcmp, 1, 0, 0, 0, 0), (199, .ifCond .ge 7, 3, 206, 0, 0, 0), (202, .lconst 1, 1, 0, 0, 0, 1), (203, .goto 4, 3, 207, 0, 0, 0), (206, .lconst 0, 1, 0, 0, 0, 0), (207, .nop, 0, 0, 0, 0, 0), (207, .lreturn, 1, 0, 0, 0, 0), (208, .lload_n 1, 1, 0, 0, 0, 0), (209, .lload_n 3, 1, 0, 0, 0, 0), (210, .lcmp, 1, 0, 0, 0, 0), (211, .ifCond .gt 7, 3, 218, 0, 0, 0), (214, .lconst 1, 1, 0, 0, 0, 1), (215, .goto 4, 3, 219, 0, 0, 0), (218, .lconst 0, 1, 0, 0, 0, 0), (219, .nop, 0, 0, 0, 0, 0), (219, .lreturn, 1, 0, 0, 0, 0), (220, .lload_n 1, 1, 0, 0, 0, 0), (221, .lload_n 3, 1, 0, 0, 0, 0), (222, .lcmp, 1, 0, 0, 0, 0), (223, .ifCond .ne 7, 3, 230, 0, 0, 0), (226, .lconst 1, 1, 0, 0, 0, 1), (227, .goto 4, 3, 231, 0, 0, 0), (230, .lconst 0, 1, 0, 0, 0, 0), (231, .nop, 0, 0, 0, 0, 0), (231, .lreturn, 1, 0, 0, 0, 0), (232, .lload_n 1, 1, 0, 0, 0, 0), (233, .lload_n 3, 1, 0, 0, 0, 0), (234, .lcmp, 1, 0, 0, 0, 0), (235, .ifCond .eq 7, 3, 242, 0, 0, 0), (238, .lconst 1, 1, 0, 0, 0, 1), (239, .goto 4, 3, 243, 0, 0, 0), (242, .lconst 0, 1, 0, 0, 0, 0), (243, .nop, 0, 0, 0, 0, 0), (243, .lreturn, 1, 0, 0, 0, 0), (244, .lload_n 1, 1, 0, 0, 0, 0), (245, .lload_n 3, 1, 0, 0, 0, 0), (246, .lcmp, 1, 0, 0, 0, 0), (247, .ifCond .lt 7, 3, 254, 0, 0, 0), (250, .lconst 1, 1, 0, 0, 0, 1), (251, .goto 4, 3, 255, 0, 0, 0), (254, .lconst 0, 1, 0, 0, 0, 0), (255, .nop, 0, 0, 0, 0, 0), (255, .lreturn, 1, 0, 0, 0, 0), (256, .lload_n 1, 1, 0, 0, 0, 0), (257, .lload_n 3, 1, 0, 0, 0, 0), (258, .lcmp, 1, 0, 0, 0, 0), (259, .ifCond .le 7, 3, 266, 0, 0, 0), (262, .lconst 1, 1, 0, 0, 0, 1), (263, .goto 4, 3, 267, 0, 0, 0), (266, .lconst 0, 1, 0, 0, 0, 0), (267, .nop, 0, 0, 0, 0, 0), (267, .lreturn, 1, 0, 0, 0, 0), (268, .ldc2_w 43, 3, 40044, 0, 0, (-9223372036854775808)), (271, .lreturn, 1, 0, 0, 0, 0)]
/-- 112: SpeakClock$Laws.valueOf(I[J)J -/
def cd_Laws_valueOf : List mE := [(0, .iconst 0, 1, 0, 0, 0, 0), (1, .istore_n 3, 1, 0, 0, 0, 0), (2, .aload_n 0, 1, 0, 0, 0, 0), (3, .getfield 18, 3, 6, 2, 2, 10156), (6, .iload_n 1, 1, 0, 0, 0, 0), (7, .iaload, 1, 0, 0, 0, 0), (8, .istore 4, 2, 0, 0, 0, 0), (10, .nop, 0, 31, 0, 0, 0), (10, .iload 4, 2, 0, 0, 0, 0), (12, .aload_n 0, 1, 0, 0, 0, 0), (13, .getfield 21, 3, 6, 3, 2, 10158), (16, .iload_n 1, 1, 0, 0, 0, 0), (17, .iaload, 1, 0, 0, 0, 0), (18, .if_icmp .ge 193, 3, 211, 0, 0, 0), (21, .aload_n 0, 1, 0, 0, 0, 0), (22, .getfield 9, 3, 6, 0, 2, 10154), (25, .iload 4, 2, 0, 0, 0, 0), (27, .iaload, 1, 0, 0, 0, 0), (28, .istore 5, 2, 0, 0, 0, 0), (30, .iload_n 3, 1, 0, 0, 0, 0), (31, .bipush 64, 2, 0, 0, 0, 64), (33, .if_icmp .ge 29, 3, 62, 0, 0, 0), (36, .iload 5, 2, 0, 0, 0, 0), (38, .iconst 2, 1, 0, 0, 0, 2), (39, .if_icmp .ne 23, 3, 62, 0, 0, 0), (42, .aload_n 0, 1, 0, 0, 0, 0), (43, .getfield 24, 3, 6, 4, 2, 10160), (46, .iload_n 3, 1, 0, 0, 0, 0), (47, .aload_n 0, 1, 0, 0, 0, 0), (48, .getfield 15, 3, 6, 1, 2, 10155), (51, .iload 4, 2, 0, 0, 0, 0), (53, .iaload, 1, 0, 0, 0, 0), (54, .i2l, 1, 0, 0, 0, 0), (55, .lastore, 1, 0, 0, 0, 0), (56, .iinc 3 1, 3, 0, 0, 0, 0), (59, .goto 146, 3, 205, 0, 0, 0), (62, .nop, 0, 63, 0, 0, 0), (62, .iload_n 3, 1, 0, 0, 0, 0), (63, .bipush 64, 2, 0, 0, 0, 64), (65, .if_icmp .ge 36, 3, 101, 0, 0, 0), (68, .iload 5, 2, 0, 0, 0, 0), (70, .bipush 30, 2, 0, 0, 0, 30), (72, .if_icmp .lt 29, 3, 101, 0, 0, 0), (75, .iload 5, 2, 0, 0, 0, 0), (77, .bipush 37, 2, 0, 0, 0, 37), (79, .if_icmp .ge 22, 3, 101, 0, 0, 0), (82, .aload_n 0, 1, 0, 0, 0, 0), (83, .getfield 24, 3, 6, 4, 2, 10160), (86, .iload_n 3, 1, 0, 0, 0, 0), (87, .aload_n 2, 1, 0, 0, 0, 0), (88, .iload 5, 2, 0, 0, 0, 0), (90, .bipush 30, 2, 0, 0, 0, 30), (92, .isub, 1, 0, 0, 0, 0), (93, .laload, 1, 0, 0, 0, 0), (94, .lastore, 1, 0, 0, 0, 0), (95, .iinc 3 1, 3, 0, 0, 0, 0), (98, .goto 107, 3, 205, 0, 0, 0), (101, .nop, 0, 63, 0, 0, 0), (101, .iload 5, 2, 0, 0, 0, 0), (103, .bipush 29, 2, 0, 0, 0, 29), (105, .if_icmp .ne 37, 3, 142, 0, 0, 0), (108, .iload_n 3, 1, 0, 0, 0, 0), (109, .iconst 1, 1, 0, 0, 0, 1), (110, .if_icmp .lt 32, 3, 142, 0, 0, 0), (113, .aload_n 0, 1, 0, 0, 0, 0), (114, .getfield 24, 3, 6, 4, 2, 10160), (117, .iload_n 3, 1, 0, 0, 0, 0), (118, .iconst 1, 1, 0, 0, 0, 1), (119, .isub, 1, 0, 0, 0, 0), (120, .aload_n 0, 1, 0, 0, 0, 0), (121, .getfield 24, 3, 6, 4, 2, 10160), (124, .iload_n 3, 1, 0, 0, 0, 0), (125, .iconst 1, 1, 0, 0, 0, 1), (126, .isub, 1, 0, 0, 0, 0), (127, .laload, 1, 0, 0, 0, 0), (128, .lconst 0, 1, 0, 0, 0, 0), (129, .lcmp, 1, 0, 0, 0, 0), (130, .ifCond .ne 7, 3, 137, 0, 0, 0), (133, .lconst 1, 1, 0, 0, 0, 1), (134, .goto 4, 3, 138, 0, 0, 0), (137, .lconst 0, 1, 0, 0, 0, 0), (138, .nop, 0, 31, 0, 0, 0), (138, .lastore, 1, 0, 0, 0, 0), (139, .goto 66, 3, 205, 0, 0, 0), (142, .nop, 0, 63, 0, 0, 0), (142, .iload_n 3, 1, 0, 0, 0, 0), (143, .iconst 2, 1, 0, 0, 0, 2), (144, .if_icmp .lt 61, 3, 205, 0, 0, 0), (147, .iload 5, 2, 0, 0, 0, 0), (149, .aload_n 0, 1, 0, 0, 0, 0), (150, .getfield 24, 3, 6, 4, 2, 10160), (153, .iload_n 3, 1, 0, 0, 0, 0), (154, .iconst 2, 1, 0, 0, 0, 2), (155, .isub, 1, 0, 0, 0, 0), (156, .laload, 1, 0, 0, 0, 0), (157, .aload_n 0, 1, 0, 0, 0, 0), (158, .getfield 24, 3, 6, 4, 2, 10160), (161, .iload_n 3, 1, 0, 0, 0, 0), (162, .iconst 1, 1, 0, 0, 0, 1), (163, .isub, 1, 0, 0, 0, 0), (164, .laload, 1, 0, 0, 0, 0), (165, .invokestatic 35, 3, 111, 3, 6, 40037), (168, .lstore 6, 2, 0, 0, 0, 0), (170, .lload 6, 2, 0, 0, 0, 0), (172, .ldc2_w 39, 3, 40043, 0, 0, 1000000000000), (175, .lcmp, 1, 0, 0, 0, 0), (176, .ifCond .gt 12, 3, 188, 0, 0, 0), (179, .lload 6, 2, 0, 0, 0, 0), (181, .ldc2_w 41, 3, 40045, 0, 0, (-1000000000000)), (184, .lcmp, 1, 0, 0, 0, 0), (185, .ifCond .ge 7, 3, 192, 0, 0, 0), (188, .nop, 0, 0, 0, 0, 0), (188, .ldc2_w 43, 3, 40044, 0, 0, (-9223372036854775808)), (191, .lreturn, 1, 0, 0, 0, 0), (192, .iinc 3 (-1), 3, 0, 0, 0, 0), (195, .aload_n 0, 1, 0, 0, 0, 0), (196, .getfield 24, 3, 6, 4, 2, 10160), (199, .iload_n 3, 1, 0, 0, 0, 0), (200, .iconst 1, 1, 0, 0, 0, 1), (201, .isub, 1, 0, 0, 0, 0), (202, .lload 6, 2, 0, 0, 0, 0), (204, .lastore, 1, 0, 0, 0, 0), (205, .nop, 0, 31, 0, 0, 0), (205, .iinc 4 1, 3, 0, 0, 0, 0), (208, .goto (-198), 3, 10, 0, 0, 0), (211, .iload_n 3, 1, 0, 0, 0, 0), (212, .iconst 1, 1, 0, 0, 0, 1), (213, .if_icmp .ne 12, 3, 225, 0, 0, 0), (216, .aload_n 0, 1, 0, 0, 0, 0), (217, .getfield 24, 3, 6, 4, 2, 10160), (220, .iconst 0, 1, 0, 0, 0, 0), (221, .laload, 1, 0, 0, 0, 0), (222, .goto 6, 3, 228, 0, 0, 0), (225, .ldc2_w 43, 3, 40044, 0, 0, (-9223372036854775808)), (228, .nop, 0, 0, 0, 0, 0), (228, .lreturn, 1, 0, 0, 0, 0)]
/-- 113: SpeakClock$Way.lawOf(LSpeakClock$Day;III)J -/
def cd_Way_lawOf : List mE := [(0, .aload_n 0, 1, 0, 0, 0, 0), (1, .getfield 18, 3, 12, 2, 2, 20175), (4, .iconst 0, 1, 0, 0, 0, 0), (5, .aload_n 0, 1, 0, 0, 0, 0), (6, .getfield 25, 3, 12, 3, 2, 20176), (9, .getfield 97, 3, 9, 1, 2, 10185), (12, .iload_n 3, 1, 0, 0, 0, 0), (13, .iaload, 1, 0, 0, 0, 0), (14, .i2l, 1, 0, 0, 0, 0), (15, .lastore, 1, 0, 0, 0, 0), (16, .aload_n 0, 1, 0, 0, 0, 0), (17, .getfield 18, 3, 12, 2, 2, 20175), (20, .iconst 1, 1, 0, 0, 0, 1), (21, .aload_n 0, 1, 0, 0, 0, 0), (22, .getfield 9, 3, 12, 0, 2, 20172), (25, .iload_n 3, 1, 0, 0, 0, 0), (26, .iaload, 1, 0, 0, 0, 0), (27, .i2l, 1, 0, 0, 0, 0), (28, .lastore, 1, 0, 0, 0, 0), (29, .aload_n 0, 1, 0, 0, 0, 0), (30, .getfield 18, 3, 12, 2, 2, 20175), (33, .iconst 2, 1, 0, 0, 0, 2), (34, .aload_n 1, 1, 0, 0, 0, 0), (35, .getfield 100, 3, 4, 0, 2, 20088), (38, .iload_n 3, 1, 0, 0, 0, 0), (39, .iaload, 1, 0, 0, 0, 0), (40, .i2l, 1, 0, 0, 0, 0), (41, .lastore, 1, 0, 0, 0, 0), (42, .aload_n 0, 1, 0, 0, 0, 0), (43, .getfield 18, 3, 12, 2, 2, 20175), (46, .iconst 3, 1, 0, 0, 0, 3), (47, .aload_n 0, 1, 0, 0, 0, 0), (48, .getfield 15, 3, 12, 1, 2, 20173), (51, .iload_n 3, 1, 0, 0, 0, 0), (52, .iaload, 1, 0, 0, 0, 0), (53, .i2l, 1, 0, 0, 0, 0), (54, .lastore, 1, 0, 0, 0, 0), (55, .aload_n 0, 1, 0, 0, 0, 0), (56, .getfield 18, 3, 12, 2, 2, 20175), (59, .iconst 4, 1, 0, 0, 0, 4), (60, .iload 4, 2, 0, 0, 0, 0), (62, .i2l, 1, 0, 0, 0, 0), (63, .lastore, 1, 0, 0, 0, 0), (64, .aload_n 0, 1, 0, 0, 0, 0), (65, .getfield 18, 3, 12, 2, 2, 20175), (68, .iconst 5, 1, 0, 0, 0, 5), (69, .aload_n 1, 1, 0, 0, 0, 0), (70, .getfield 103, 3, 4, 2, 2, 20095), (73, .iload_n 3, 1, 0, 0, 0, 0), (74, .iaload, 1, 0, 0, 0, 0), (75, .i2l, 1, 0, 0, 0, 0), (76, .lastore, 1, 0, 0, 0, 0), (77, .aload_n 0, 1, 0, 0, 0, 0), (78, .getfield 18, 3, 12, 2, 2, 20175), (81, .bipush 6, 2, 0, 0, 0, 6), (83, .aload_n 1, 1, 0, 0, 0, 0), (84, .getfield 81, 3, 4, 10, 0, 20115), (87, .i2l, 1, 0, 0, 0, 0), (88, .lastore, 1, 0, 0, 0, 0), (89, .aload_n 0, 1, 0, 0, 0, 0), (90, .getfield 25, 3, 12, 3, 2, 20176), (93, .getfield 106, 3, 9, 12, 2, 10223), (96, .iload_n 2, 1, 0, 0, 0, 0), (97, .aload_n 0, 1, 0, 0, 0, 0), (98, .getfield 18, 3, 12, 2, 2, 20175), (101, .invokevirtual 110, 3, 112, 3, 6, 40033), (104, .lreturn, 1, 0, 0, 0, 0)]
/-- 114: SpeakClock.law(II)J -/
def cd_C_law : List mE := [(0, .iload_n 1, 1, 0, 0, 0, 0), (1, .ifCond .lt 16, 3, 17, 0, 0, 0), (4, .iload_n 1, 1, 0, 0, 0, 0), (5, .iconst 3, 1, 0, 0, 0, 3), (6, .if_icmp .ge 11, 3, 17, 0, 0, 0), (9, .aload_n 0, 1, 0, 0, 0, 0), (10, .iload_n 2, 1, 0, 0, 0, 0), (11, .invokevirtual 117, 3, 94, 2, 13, 40012), (14, .ifCond .ne 7, 3, 21, 0, 0, 0), (17, .nop, 0, 0, 0, 0, 0), (17, .ldc2_w 184, 3, 40021, 0, 0, (-9223372036854775808)), (20, .lreturn, 1, 0, 0, 0, 0), (21, .aload_n 0, 1, 0, 0, 0, 0), (22, .getfield 48, 3, 13, 6, 2, 30025), (25, .iconst 0, 1, 0, 0, 0, 0), (26, .invokevirtual 186, 3, 110, 2, 12, 40022), (29, .aload_n 0, 1, 0, 0, 0, 0), (30, .getfield 48, 3, 13, 6, 2, 30025), (33, .aload_n 0, 1, 0, 0, 0, 0), (34, .getfield 32, 3, 13, 2, 2, 30021), (37, .iload_n 1, 1, 0, 0, 0, 0), (38, .iload_n 2, 1, 0, 0, 0, 0), (39, .iload_n 1, 1, 0, 0, 0, 0), (40, .iconst 1, 1, 0, 0, 0, 1), (41, .if_icmp .ne 15, 3, 56, 0, 0, 0), (44, .aload_n 0, 1, 0, 0, 0, 0), (45, .getfield 32, 3, 13, 2, 2, 30021), (48, .getfield 143, 3, 4, 1, 2, 20092), (51, .iload_n 2, 1, 0, 0, 0, 0), (52, .iaload, 1, 0, 0, 0, 0), (53, .goto 10, 3, 63, 0, 0, 0), (56, .aload_n 0, 1, 0, 0, 0, 0), (57, .getfield 32, 3, 13, 2, 2, 30021), (60, .getfield 190, 3, 4, 11, 0, 20120), (63, .nop, 0, 0, 0, 0, 0), (63, .invokevirtual 193, 3, 113, 5, 12, 40029), (66, .lreturn, 1, 0, 0, 0, 0)]
/-- 115: SpeakClockModel.waitsOf(I)I -/
def cd_M_waitsOf : List mE := [(0, .aload_n 0, 1, 0, 0, 0, 0), (1, .getfield 390, 3, 14, 71, 3, 60087), (4, .ifCond .eq 8, 3, 12, 0, 0, 0), (7, .bipush 30, 2, 0, 0, 0, 30), (9, .goto 9, 3, 18, 0, 0, 0), (12, .aload_n 0, 1, 0, 0, 0, 0), (13, .getfield 33, 3, 14, 26, 2, 60042), (16, .iload_n 1, 1, 0, 0, 0, 0), (17, .iaload, 1, 0, 0, 0, 0), (18, .nop, 0, 0, 0, 0, 0), (18, .ireturn, 1, 0, 0, 0, 0)]
/-- 116: SpeakClockModel.rateIn(I)I -/
def cd_M_rateIn : List mE := [(0, .iload_n 1, 1, 0, 0, 0, 0), (1, .aload_n 0, 1, 0, 0, 0, 0), (2, .getfield 396, 3, 14, 73, 0, 60089), (5, .if_icmp .ne 10, 3, 15, 0, 0, 0), (8, .aload_n 0, 1, 0, 0, 0, 0), (9, .getfield 399, 3, 14, 74, 0, 60090), (12, .goto 9, 3, 21, 0, 0, 0), (15, .aload_n 0, 1, 0, 0, 0, 0), (16, .getfield 39, 3, 14, 28, 2, 60044), (19, .iload_n 1, 1, 0, 0, 0, 0), (20, .iaload, 1, 0, 0, 0, 0), (21, .nop, 0, 0, 0, 0, 0), (21, .ireturn, 1, 0, 0, 0, 0)]
/-- 117: SpeakClockModel.layNames(III)V -/
def cd_M_layNames : List mE := [(0, .aload_n 0, 1, 0, 0, 0, 0), (1, .getfield 87, 3, 14, 50, 2, 60066), (4, .iconst 0, 1, 0, 0, 0, 0), (5, .aload_n 0, 1, 0, 0, 0, 0), (6, .getfield 30, 3, 14, 25, 2, 60041), (9, .iload_n 2, 1, 0, 0, 0, 0), (10, .iaload, 1, 0, 0, 0, 0), (11, .i2l, 1, 0, 0, 0, 0), (12, .lastore, 1, 0, 0, 0, 0), (13, .aload_n 0, 1, 0, 0, 0, 0), (14, .getfield 87, 3, 14, 50, 2, 60066), (17, .iconst 1, 1, 0, 0, 0, 1), (18, .aload_n 0, 1, 0, 0, 0, 0), (19, .iload_n 2, 1, 0, 0, 0, 0), (20, .invokevirtual 402, 3, 115, 2, 14, 70208), (23, .i2l, 1, 0, 0, 0, 0), (24, .lastore, 1, 0, 0, 0, 0), (25, .aload_n 0, 1, 0, 0, 0, 0), (26, .getfield 87, 3, 14, 50, 2, 60066), (29, .iconst 2, 1, 0, 0, 0, 2), (30, .aload_n 0, 1, 0, 0, 0, 0), (31, .getfield 100, 3, 14, 55, 2, 60071), (34, .bipush 6, 2, 0, 0, 0, 6), (36, .iload_n 1, 1, 0, 0, 0, 0), (37, .imul, 1, 0, 0, 0, 0), (38, .iload_n 2, 1, 0, 0, 0, 0), (39, .iadd, 1, 0, 0, 0, 0), (40, .iaload, 1, 0, 0, 0, 0), (41, .i2l, 1, 0, 0, 0, 0), (42, .lastore, 1, 0, 0, 0, 0), (43, .aload_n 0, 1, 0, 0, 0, 0), (44, .getfield 87, 3, 14, 50, 2, 60066), (47, .iconst 3, 1, 0, 0, 0, 3), (48, .aload_n 0, 1, 0, 0, 0, 0), (49, .iload_n 2, 1, 0, 0, 0, 0), (50, .invokevirtual 405, 3, 116, 2, 14, 70212), (53, .i2l, 1, 0, 0, 0, 0), (54, .lastore, 1, 0, 0, 0, 0), (55, .aload_n 0, 1, 0, 0, 0, 0), (56, .getfield 87, 3, 14, 50, 2, 60066), (59, .iconst 4, 1, 0, 0, 0, 4), (60, .iload_n 3, 1, 0, 0, 0, 0), (61, .i2l, 1, 0, 0, 0, 0), (62, .lastore, 1, 0, 0, 0, 0), (63, .aload_n 0, 1, 0, 0, 0, 0), (64, .getfield 87, 3, 14, 50, 2, 60066), (67, .iconst 5, 1, 0, 0, 0, 5), (68, .aload_n 0, 1, 0, 0, 0, 0), (69, .getfield 103, 3, 14, 56, 2, 60072), (72, .bipush 6, 2, 0, 0, 0, 6), (74, .iload_n 1, 1, 0, 0, 0, 0), (75, .imul, 1, 0, 0, 0, 0), (76, .iload_n 2, 1, 0, 0, 0, 0), (77, .iadd, 1, 0, 0, 0, 0), (78, .iaload, 1, 0, 0, 0, 0), (79, .i2l, 1, 0, 0, 0, 0), (80, .lastore, 1, 0, 0, 0, 0), (81, .aload_n 0, 1, 0, 0, 0, 0), (82, .getfield 87, 3, 14, 50, 2, 60066), (85, .bipush 6, 2, 0, 0, 0, 6), (87, .aload_n 0, 1, 0, 0, 0, 0), (88, .getfield 127, 3, 14, 64, 2, 60080), (91, .iload_n 1, 1, 0, 0, 0, 0), (92, .iaload, 1, 0, 0, 0, 0), (93, .i2l, 1, 0, 0, 0, 0), (94, .lastore, 1, 0, 0, 0, 0), (95, .return_, 1, 0, 0, 0, 0)]
/-- 118: SpeakClockModel.bounded(J)J -/
def cd_M_bounded : List mE := [(0, .aload_n 0, 1, 0, 0, 0, 0), (1, .aload_n 0, 1, 0, 0, 0, 0), (2, .getfield 341, 3, 14, 52, 3, 60068), (5, .ifCond .ne 19, 3, 24, 0, 0, 0), (8, .lload_n 1, 1, 0, 0, 0, 0), (9, .ldc2_w 344, 3, 70228, 0, 0, 1000000000000), (12, .lcmp, 1, 0, 0, 0, 0), (13, .ifCond .gt 11, 3, 24, 0, 0, 0), (16, .lload_n 1, 1, 0, 0, 0, 0), (17, .ldc2_w 346, 3, 70229, 0, 0, (-1000000000000)), (20, .lcmp, 1, 0, 0, 0, 0), (21, .ifCond .ge 7, 3, 28, 0, 0, 0), (24, .nop, 0, 3, 0, 0, 0), (24, .iconst 1, 1, 0, 0, 0, 1), (25, .goto 4, 3, 29, 0, 0, 0), (28, .iconst 0, 1, 0, 0, 0, 0), (29, .nop, 0, 3, 0, 0, 0), (29, .putfield 341, 3, 14, 52, 3, 60068), (32, .aload_n 0, 1, 0, 0, 0, 0), (33, .getfield 341, 3, 14, 52, 3, 60068), (36, .ifCond .eq 7, 3, 43, 0, 0, 0), (39, .lconst 0, 1, 0, 0, 0, 0), (40, .goto 4, 3, 44, 0, 0, 0), (43, .lload_n 1, 1, 0, 0, 0, 0), (44, .nop, 0, 0, 0, 0, 0), (44, .lreturn, 1, 0, 0, 0, 0)]
/-- 119: SpeakClockModel.times(JJ)J -/
def cd_M_times : List mE := [(0, .lload_n 1, 1, 0, 0, 0, 0), (1, .lconst 0, 1, 0, 0, 0, 0), (2, .lcmp, 1, 0, 0, 0, 0), (3, .ifCond .eq 45, 3, 48, 0, 0, 0), (6, .lload_n 3, 1, 0, 0, 0, 0), (7, .lconst 0, 1, 0, 0, 0, 0), (8, .lcmp, 1, 0, 0, 0, 0), (9, .ifCond .eq 39, 3, 48, 0, 0, 0), (12, .lload_n 3, 1, 0, 0, 0, 0), (13, .lconst 0, 1, 0, 0, 0, 0), (14, .lcmp, 1, 0, 0, 0, 0), (15, .ifCond .ge 8, 3, 23, 0, 0, 0), (18, .lload_n 3, 1, 0, 0, 0, 0), (19, .lneg, 1, 0, 0, 0, 0), (20, .goto 4, 3, 24, 0, 0, 0), (23, .lload_n 3, 1, 0, 0, 0, 0), (24, .nop, 0, 11, 0, 0, 0), (24, .ldc2_w 344, 3, 70228, 0, 0, 1000000000000), (27, .lload_n 1, 1, 0, 0, 0, 0), (28, .lconst 0, 1, 0, 0, 0, 0), (29, .lcmp, 1, 0, 0, 0, 0), (30, .ifCond .ge 8, 3, 38, 0, 0, 0), (33, .lload_n 1, 1, 0, 0, 0, 0), (34, .lneg, 1, 0, 0, 0, 0), (35, .goto 4, 3, 39, 0, 0, 0), (38, .lload_n 1, 1, 0, 0, 0, 0), (39, .nop, 0, 11, 0, 0, 0), (39, .ldiv, 1, 0, 0, 0, 0), (40, .lcmp, 1, 0, 0, 0, 0), (41, .ifCond .le 7, 3, 48, 0, 0, 0), (44, .iconst 1, 1, 0, 0, 0, 1), (45, .goto 4, 3, 49, 0, 0, 0), (48, .nop, 0, 11, 0, 0, 0), (48, .iconst 0, 1, 0, 0, 0, 0), (49, .nop, 0, 11, 0, 0, 0), (49, .istore 5, 2, 0, 0, 0, 0), (51, .aload_n 0, 1, 0, 0, 0, 0), (52, .aload_n 0, 1, 0, 0, 0, 0), (53, .getfield 341, 3, 14, 52, 3, 60068), (56, .ifCond .ne 8, 3, 64, 0, 0, 0), (59, .iload 5, 2, 0, 0, 0, 0), (61, .ifCond .eq 7, 3, 68, 0, 0, 0), (64, .nop, 0, 11, 0, 0, 0), (64, .iconst 1, 1, 0, 0, 0, 1), (65, .goto 4, 3, 69, 0, 0, 0), (68, .iconst 0, 1, 0, 0, 0, 0), (69, .nop, 0, 11, 0, 0, 0), (69, .putfield 341, 3, 14, 52, 3, 60068), (72, .aload_n 0, 1, 0, 0, 0, 0), (73, .getfield 341, 3, 14, 52, 3, 60068), (76, .ifCond .eq 7, 3, 83, 0, 0, 0), (79, .lconst 0, 1, 0, 0, 0, 0), (80, .goto 6, 3, 86, 0, 0, 0), (83, .lload_n 1, 1, 0, 0, 0, 0), (84, .lload_n 3, 1, 0, 0, 0, 0), (85, .lmul, 1, 0, 0, 0, 0), (86, .nop, 0, 0, 0, 0, 0), (86, .lreturn, 1, 0, 0, 0, 0)]
/-- 120: SpeakClockModel.compares(IJJ)Z -/
def cd_M_compares : List mE := [(0, .iload_n 0, 1, 0, 0, 0, 0), (1, .tableswitch 95 5 9 #[35, 47, 59, 71, 83], 35, 96, 9, 0, 0), (36, .lload_n 1, 1, 0, 0, 0, 0), (37, .lload_n 3, 1, 0, 0, 0, 0), (38, .lcmp, 1, 0, 0, 0, 0), (39, .ifCond .ge 7, 3, 46, 0, 0, 0), (42, .iconst 1, 1, 0, 0, 0, 1), (43, .goto 4, 3, 47, 0, 0, 0), (46, .iconst 0, 1, 0, 0, 0, 0), (47, .nop, 0, 0, 0, 0, 0), (47, .ireturn, 1, 1, 0, 0, 0), (48, .lload_n 1, 1, 0, 0, 0, 0), (49, .lload_n 3, 1, 0, 0, 0, 0), (50, .lcmp, 1, 0, 0, 0, 0), (51, .ifCond .gt 7, 3, 58, 0, 0, 0), (54, .iconst 1, 1, 0, 0, 0, 1), (55, .goto 4, 3, 59, 0, 0, 0), (58, .iconst 0, 1, 0, 0, 0, 0), (59, .nop, 0, 0, 0, 0, 0), (59, .ireturn, 1, 1, 0, 0, 0), (60, .lload_n 1, 1, 0, 0, 0, 0), (61, .lload_n 3, 1, 0, 0, 0, 0), (62, .lcmp, 1, 0, 0, 0, 0), (63, .ifCond .ne 7, 3, 70, 0, 0, 0), (66, .iconst 1, 1, 0, 0, 0, 1), (67, .goto 4, 3, 71, 0, 0, 0), (70, .iconst 0, 1, 0, 0, 0, 0), (71, .nop, 0, 0, 0, 0, 0), (71, .ireturn, 1, 1, 0, 0, 0), (72, .lload_n 1, 1, 0, 0, 0, 0), (73, .lload_n 3, 1, 0, 0, 0, 0), (74, .lcmp, 1, 0, 0, 0, 0), (75, .ifCond .eq 7, 3, 82, 0, 0, 0), (78, .iconst 1, 1, 0, 0, 0, 1), (79, .goto 4, 3, 83, 0, 0, 0), (82, .iconst 0, 1, 0, 0, 0, 0), (83, .nop, 0, 0, 0, 0, 0), (83, .ireturn, 1, 1, 0, 0, 0), (84, .lload_n 1, 1, 0, 0, 0, 0), (85, .lload_n 3, 1, 0, 0, 0, 0), (86, .lcmp, 1, 0, 0, 0, 0), (87, .ifCond .lt 7, 3, 94, 0, 0, 0), (90, .iconst 1, 1, 0, 0, 0, 1), (91, .goto 4, 3, 95, 0, 0, 0), (94, .iconst 0, 1, 0, 0, 0, 0), (95, .nop, 0, 0, 0, 0, 0), (95, .ireturn, 1, 1, 0, 0, 0), (96, .lload_n 1, 1, 0, 0, 0, 0), (97, .lload_n 3, 1, 0, 0, 0, 0), (98, .lcmp, 1, 0, 0, 0, 0), (99, .ifCond .le 7, 3, 106, 0, 0, 0), (102, .iconst 1, 1, 0, 0, 0, 1), (103, .goto 4, 3, 107, 0, 0, 0), (106, .iconst 0, 1, 0, 0, 0, 0), (107, .nop, 0, 0, 0, 0, 0), (107, .ireturn, 1, 1, 0, 0, 0)]
/-- 121: SpeakClockModel.valueOf(I)J -/
def cd_M_valueOf : List mE := [(0, .aload_n 0, 1, 0, 0, 0, 0), (1, .getfield 72, 3, 14, 39, 2, 60055), (4, .iload_n 1, 1, 0, 0, 0, 0), (5, .iaload, 1, 0, 0, 0, 0), (6, .ifCond .ne 11, 3, 17, 0, 0, 0), (9, .aload_n 0, 1, 0, 0, 0, 0), (10, .getfield 75, 3, 14, 40, 2, 60056), (13, .iload_n 1, 1, 0, 0, 0, 0), (14, .iaload, 1, 0, 0, 0, 0), (15, .i2l, 1, 0, 0, 0, 0), (16, .lreturn, 1, 0, 0, 0, 0), (17, .aload_n 0, 1, 0, 0, 0, 0), (18, .getfield 72, 3, 14, 39, 2, 60055), (21, .iload_n 1, 1, 0, 0, 0, 0), (22, .iaload, 1, 0, 0, 0, 0), (23, .iconst 1, 1, 0, 0, 0, 1), (24, .if_icmp .ne 15, 3, 39, 0, 0, 0), (27, .aload_n 0, 1, 0, 0, 0, 0), (28, .getfield 87, 3, 14, 50, 2, 60066), (31, .aload_n 0, 1, 0, 0, 0, 0), (32, .getfield 75, 3, 14, 40, 2, 60056), (35, .iload_n 1, 1, 0, 0, 0, 0), (36, .iaload, 1, 0, 0, 0, 0), (37, .laload, 1, 0, 0, 0, 0), (38, .lreturn, 1, 0, 0, 0, 0), (39, .aload_n 0, 1, 0, 0, 0, 0), (40, .getfield 91, 3, 14, 51, 2, 60067), (43, .aload_n 0, 1, 0, 0, 0, 0), (44, .getfield 75, 3, 14, 40, 2, 60056), (47, .iload_n 1, 1, 0, 0, 0, 0), (48, .iaload, 1, 0, 0, 0, 0), (49, .laload, 1, 0, 0, 0, 0), (50, .lstore_n 2, 1, 0, 0, 0, 0), (51, .aload_n 0, 1, 0, 0, 0, 0), (52, .getfield 72, 3, 14, 39, 2, 60055), (55, .iload_n 1, 1, 0, 0, 0, 0), (56, .iaload, 1, 0, 0, 0, 0), (57, .iconst 2, 1, 0, 0, 0, 2), (58, .if_icmp .ne 15, 3, 73, 0, 0, 0), (61, .lload_n 2, 1, 0, 0, 0, 0), (62, .lconst 0, 1, 0, 0, 0, 0), (63, .lcmp, 1, 0, 0, 0, 0), (64, .ifCond .ne 7, 3, 71, 0, 0, 0), (67, .lconst 1, 1, 0, 0, 0, 1), (68, .goto 4, 3, 72, 0, 0, 0), (71, .lconst 0, 1, 0, 0, 0, 0), (72, .nop, 0, 0, 0, 0, 0), (72, .lreturn, 1, 0, 0, 0, 0), (73, .aload_n 0, 1, 0, 0, 0, 0), (74, .getfield 91, 3, 14, 51, 2, 60067), (77, .aload_n 0, 1, 0, 0, 0, 0), (78, .getfield 78, 3, 14, 41, 2, 60057), (81, .iload_n 1, 1, 0, 0, 0, 0), (82, .iaload, 1, 0, 0, 0, 0), (83, .laload, 1, 0, 0, 0, 0), (84, .lstore 4, 2, 0, 0, 0, 0), (86, .aload_n 0, 1, 0, 0, 0, 0), (87, .getfield 72, 3, 14, 39, 2, 60055), (90, .iload_n 1, 1, 0, 0, 0, 0), (91, .iaload, 1, 0, 0, 0, 0), (92, .tableswitch 167 3 14 #[64, 83, 167, 167, 167, 167, 167, 167, 102, 111, 120, 128], 64, 259, 10, 0, 0), (156, .lload_n 2, 1, 0, 0, 0, 0), (157, .lconst 0, 1, 0, 0, 0, 0), (158, .lcmp, 1, 0, 0, 0, 0), (159, .ifCond .eq 14, 3, 173, 0, 0, 0), (162, .lload 4, 2, 0, 0, 0, 0), (164, .lconst 0, 1, 0, 0, 0, 0), (165, .lcmp, 1, 0, 0, 0, 0), (166, .ifCond .eq 7, 3, 173, 0, 0, 0), (169, .lconst 1, 1, 0, 0, 0, 1), (170, .goto 4, 3, 174, 0, 0, 0), (173, .nop, 0, 0, 0, 0, 0), (173, .lconst 0, 1, 0, 0, 0, 0), (174, .nop, 0, 0, 0, 0, 0), (174, .lreturn, 1, 0, 0, 0, 0), (175, .lload_n 2, 1, 0, 0, 0, 0), (176, .lconst 0, 1, 0, 0, 0, 0), (177, .lcmp, 1, 0, 0, 0, 0), (178, .ifCond .ne 10, 3, 188, 0, 0, 0), (181, .lload 4, 2, 0, 0, 0, 0), (183, .lconst 0, 1, 0, 0, 0, 0), (184, .lcmp, 1, 0, 0, 0, 0), (185, .ifCond .eq 7, 3, 192, 0, 0, 0), (188, .nop, 0, 0, 0, 0, 0), (188, .lconst 1, 1, 0, 0, 0, 1), (189, .goto 4, 3, 193, 0, 0, 0), (192, .lconst 0, 1, 0, 0, 0, 0), (193, .nop, 0, 0, 0, 0, 0), (193, .lreturn, 1, 0, 0, 0, 0), (194, .aload_n 0, 1, 0, 0, 0, 0), (195, .lload_n 2, 1, 0, 0, 0, 0), (196, .lload 4, 2, 0, 0, 0, 0), (198, .ladd, 1, 0, 0, 0, 0), (199, .invokevirtual 348, 3, 118, 2, 14, 70224), (202, .lreturn, 1, 0, 0, 0, 0), (203, .aload_n 0, 1, 0, 0, 0, 0), (204, .lload_n 2, 1, 0, 0, 0, 0), (205, .lload 4, 2, 0, 0, 0, 0), (207, .lsub, 1, 0, 0, 0, 0), (208, .invokevirtual 348, 3, 118, 2, 14, 70224), (211, .lreturn, 1, 0, 0, 0, 0), (212, .aload_n 0, 1, 0, 0, 0, 0), (213, .lload_n 2, 1, 0, 0, 0, 0), (214, .lload 4, 2, 0, 0, 0, 0), (216, .invokevirtual 352, 3, 119, 3, 14, 70230), (219, .lreturn, 1, 0, 0, 0, 0), (220, .aload_n 0, 1, 0, 0, 0, 0), (221, .aload_n 0, 1, 0, 0, 0, 0), (222, .getfield 341, 3, 14, 52, 3, 60068), (225, .ifCond .ne 10, 3, 235, 0, 0, 0), (228, .lload 4, 2, 0, 0, 0, 0), (230, .lconst 0, 1, 0, 0, 0, 0), (231, .lcmp, 1, 0, 0, 0, 0), (232, .ifCond .ne 7, 3, 239, 0, 0, 0), (235, .nop, 0, 21, 0, 0, 0), (235, .iconst 1, 1, 0, 0, 0, 1), (236, .goto 4, 3, 240, 0, 0, 0), (239, .iconst 0, 1, 0, 0, 0, 0), (240, .nop, 0, 21, 0, 0, 0), (240, .putfield 341, 3, 14, 52, 3, 60068), (243, .aload_n 0, 1, 0, 0, 0, 0), (244, .getfield 341, 3, 14, 52, 3, 60068), (247, .ifCond .eq 7, 3, 254, 0, 0, 0), (250, .lconst 0, 1, 0, 0, 0, 0), (251, .goto 7, 3, 258, 0, 0, 0), (254, .lload_n 2, 1, 0, 0, 0, 0), (255, .lload 4, 2, 0, 0, 0, 0), (257, .ldiv, 1, 0, 0, 0, 0), (258, .nop, 0, 0, 0, 0, 0), (258, .lreturn, 1, 0, 0, 0, 0), (259, .aload_n 0, 1, 0, 0, 0, 0), (260, .getfield 72, 3, 14, 39, 2, 60055), (263, .iload_n 1, 1, 0, 0, 0, 0), (264, .iaload, 1, 0, 0, 0, 0), (265, .lload_n 2, 1, 0, 0, 0, 0), (266, .lload 4, 2, 0, 0, 0, 0), (268, .invokestatic 355, 3, 120, 3, 14, 70234), (271, .ifCond .eq 7, 3, 278, 0, 0, 0), (274, .lconst 1, 1, 0, 0, 0, 1), (275, .goto 4, 3, 279, 0, 0, 0), (278, .lconst 0, 1, 0, 0, 0, 0), (279, .nop, 0, 0, 0, 0, 0), (279, .lreturn, 1, 0, 0, 0, 0)]
/-- 122: SpeakClockModel.lawOf(I)J -/
def cd_M_lawOf : List mE := [(0, .aload_n 0, 1, 0, 0, 0, 0), (1, .iconst 0, 1, 0, 0, 0, 0), (2, .putfield 341, 3, 14, 52, 3, 60068), (5, .aload_n 0, 1, 0, 0, 0, 0), (6, .getfield 66, 3, 14, 37, 2, 60053), (9, .iload_n 1, 1, 0, 0, 0, 0), (10, .iaload, 1, 0, 0, 0, 0), (11, .istore_n 2, 1, 0, 0, 0, 0), (12, .nop, 0, 7, 0, 0, 0), (12, .iload_n 2, 1, 0, 0, 0, 0), (13, .aload_n 0, 1, 0, 0, 0, 0), (14, .getfield 69, 3, 14, 38, 2, 60054), (17, .iload_n 1, 1, 0, 0, 0, 0), (18, .iaload, 1, 0, 0, 0, 0), (19, .if_icmp .ge 20, 3, 39, 0, 0, 0), (22, .aload_n 0, 1, 0, 0, 0, 0), (23, .getfield 91, 3, 14, 51, 2, 60067), (26, .iload_n 2, 1, 0, 0, 0, 0), (27, .aload_n 0, 1, 0, 0, 0, 0), (28, .iload_n 2, 1, 0, 0, 0, 0), (29, .invokevirtual 408, 3, 121, 2, 14, 70220), (32, .lastore, 1, 0, 0, 0, 0), (33, .iinc 2 1, 3, 0, 0, 0, 0), (36, .goto (-24), 3, 12, 0, 0, 0), (39, .aload_n 0, 1, 0, 0, 0, 0), (40, .getfield 341, 3, 14, 52, 3, 60068), (43, .ifCond .eq 7, 3, 50, 0, 0, 0), (46, .lconst 0, 1, 0, 0, 0, 0), (47, .goto 16, 3, 63, 0, 0, 0), (50, .aload_n 0, 1, 0, 0, 0, 0), (51, .getfield 91, 3, 14, 51, 2, 60067), (54, .aload_n 0, 1, 0, 0, 0, 0), (55, .getfield 69, 3, 14, 38, 2, 60054), (58, .iload_n 1, 1, 0, 0, 0, 0), (59, .iaload, 1, 0, 0, 0, 0), (60, .iconst 1, 1, 0, 0, 0, 1), (61, .isub, 1, 0, 0, 0, 0), (62, .laload, 1, 0, 0, 0, 0), (63, .nop, 0, 0, 0, 0, 0), (63, .lreturn, 1, 0, 0, 0, 0)]
/-- 123: SpeakClockModel.law(II)J -/
def cd_M_law : List mE := [(0, .aload_n 0, 1, 0, 0, 0, 0), (1, .iconst 0, 1, 0, 0, 0, 0), (2, .putfield 157, 3, 14, 2, 0, 60018), (5, .iload_n 1, 1, 0, 0, 0, 0), (6, .iconst 0, 1, 0, 0, 0, 0), (7, .iconst 2, 1, 0, 0, 0, 2), (8, .invokestatic 202, 3, 67, 3, 14, 70088), (11, .ifCond .eq 20, 3, 31, 0, 0, 0), (14, .aload_n 0, 1, 0, 0, 0, 0), (15, .getfield 63, 3, 14, 36, 2, 60052), (18, .iload_n 1, 1, 0, 0, 0, 0), (19, .baload, 1, 0, 0, 0, 0), (20, .ifCond .eq 11, 3, 31, 0, 0, 0), (23, .aload_n 0, 1, 0, 0, 0, 0), (24, .iload_n 2, 1, 0, 0, 0, 0), (25, .invokevirtual 468, 3, 99, 2, 14, 70174), (28, .ifCond .ne 7, 3, 35, 0, 0, 0), (31, .nop, 0, 0, 0, 0, 0), (31, .ldc2_w 481, 3, 70203, 0, 0, (-9223372036854775808)), (34, .lreturn, 1, 0, 0, 0, 0), (35, .aload_n 0, 1, 0, 0, 0, 0), (36, .invokevirtual 366, 3, 13, 1, 14, 60012), (39, .aload_n 0, 1, 0, 0, 0, 0), (40, .iconst 0, 1, 0, 0, 0, 0), (41, .iload_n 2, 1, 0, 0, 0, 0), (42, .iload_n 1, 1, 0, 0, 0, 0), (43, .iconst 1, 1, 0, 0, 0, 1), (44, .if_icmp .ne 12, 3, 56, 0, 0, 0), (47, .aload_n 0, 1, 0, 0, 0, 0), (48, .getfield 97, 3, 14, 54, 2, 60070), (51, .iload_n 2, 1, 0, 0, 0, 0), (52, .iaload, 1, 0, 0, 0, 0), (53, .goto 9, 3, 62, 0, 0, 0), (56, .aload_n 0, 1, 0, 0, 0, 0), (57, .getfield 109, 3, 14, 58, 2, 60074), (60, .iconst 0, 1, 0, 0, 0, 0), (61, .iaload, 1, 0, 0, 0, 0), (62, .nop, 0, 3, 0, 0, 0), (62, .invokevirtual 430, 3, 117, 4, 14, 70204), (65, .aload_n 0, 1, 0, 0, 0, 0), (66, .iload_n 1, 1, 0, 0, 0, 0), (67, .invokevirtual 412, 3, 122, 2, 14, 70216), (70, .lstore_n 3, 1, 0, 0, 0, 0), (71, .aload_n 0, 1, 0, 0, 0, 0), (72, .getfield 341, 3, 14, 52, 3, 60068), (75, .ifCond .eq 9, 3, 84, 0, 0, 0), (78, .ldc2_w 481, 3, 70203, 0, 0, (-9223372036854775808)), (81, .goto 4, 3, 85, 0, 0, 0), (84, .lload_n 3, 1, 0, 0, 0, 0), (85, .nop, 0, 0, 0, 0, 0), (85, .lreturn, 1, 0, 0, 0, 0)]
/-- 124: SpeakClock$Day.takesIn(I)Z -/
def cd_Day_takesIn : List mE := [(0, .aload_n 0, 1, 0, 0, 0, 0), (1, .getfield 46, 3, 4, 11, 0, 20118), (4, .bipush 20, 2, 0, 0, 0, 20), (6, .if_icmp .ge 11, 3, 17, 0, 0, 0), (9, .aload_n 0, 1, 0, 0, 0, 0), (10, .iload_n 1, 1, 0, 0, 0, 0), (11, .invokevirtual 84, 3, 96, 2, 4, 40054), (14, .ifCond .eq 5, 3, 19, 0, 0, 0), (17, .nop, 0, 0, 0, 0, 0), (17, .iconst 0, 1, 0, 0, 0, 0), (18, .ireturn, 1, 1, 0, 0, 0), (19, .aload_n 0, 1, 0, 0, 0, 0), (20, .getfield 15, 3, 4, 1, 2, 20091), (23, .iload_n 1, 1, 0, 0, 0, 0), (24, .aload_n 0, 1, 0, 0, 0, 0), (25, .getfield 49, 3, 4, 12, 0, 20121), (28, .iconst (-1), 1, 0, 0, 0, (-1)), (29, .if_icmp .ne 10, 3, 39, 0, 0, 0), (32, .aload_n 0, 1, 0, 0, 0, 0), (33, .getfield 46, 3, 4, 11, 0, 20118), (36, .goto 9, 3, 45, 0, 0, 0), (39, .aload_n 0, 1, 0, 0, 0, 0), (40, .getfield 46, 3, 4, 11, 0, 20118), (43, .iconst 1, 1, 0, 0, 0, 1), (44, .iadd, 1, 0, 0, 0, 0), (45, .nop, 0, 3, 0, 0, 0), (45, .iastore, 1, 0, 0, 0, 0), (46, .aload_n 0, 1, 0, 0, 0, 0), (47, .getfield 21, 3, 4, 3, 2, 20097), (50, .aload_n 0, 1, 0, 0, 0, 0), (51, .getfield 46, 3, 4, 11, 0, 20118), (54, .iload_n 1, 1, 0, 0, 0, 0), (55, .iastore, 1, 0, 0, 0, 0), (56, .aload_n 0, 1, 0, 0, 0, 0), (57, .dup, 1, 0, 0, 0, 0), (58, .getfield 46, 3, 4, 11, 0, 20118), (61, .iconst 1, 1, 0, 0, 0, 1), (62, .iadd, 1, 0, 0, 0, 0), (63, .putfield 46, 3, 4, 11, 0, 20118), (66, .iconst 1, 1, 0, 0, 0, 1), (67, .ireturn, 1, 1, 0, 0, 0)]
/-- 125: SpeakClock$Log.note(III)V -/
def cd_Log_note : List mE := [(0, .aload_n 0, 1, 0, 0, 0, 0), (1, .getfield 21, 3, 8, 3, 0, 30008), (4, .bipush 20, 2, 0, 0, 0, 20), (6, .if_icmp .lt 73, 3, 79, 0, 0, 0), (9, .iconst 1, 1, 0, 0, 0, 1), (10, .istore 4, 2, 0, 0, 0, 0), (12, .nop, 0, 31, 0, 0, 0), (12, .iload 4, 2, 0, 0, 0, 0), (14, .bipush 20, 2, 0, 0, 0, 20), (16, .if_icmp .ge 57, 3, 73, 0, 0, 0), (19, .aload_n 0, 1, 0, 0, 0, 0), (20, .getfield 9, 3, 8, 0, 2, 30002), (23, .iload 4, 2, 0, 0, 0, 0), (25, .iconst 1, 1, 0, 0, 0, 1), (26, .isub, 1, 0, 0, 0, 0), (27, .aload_n 0, 1, 0, 0, 0, 0), (28, .getfield 9, 3, 8, 0, 2, 30002), (31, .iload 4, 2, 0, 0, 0, 0), (33, .iaload, 1, 0, 0, 0, 0), (34, .iastore, 1, 0, 0, 0, 0), (35, .aload_n 0, 1, 0, 0, 0, 0), (36, .getfield 15, 3, 8, 1, 2, 30004), (39, .iload 4, 2, 0, 0, 0, 0), (41, .iconst 1, 1, 0, 0, 0, 1), (42, .isub, 1, 0, 0, 0, 0), (43, .aload_n 0, 1, 0, 0, 0, 0), (44, .getfield 15, 3, 8, 1, 2, 30004), (47, .iload 4, 2, 0, 0, 0, 0), (49, .iaload, 1, 0, 0, 0, 0), (50, .iastore, 1, 0, 0, 0, 0), (51, .aload_n 0, 1, 0, 0, 0, 0), (52, .getfield 18, 3, 8, 2, 2, 30006), (55, .iload 4, 2, 0, 0, 0, 0), (57, .iconst 1, 1, 0, 0, 0, 1), (58, .isub, 1, 0, 0, 0, 0), (59, .aload_n 0, 1, 0, 0, 0, 0), (60, .getfield 18, 3, 8, 2, 2, 30006), (63, .iload 4, 2, 0, 0, 0, 0), (65, .iaload, 1, 0, 0, 0, 0), (66, .iastore, 1, 0, 0, 0, 0), (67, .iinc 4 1, 3, 0, 0, 0, 0), (70, .goto (-58), 3, 12, 0, 0, 0), (73, .aload_n 0, 1, 0, 0, 0, 0), (74, .bipush 19, 2, 0, 0, 0, 19), (76, .putfield 21, 3, 8, 3, 0, 30008), (79, .nop, 0, 15, 0, 0, 0), (79, .aload_n 0, 1, 0, 0, 0, 0), (80, .getfield 9, 3, 8, 0, 2, 30002), (83, .aload_n 0, 1, 0, 0, 0, 0), (84, .getfield 21, 3, 8, 3, 0, 30008), (87, .iload_n 1, 1, 0, 0, 0, 0), (88, .iastore, 1, 0, 0, 0, 0), (89, .aload_n 0, 1, 0, 0, 0, 0), (90, .getfield 15, 3, 8, 1, 2, 30004), (93, .aload_n 0, 1, 0, 0, 0, 0), (94, .getfield 21, 3, 8, 3, 0, 30008), (97, .iload_n 2, 1, 0, 0, 0, 0), (98, .iastore, 1, 0, 0, 0, 0), (99, .aload_n 0, 1, 0, 0, 0, 0), (100, .getfield 18, 3, 8, 2, 2, 30006), (103, .aload_n 0, 1, 0, 0, 0, 0), (104, .getfield 21, 3, 8, 3, 0, 30008), (107, .iload_n 3, 1, 0, 0, 0, 0), (108, .iastore, 1, 0, 0, 0, 0), (109, .aload_n 0, 1, 0, 0, 0, 0), (110, .dup, 1, 0, 0, 0, 0), (111, .getfield 21, 3, 8, 3, 0, 30008), (114, .iconst 1, 1, 0, 0, 0, 1), (115, .iadd, 1, 0, 0, 0, 0), (116, .putfield 21, 3, 8, 3, 0, 30008), (119, .return_, 1, 0, 0, 0, 0)]
/-- 126: SpeakClock.ring(I)I -/
def cd_C_ring : List mE := [(0, .aload_n 0, 1, 0, 0, 0, 0), (1, .iload_n 1, 1, 0, 0, 0, 0), (2, .invokevirtual 117, 3, 94, 2, 13, 40012), (5, .ifCond .ne 5, 3, 10, 0, 0, 0), (8, .iconst (-1), 1, 0, 0, 0, (-1)), (9, .ireturn, 1, 0, 0, 0, 0), (10, .aload_n 0, 1, 0, 0, 0, 0), (11, .getfield 32, 3, 13, 2, 2, 30021), (14, .getfield 143, 3, 4, 1, 2, 20092), (17, .iload_n 1, 1, 0, 0, 0, 0), (18, .iaload, 1, 0, 0, 0, 0), (19, .istore_n 2, 1, 0, 0, 0, 0), (20, .aload_n 0, 1, 0, 0, 0, 0), (21, .getfield 32, 3, 13, 2, 2, 30021), (24, .iload_n 1, 1, 0, 0, 0, 0), (25, .invokevirtual 197, 3, 124, 2, 4, 40050), (28, .ifCond .ne 6, 3, 34, 0, 0, 0), (31, .bipush (-2), 2, 0, 0, 0, (-2)), (33, .ireturn, 1, 0, 0, 0, 0), (34, .aload_n 0, 1, 0, 0, 0, 0), (35, .getfield 62, 3, 13, 8, 2, 30027), (38, .iconst 0, 1, 0, 0, 0, 0), (39, .iload_n 1, 1, 0, 0, 0, 0), (40, .iload_n 2, 1, 0, 0, 0, 0), (41, .invokevirtual 200, 3, 125, 4, 8, 40062), (44, .aload_n 0, 1, 0, 0, 0, 0), (45, .getfield 32, 3, 13, 2, 2, 30021), (48, .getfield 143, 3, 4, 1, 2, 20092), (51, .iload_n 1, 1, 0, 0, 0, 0), (52, .iaload, 1, 0, 0, 0, 0), (53, .ireturn, 1, 0, 0, 0, 0)]
/-- 127: SpeakClockModel.put([II)V -/
def cd_M_put : List mE := [(0, .iconst 0, 1, 0, 0, 0, 0), (1, .istore_n 3, 1, 0, 0, 0, 0), (2, .nop, 0, 15, 0, 0, 0), (2, .iload_n 3, 1, 0, 0, 0, 0), (3, .bipush 6, 2, 0, 0, 0, 6), (5, .if_icmp .ge 62, 3, 67, 0, 0, 0), (8, .aload_n 1, 1, 0, 0, 0, 0), (9, .iload_n 2, 1, 0, 0, 0, 0), (10, .iload_n 3, 1, 0, 0, 0, 0), (11, .iadd, 1, 0, 0, 0, 0), (12, .aload_n 0, 1, 0, 0, 0, 0), (13, .getfield 94, 3, 14, 53, 2, 60069), (16, .iload_n 3, 1, 0, 0, 0, 0), (17, .iaload, 1, 0, 0, 0, 0), (18, .iastore, 1, 0, 0, 0, 0), (19, .aload_n 1, 1, 0, 0, 0, 0), (20, .iload_n 2, 1, 0, 0, 0, 0), (21, .bipush 6, 2, 0, 0, 0, 6), (23, .iadd, 1, 0, 0, 0, 0), (24, .iload_n 3, 1, 0, 0, 0, 0), (25, .iadd, 1, 0, 0, 0, 0), (26, .aload_n 0, 1, 0, 0, 0, 0), (27, .getfield 97, 3, 14, 54, 2, 60070), (30, .iload_n 3, 1, 0, 0, 0, 0), (31, .iaload, 1, 0, 0, 0, 0), (32, .iastore, 1, 0, 0, 0, 0), (33, .aload_n 1, 1, 0, 0, 0, 0), (34, .iload_n 2, 1, 0, 0, 0, 0), (35, .bipush 12, 2, 0, 0, 0, 12), (37, .iadd, 1, 0, 0, 0, 0), (38, .iload_n 3, 1, 0, 0, 0, 0), (39, .iadd, 1, 0, 0, 0, 0), (40, .aload_n 0, 1, 0, 0, 0, 0), (41, .getfield 100, 3, 14, 55, 2, 60071), (44, .iload_n 3, 1, 0, 0, 0, 0), (45, .iaload, 1, 0, 0, 0, 0), (46, .iastore, 1, 0, 0, 0, 0), (47, .aload_n 1, 1, 0, 0, 0, 0), (48, .iload_n 2, 1, 0, 0, 0, 0), (49, .bipush 18, 2, 0, 0, 0, 18), (51, .iadd, 1, 0, 0, 0, 0), (52, .iload_n 3, 1, 0, 0, 0, 0), (53, .iadd, 1, 0, 0, 0, 0), (54, .aload_n 0, 1, 0, 0, 0, 0), (55, .getfield 118, 3, 14, 61, 2, 60077), (58, .iload_n 3, 1, 0, 0, 0, 0), (59, .iaload, 1, 0, 0, 0, 0), (60, .iastore, 1, 0, 0, 0, 0), (61, .iinc 3 1, 3, 0, 0, 0, 0), (64, .goto (-62), 3, 2, 0, 0, 0), (67, .iconst 0, 1, 0, 0, 0, 0), (68, .istore_n 3, 1, 0, 0, 0, 0), (69, .nop, 0, 15, 0, 0, 0), (69, .iload_n 3, 1, 0, 0, 0, 0), (70, .bipush 20, 2, 0, 0, 0, 20), (72, .if_icmp .ge 23, 3, 95, 0, 0, 0), (75, .aload_n 1, 1, 0, 0, 0, 0), (76, .iload_n 2, 1, 0, 0, 0, 0), (77, .bipush 24, 2, 0, 0, 0, 24), (79, .iadd, 1, 0, 0, 0, 0), (80, .iload_n 3, 1, 0, 0, 0, 0), (81, .iadd, 1, 0, 0, 0, 0), (82, .aload_n 0, 1, 0, 0, 0, 0), (83, .getfield 106, 3, 14, 57, 2, 60073), (86, .iload_n 3, 1, 0, 0, 0, 0), (87, .iaload, 1, 0, 0, 0, 0), (88, .iastore, 1, 0, 0, 0, 0), (89, .iinc 3 1, 3, 0, 0, 0, 0), (92, .goto (-23), 3, 69, 0, 0, 0), (95, .aload_n 1, 1, 0, 0, 0, 0), (96, .iload_n 2, 1, 0, 0, 0, 0), (97, .bipush 44, 2, 0, 0, 0, 44), (99, .iadd, 1, 0, 0, 0, 0), (100, .aload_n 0, 1, 0, 0, 0, 0), (101, .getfield 109, 3, 14, 58, 2, 60074), (104, .iconst 0, 1, 0, 0, 0, 0), (105, .iaload, 1, 0, 0, 0, 0), (106, .iastore, 1, 0, 0, 0, 0), (107, .aload_n 1, 1, 0, 0, 0, 0), (108, .iload_n 2, 1, 0, 0, 0, 0), (109, .bipush 45, 2, 0, 0, 0, 45), (111, .iadd, 1, 0, 0, 0, 0), (112, .aload_n 0, 1, 0, 0, 0, 0), (113, .getfield 112, 3, 14, 59, 2, 60075), (116, .iconst 0, 1, 0, 0, 0, 0), (117, .iaload, 1, 0, 0, 0, 0), (118, .iastore, 1, 0, 0, 0, 0), (119, .aload_n 1, 1, 0, 0, 0, 0), (120, .iload_n 2, 1, 0, 0, 0, 0), (121, .bipush 46, 2, 0, 0, 0, 46), (123, .iadd, 1, 0, 0, 0, 0), (124, .aload_n 0, 1, 0, 0, 0, 0), (125, .getfield 115, 3, 14, 60, 2, 60076), (128, .iconst 0, 1, 0, 0, 0, 0), (129, .iaload, 1, 0, 0, 0, 0), (130, .iastore, 1, 0, 0, 0, 0), (131, .return_, 1, 0, 0, 0, 0)]
/-- 128: SpeakClockModel.remember()V -/
def cd_M_remember : List mE := [(0, .aload_n 0, 1, 0, 0, 0, 0), (1, .getfield 372, 3, 14, 79, 0, 60095), (4, .bipush 20, 2, 0, 0, 0, 20), (6, .if_icmp .ne 43, 3, 49, 0, 0, 0), (9, .iconst 0, 1, 0, 0, 0, 0), (10, .istore_n 1, 1, 0, 0, 0, 0), (11, .nop, 0, 3, 0, 0, 0), (11, .iload_n 1, 1, 0, 0, 0, 0), (12, .sipush 893, 3, 0, 0, 0, 893), (15, .if_icmp .ge 24, 3, 39, 0, 0, 0), (18, .aload_n 0, 1, 0, 0, 0, 0), (19, .getfield 142, 3, 14, 80, 2, 60096), (22, .iload_n 1, 1, 0, 0, 0, 0), (23, .aload_n 0, 1, 0, 0, 0, 0), (24, .getfield 142, 3, 14, 80, 2, 60096), (27, .iload_n 1, 1, 0, 0, 0, 0), (28, .bipush 47, 2, 0, 0, 0, 47), (30, .iadd, 1, 0, 0, 0, 0), (31, .iaload, 1, 0, 0, 0, 0), (32, .iastore, 1, 0, 0, 0, 0), (33, .iinc 1 1, 3, 0, 0, 0, 0), (36, .goto (-25), 3, 11, 0, 0, 0), (39, .aload_n 0, 1, 0, 0, 0, 0), (40, .dup, 1, 0, 0, 0, 0), (41, .getfield 372, 3, 14, 79, 0, 60095), (44, .iconst 1, 1, 0, 0, 0, 1), (45, .isub, 1, 0, 0, 0, 0), (46, .putfield 372, 3, 14, 79, 0, 60095), (49, .nop, 0, 1, 0, 0, 0), (49, .aload_n 0, 1, 0, 0, 0, 0), (50, .aload_n 0, 1, 0, 0, 0, 0), (51, .getfield 142, 3, 14, 80, 2, 60096), (54, .bipush 47, 2, 0, 0, 0, 47), (56, .aload_n 0, 1, 0, 0, 0, 0), (57, .getfield 372, 3, 14, 79, 0, 60095), (60, .imul, 1, 0, 0, 0, 0), (61, .invokevirtual 531, 3, 127, 3, 14, 80005), (64, .aload_n 0, 1, 0, 0, 0, 0), (65, .dup, 1, 0, 0, 0, 0), (66, .getfield 372, 3, 14, 79, 0, 60095), (69, .iconst 1, 1, 0, 0, 0, 1), (70, .iadd, 1, 0, 0, 0, 0), (71, .putfield 372, 3, 14, 79, 0, 60095), (74, .return_, 1, 0, 0, 0, 0)]
/-- 129: SpeakClockModel.joins(II)Z -/
def cd_M_joins : List mE := [(0, .aload_n 0, 1, 0, 0, 0, 0), (1, .getfield 94, 3, 14, 53, 2, 60069), (4, .bipush 6, 2, 0, 0, 0, 6), (6, .iload_n 1, 1, 0, 0, 0, 0), (7, .imul, 1, 0, 0, 0, 0), (8, .iload_n 2, 1, 0, 0, 0, 0), (9, .iadd, 1, 0, 0, 0, 0), (10, .iaload, 1, 0, 0, 0, 0), (11, .ifCond .ne 14, 3, 25, 0, 0, 0), (14, .aload_n 0, 1, 0, 0, 0, 0), (15, .getfield 109, 3, 14, 58, 2, 60074), (18, .iload_n 1, 1, 0, 0, 0, 0), (19, .iaload, 1, 0, 0, 0, 0), (20, .bipush 20, 2, 0, 0, 0, 20), (22, .if_icmp .ne 5, 3, 27, 0, 0, 0), (25, .nop, 0, 0, 0, 0, 0), (25, .iconst 0, 1, 0, 0, 0, 0), (26, .ireturn, 1, 1, 0, 0, 0), (27, .aload_n 0, 1, 0, 0, 0, 0), (28, .getfield 97, 3, 14, 54, 2, 60070), (31, .bipush 6, 2, 0, 0, 0, 6), (33, .iload_n 1, 1, 0, 0, 0, 0), (34, .imul, 1, 0, 0, 0, 0), (35, .iload_n 2, 1, 0, 0, 0, 0), (36, .iadd, 1, 0, 0, 0, 0), (37, .aload_n 0, 1, 0, 0, 0, 0), (38, .getfield 109, 3, 14, 58, 2, 60074), (41, .iload_n 1, 1, 0, 0, 0, 0), (42, .iaload, 1, 0, 0, 0, 0), (43, .aload_n 0, 1, 0, 0, 0, 0), (44, .getfield 112, 3, 14, 59, 2, 60075), (47, .iload_n 1, 1, 0, 0, 0, 0), (48, .iaload, 1, 0, 0, 0, 0), (49, .iconst (-1), 1, 0, 0, 0, (-1)), (50, .if_icmp .ne 7, 3, 57, 0, 0, 0), (53, .iconst 0, 1, 0, 0, 0, 0), (54, .goto 4, 3, 58, 0, 0, 0), (57, .iconst 1, 1, 0, 0, 0, 1), (58, .nop, 0, 7, 0, 0, 0), (58, .iadd, 1, 0, 0, 0, 0), (59, .iastore, 1, 0, 0, 0, 0), (60, .aload_n 0, 1, 0, 0, 0, 0), (61, .getfield 106, 3, 14, 57, 2, 60073), (64, .bipush 20, 2, 0, 0, 0, 20), (66, .iload_n 1, 1, 0, 0, 0, 0), (67, .imul, 1, 0, 0, 0, 0), (68, .aload_n 0, 1, 0, 0, 0, 0), (69, .getfield 109, 3, 14, 58, 2, 60074), (72, .iload_n 1, 1, 0, 0, 0, 0), (73, .iaload, 1, 0, 0, 0, 0), (74, .iadd, 1, 0, 0, 0, 0), (75, .iload_n 2, 1, 0, 0, 0, 0), (76, .iastore, 1, 0, 0, 0, 0), (77, .aload_n 0, 1, 0, 0, 0, 0), (78, .getfield 109, 3, 14, 58, 2, 60074), (81, .iload_n 1, 1, 0, 0, 0, 0), (82, .dup2, 1, 0, 0, 0, 0), (83, .iaload, 1, 0, 0, 0, 0), (84, .iconst 1, 1, 0, 0, 0, 1), (85, .iadd, 1, 0, 0, 0, 0), (86, .iastore, 1, 0, 0, 0, 0), (87, .aload_n 0, 1, 0, 0, 0, 0), (88, .getfield 94, 3, 14, 53, 2, 60069), (91, .bipush 6, 2, 0, 0, 0, 6), (93, .iload_n 1, 1, 0, 0, 0, 0), (94, .imul, 1, 0, 0, 0, 0), (95, .iload_n 2, 1, 0, 0, 0, 0), (96, .iadd, 1, 0, 0, 0, 0), (97, .iconst 1, 1, 0, 0, 0, 1), (98, .iastore, 1, 0, 0, 0, 0), (99, .iconst 1, 1, 0, 0, 0, 1), (100, .ireturn, 1, 1, 0, 0, 0)]
/-- 130: SpeakClockModel.ring(I)I -/
def cd_M_ring : List mE := [(0, .aload_n 0, 1, 0, 0, 0, 0), (1, .iconst 0, 1, 0, 0, 0, 0), (2, .putfield 157, 3, 14, 2, 0, 60018), (5, .aload_n 0, 1, 0, 0, 0, 0), (6, .iload_n 1, 1, 0, 0, 0, 0), (7, .invokevirtual 468, 3, 99, 2, 14, 70174), (10, .ifCond .ne 5, 3, 15, 0, 0, 0), (13, .iconst (-1), 1, 0, 0, 0, (-1)), (14, .ireturn, 1, 0, 0, 0, 0), (15, .aload_n 0, 1, 0, 0, 0, 0), (16, .getfield 94, 3, 14, 53, 2, 60069), (19, .iload_n 1, 1, 0, 0, 0, 0), (20, .iaload, 1, 0, 0, 0, 0), (21, .ifCond .ne 14, 3, 35, 0, 0, 0), (24, .aload_n 0, 1, 0, 0, 0, 0), (25, .getfield 109, 3, 14, 58, 2, 60074), (28, .iconst 0, 1, 0, 0, 0, 0), (29, .iaload, 1, 0, 0, 0, 0), (30, .bipush 20, 2, 0, 0, 0, 20), (32, .if_icmp .ne 6, 3, 38, 0, 0, 0), (35, .nop, 0, 0, 0, 0, 0), (35, .bipush (-2), 2, 0, 0, 0, (-2)), (37, .ireturn, 1, 0, 0, 0, 0), (38, .aload_n 0, 1, 0, 0, 0, 0), (39, .invokevirtual 483, 3, 128, 1, 14, 80001), (42, .aload_n 0, 1, 0, 0, 0, 0), (43, .iconst 0, 1, 0, 0, 0, 0), (44, .iload_n 1, 1, 0, 0, 0, 0), (45, .invokevirtual 447, 3, 129, 3, 14, 80009), (48, .pop, 1, 0, 0, 0, 0), (49, .aload_n 0, 1, 0, 0, 0, 0), (50, .getfield 97, 3, 14, 54, 2, 60070), (53, .iload_n 1, 1, 0, 0, 0, 0), (54, .iaload, 1, 0, 0, 0, 0), (55, .ireturn, 1, 0, 0, 0, 0)]
/-- 131: SpeakClock$Day.takeOut(I)V -/
def cd_Day_takeOut : List mE := [(0, .iload_n 1, 1, 0, 0, 0, 0), (1, .ifCond .lt 11, 3, 12, 0, 0, 0), (4, .iload_n 1, 1, 0, 0, 0, 0), (5, .aload_n 0, 1, 0, 0, 0, 0), (6, .getfield 46, 3, 4, 11, 0, 20118), (9, .if_icmp .lt 4, 3, 13, 0, 0, 0), (12, .nop, 0, 0, 0, 0, 0), (12, .return_, 1, 0, 0, 0, 0), (13, .iload_n 1, 1, 0, 0, 0, 0), (14, .istore_n 2, 1, 0, 0, 0, 0), (15, .nop, 0, 5, 0, 0, 0), (15, .iload_n 2, 1, 0, 0, 0, 0), (16, .aload_n 0, 1, 0, 0, 0, 0), (17, .getfield 46, 3, 4, 11, 0, 20118), (20, .iconst 1, 1, 0, 0, 0, 1), (21, .isub, 1, 0, 0, 0, 0), (22, .if_icmp .ge 23, 3, 45, 0, 0, 0), (25, .aload_n 0, 1, 0, 0, 0, 0), (26, .getfield 21, 3, 4, 3, 2, 20097), (29, .iload_n 2, 1, 0, 0, 0, 0), (30, .aload_n 0, 1, 0, 0, 0, 0), (31, .getfield 21, 3, 4, 3, 2, 20097), (34, .iload_n 2, 1, 0, 0, 0, 0), (35, .iconst 1, 1, 0, 0, 0, 1), (36, .iadd, 1, 0, 0, 0, 0), (37, .iaload, 1, 0, 0, 0, 0), (38, .iastore, 1, 0, 0, 0, 0), (39, .iinc 2 1, 3, 0, 0, 0, 0), (42, .goto (-27), 3, 15, 0, 0, 0), (45, .aload_n 0, 1, 0, 0, 0, 0), (46, .dup, 1, 0, 0, 0, 0), (47, .getfield 46, 3, 4, 11, 0, 20118), (50, .iconst 1, 1, 0, 0, 0, 1), (51, .isub, 1, 0, 0, 0, 0), (52, .putfield 46, 3, 4, 11, 0, 20118), (55, .return_, 1, 0, 0, 0, 0)]
/-- 132: SpeakClock.hangUp(I)Z -/
def cd_C_hangUp : List mE := [(0, .aload_n 0, 1, 0, 0, 0, 0), (1, .iload_n 1, 1, 0, 0, 0, 0), (2, .invokevirtual 117, 3, 94, 2, 13, 40012), (5, .ifCond .ne 5, 3, 10, 0, 0, 0), (8, .iconst 0, 1, 0, 0, 0, 0), (9, .ireturn, 1, 1, 0, 0, 0), (10, .aload_n 0, 1, 0, 0, 0, 0), (11, .getfield 32, 3, 13, 2, 2, 30021), (14, .getfield 204, 3, 4, 12, 0, 20123), (17, .iload_n 1, 1, 0, 0, 0, 0), (18, .if_icmp .ne 37, 3, 55, 0, 0, 0), (21, .aload_n 0, 1, 0, 0, 0, 0), (22, .getfield 62, 3, 13, 8, 2, 30027), (25, .iconst 2, 1, 0, 0, 0, 2), (26, .iload_n 1, 1, 0, 0, 0, 0), (27, .aload_n 0, 1, 0, 0, 0, 0), (28, .getfield 32, 3, 13, 2, 2, 30021), (31, .getfield 207, 3, 4, 13, 0, 20126), (34, .invokevirtual 200, 3, 125, 4, 8, 40062), (37, .aload_n 0, 1, 0, 0, 0, 0), (38, .getfield 32, 3, 13, 2, 2, 30021), (41, .iconst (-1), 1, 0, 0, 0, (-1)), (42, .putfield 204, 3, 4, 12, 0, 20123), (45, .aload_n 0, 1, 0, 0, 0, 0), (46, .getfield 32, 3, 13, 2, 2, 30021), (49, .iconst 0, 1, 0, 0, 0, 0), (50, .putfield 207, 3, 4, 13, 0, 20126), (53, .iconst 1, 1, 0, 0, 0, 1), (54, .ireturn, 1, 1, 0, 0, 0), (55, .aload_n 0, 1, 0, 0, 0, 0), (56, .getfield 32, 3, 13, 2, 2, 30021), (59, .iload_n 1, 1, 0, 0, 0, 0), (60, .invokevirtual 149, 3, 95, 2, 4, 40070), (63, .istore_n 2, 1, 0, 0, 0, 0), (64, .iload_n 2, 1, 0, 0, 0, 0), (65, .iconst (-1), 1, 0, 0, 0, (-1)), (66, .if_icmp .ne 5, 3, 71, 0, 0, 0), (69, .iconst 0, 1, 0, 0, 0, 0), (70, .ireturn, 1, 1, 0, 0, 0), (71, .aload_n 0, 1, 0, 0, 0, 0), (72, .getfield 62, 3, 13, 8, 2, 30027), (75, .iconst 1, 1, 0, 0, 0, 1), (76, .iload_n 1, 1, 0, 0, 0, 0), (77, .iload_n 2, 1, 0, 0, 0, 0), (78, .invokevirtual 200, 3, 125, 4, 8, 40062), (81, .aload_n 0, 1, 0, 0, 0, 0), (82, .getfield 32, 3, 13, 2, 2, 30021), (85, .iload_n 2, 1, 0, 0, 0, 0), (86, .invokevirtual 210, 3, 131, 2, 4, 40071), (89, .iconst 1, 1, 0, 0, 0, 1), (90, .ireturn, 1, 1, 0, 0, 0)]
/-- 133: SpeakClockModel.leaves(II)V -/
def cd_M_leaves : List mE := [(0, .iload_n 2, 1, 0, 0, 0, 0), (1, .istore_n 3, 1, 0, 0, 0, 0), (2, .nop, 0, 11, 0, 0, 0), (2, .iload_n 3, 1, 0, 0, 0, 0), (3, .iconst 1, 1, 0, 0, 0, 1), (4, .iadd, 1, 0, 0, 0, 0), (5, .aload_n 0, 1, 0, 0, 0, 0), (6, .getfield 109, 3, 14, 58, 2, 60074), (9, .iload_n 1, 1, 0, 0, 0, 0), (10, .iaload, 1, 0, 0, 0, 0), (11, .if_icmp .ge 33, 3, 44, 0, 0, 0), (14, .aload_n 0, 1, 0, 0, 0, 0), (15, .getfield 106, 3, 14, 57, 2, 60073), (18, .bipush 20, 2, 0, 0, 0, 20), (20, .iload_n 1, 1, 0, 0, 0, 0), (21, .imul, 1, 0, 0, 0, 0), (22, .iload_n 3, 1, 0, 0, 0, 0), (23, .iadd, 1, 0, 0, 0, 0), (24, .aload_n 0, 1, 0, 0, 0, 0), (25, .getfield 106, 3, 14, 57, 2, 60073), (28, .bipush 20, 2, 0, 0, 0, 20), (30, .iload_n 1, 1, 0, 0, 0, 0), (31, .imul, 1, 0, 0, 0, 0), (32, .iload_n 3, 1, 0, 0, 0, 0), (33, .iadd, 1, 0, 0, 0, 0), (34, .iconst 1, 1, 0, 0, 0, 1), (35, .iadd, 1, 0, 0, 0, 0), (36, .iaload, 1, 0, 0, 0, 0), (37, .iastore, 1, 0, 0, 0, 0), (38, .iinc 3 1, 3, 0, 0, 0, 0), (41, .goto (-39), 3, 2, 0, 0, 0), (44, .aload_n 0, 1, 0, 0, 0, 0), (45, .getfield 109, 3, 14, 58, 2, 60074), (48, .iload_n 1, 1, 0, 0, 0, 0), (49, .dup2, 1, 0, 0, 0, 0), (50, .iaload, 1, 0, 0, 0, 0), (51, .iconst 1, 1, 0, 0, 0, 1), (52, .isub, 1, 0, 0, 0, 0), (53, .iastore, 1, 0, 0, 0, 0), (54, .return_, 1, 0, 0, 0, 0)]
/-- 134: SpeakClockModel.hangUp(I)Z -/
def cd_M_hangUp : List mE := [(0, .aload_n 0, 1, 0, 0, 0, 0), (1, .iconst 0, 1, 0, 0, 0, 0), (2, .putfield 157, 3, 14, 2, 0, 60018), (5, .aload_n 0, 1, 0, 0, 0, 0), (6, .iload_n 1, 1, 0, 0, 0, 0), (7, .invokevirtual 468, 3, 99, 2, 14, 70174), (10, .ifCond .eq 12, 3, 22, 0, 0, 0), (13, .aload_n 0, 1, 0, 0, 0, 0), (14, .getfield 94, 3, 14, 53, 2, 60069), (17, .iload_n 1, 1, 0, 0, 0, 0), (18, .iaload, 1, 0, 0, 0, 0), (19, .ifCond .ne 5, 3, 24, 0, 0, 0), (22, .nop, 0, 0, 0, 0, 0), (22, .iconst 0, 1, 0, 0, 0, 0), (23, .ireturn, 1, 1, 0, 0, 0), (24, .aload_n 0, 1, 0, 0, 0, 0), (25, .invokevirtual 483, 3, 128, 1, 14, 80001), (28, .aload_n 0, 1, 0, 0, 0, 0), (29, .getfield 94, 3, 14, 53, 2, 60069), (32, .iload_n 1, 1, 0, 0, 0, 0), (33, .iaload, 1, 0, 0, 0, 0), (34, .iconst 1, 1, 0, 0, 0, 1), (35, .if_icmp .ne 16, 3, 51, 0, 0, 0), (38, .aload_n 0, 1, 0, 0, 0, 0), (39, .iconst 0, 1, 0, 0, 0, 0), (40, .aload_n 0, 1, 0, 0, 0, 0), (41, .iload_n 1, 1, 0, 0, 0, 0), (42, .invokevirtual 474, 3, 101, 2, 14, 70182), (45, .invokevirtual 426, 3, 133, 3, 14, 80017), (48, .goto 10, 3, 58, 0, 0, 0), (51, .aload_n 0, 1, 0, 0, 0, 0), (52, .getfield 112, 3, 14, 59, 2, 60075), (55, .iconst 0, 1, 0, 0, 0, 0), (56, .iconst (-1), 1, 0, 0, 0, (-1)), (57, .iastore, 1, 0, 0, 0, 0), (58, .nop, 0, 3, 0, 0, 0), (58, .aload_n 0, 1, 0, 0, 0, 0), (59, .getfield 94, 3, 14, 53, 2, 60069), (62, .iload_n 1, 1, 0, 0, 0, 0), (63, .iconst 0, 1, 0, 0, 0, 0), (64, .iastore, 1, 0, 0, 0, 0), (65, .iconst 1, 1, 0, 0, 0, 1), (66, .ireturn, 1, 1, 0, 0, 0)]
/-- 135: SpeakClock.set(II)Z -/
def cd_C_set : List mE := [(0, .aload_n 0, 1, 0, 0, 0, 0), (1, .iload_n 1, 1, 0, 0, 0, 0), (2, .invokevirtual 117, 3, 94, 2, 13, 40012), (5, .ifCond .eq 28, 3, 33, 0, 0, 0), (8, .iload_n 2, 1, 0, 0, 0, 0), (9, .bipush (-99), 2, 0, 0, 0, (-99)), (11, .if_icmp .lt 22, 3, 33, 0, 0, 0), (14, .iload_n 2, 1, 0, 0, 0, 0), (15, .bipush 99, 2, 0, 0, 0, 99), (17, .if_icmp .gt 16, 3, 33, 0, 0, 0), (20, .aload_n 0, 1, 0, 0, 0, 0), (21, .getfield 32, 3, 13, 2, 2, 30021), (24, .getfield 134, 3, 4, 0, 2, 20089), (27, .iload_n 1, 1, 0, 0, 0, 0), (28, .iaload, 1, 0, 0, 0, 0), (29, .iload_n 2, 1, 0, 0, 0, 0), (30, .if_icmp .ne 5, 3, 35, 0, 0, 0), (33, .nop, 0, 0, 0, 0, 0), (33, .iconst 0, 1, 0, 0, 0, 0), (34, .ireturn, 1, 1, 0, 0, 0), (35, .aload_n 0, 1, 0, 0, 0, 0), (36, .getfield 62, 3, 13, 8, 2, 30027), (39, .iconst 3, 1, 0, 0, 0, 3), (40, .iload_n 1, 1, 0, 0, 0, 0), (41, .aload_n 0, 1, 0, 0, 0, 0), (42, .getfield 32, 3, 13, 2, 2, 30021), (45, .getfield 134, 3, 4, 0, 2, 20089), (48, .iload_n 1, 1, 0, 0, 0, 0), (49, .iaload, 1, 0, 0, 0, 0), (50, .invokevirtual 200, 3, 125, 4, 8, 40062), (53, .aload_n 0, 1, 0, 0, 0, 0), (54, .getfield 32, 3, 13, 2, 2, 30021), (57, .getfield 134, 3, 4, 0, 2, 20089), (60, .iload_n 1, 1, 0, 0, 0, 0), (61, .iload_n 2, 1, 0, 0, 0, 0), (62, .iastore, 1, 0, 0, 0, 0), (63, .iconst 1, 1, 0, 0, 0, 1), (64, .ireturn, 1, 1, 0, 0, 0)]
/-- 136: SpeakClockModel.set(II)Z -/
def cd_M_set : List mE := [(0, .aload_n 0, 1, 0, 0, 0, 0), (1, .iconst 0, 1, 0, 0, 0, 0), (2, .putfield 157, 3, 14, 2, 0, 60018), (5, .aload_n 0, 1, 0, 0, 0, 0), (6, .iload_n 1, 1, 0, 0, 0, 0), (7, .invokevirtual 468, 3, 99, 2, 14, 70174), (10, .ifCond .eq 24, 3, 34, 0, 0, 0), (13, .iload_n 2, 1, 0, 0, 0, 0), (14, .bipush (-99), 2, 0, 0, 0, (-99)), (16, .bipush 99, 2, 0, 0, 0, 99), (18, .invokestatic 202, 3, 67, 3, 14, 70088), (21, .ifCond .eq 13, 3, 34, 0, 0, 0), (24, .aload_n 0, 1, 0, 0, 0, 0), (25, .getfield 100, 3, 14, 55, 2, 60071), (28, .iload_n 1, 1, 0, 0, 0, 0), (29, .iaload, 1, 0, 0, 0, 0), (30, .iload_n 2, 1, 0, 0, 0, 0), (31, .if_icmp .ne 5, 3, 36, 0, 0, 0), (34, .nop, 0, 0, 0, 0, 0), (34, .iconst 0, 1, 0, 0, 0, 0), (35, .ireturn, 1, 1, 0, 0, 0), (36, .aload_n 0, 1, 0, 0, 0, 0), (37, .invokevirtual 483, 3, 128, 1, 14, 80001), (40, .aload_n 0, 1, 0, 0, 0, 0), (41, .getfield 100, 3, 14, 55, 2, 60071), (44, .iload_n 1, 1, 0, 0, 0, 0), (45, .iload_n 2, 1, 0, 0, 0, 0), (46, .iastore, 1, 0, 0, 0, 0), (47, .iconst 1, 1, 0, 0, 0, 1), (48, .ireturn, 1, 1, 0, 0, 0)]
/-- 137: SpeakClock$Day.isOneThere(I)Z -/
def cd_Day_isOneThere : List mE := [(0, .aload_n 0, 1, 0, 0, 0, 0), (1, .getfield 27, 3, 4, 5, 2, 20103), (4, .iload_n 1, 1, 0, 0, 0, 0), (5, .iaload, 1, 0, 0, 0, 0), (6, .iconst (-1), 1, 0, 0, 0, (-1)), (7, .if_icmp .ne 13, 3, 20, 0, 0, 0), (10, .aload_n 0, 1, 0, 0, 0, 0), (11, .getfield 30, 3, 4, 6, 2, 20106), (14, .iload_n 1, 1, 0, 0, 0, 0), (15, .iaload, 1, 0, 0, 0, 0), (16, .iconst (-1), 1, 0, 0, 0, (-1)), (17, .if_icmp .eq 7, 3, 24, 0, 0, 0), (20, .nop, 0, 0, 0, 0, 0), (20, .iconst 1, 1, 0, 0, 0, 1), (21, .goto 4, 3, 25, 0, 0, 0), (24, .iconst 0, 1, 0, 0, 0, 0), (25, .nop, 0, 0, 0, 0, 0), (25, .ireturn, 1, 1, 0, 0, 0)]
/-- 138: SpeakClock.putOff(II)Z -/
def cd_C_putOff : List mE := [(0, .aload_n 0, 1, 0, 0, 0, 0), (1, .iload_n 1, 1, 0, 0, 0, 0), (2, .invokevirtual 157, 3, 104, 2, 13, 40004), (5, .ifCond .eq 14, 3, 19, 0, 0, 0), (8, .iload_n 2, 1, 0, 0, 0, 0), (9, .ifCond .lt 10, 3, 19, 0, 0, 0), (12, .iload_n 2, 1, 0, 0, 0, 0), (13, .sipush 999, 3, 0, 0, 0, 999), (16, .if_icmp .le 5, 3, 21, 0, 0, 0), (19, .nop, 0, 0, 0, 0, 0), (19, .iconst 0, 1, 0, 0, 0, 0), (20, .ireturn, 1, 1, 0, 0, 0), (21, .aload_n 0, 1, 0, 0, 0, 0), (22, .getfield 32, 3, 13, 2, 2, 30021), (25, .iload_n 1, 1, 0, 0, 0, 0), (26, .invokevirtual 213, 3, 137, 2, 4, 40083), (29, .ifCond .ne 16, 3, 45, 0, 0, 0), (32, .aload_n 0, 1, 0, 0, 0, 0), (33, .getfield 32, 3, 13, 2, 2, 30021), (36, .getfield 166, 3, 4, 4, 2, 20101), (39, .iload_n 1, 1, 0, 0, 0, 0), (40, .iaload, 1, 0, 0, 0, 0), (41, .iload_n 2, 1, 0, 0, 0, 0), (42, .if_icmp .ne 5, 3, 47, 0, 0, 0), (45, .nop, 0, 0, 0, 0, 0), (45, .iconst 0, 1, 0, 0, 0, 0), (46, .ireturn, 1, 1, 0, 0, 0), (47, .aload_n 0, 1, 0, 0, 0, 0), (48, .getfield 62, 3, 13, 8, 2, 30027), (51, .iconst 4, 1, 0, 0, 0, 4), (52, .iload_n 1, 1, 0, 0, 0, 0), (53, .aload_n 0, 1, 0, 0, 0, 0), (54, .getfield 32, 3, 13, 2, 2, 30021), (57, .getfield 166, 3, 4, 4, 2, 20101), (60, .iload_n 1, 1, 0, 0, 0, 0), (61, .iaload, 1, 0, 0, 0, 0), (62, .invokevirtual 200, 3, 125, 4, 8, 40062), (65, .aload_n 0, 1, 0, 0, 0, 0), (66, .getfield 32, 3, 13, 2, 2, 30021), (69, .getfield 166, 3, 4, 4, 2, 20101), (72, .iload_n 1, 1, 0, 0, 0, 0), (73, .iload_n 2, 1, 0, 0, 0, 0), (74, .iastore, 1, 0, 0, 0, 0), (75, .iconst 1, 1, 0, 0, 0, 1), (76, .ireturn, 1, 1, 0, 0, 0)]
/-- 139: SpeakClockModel.isOpen(I)Z -/
def cd_M_isOpen : List mE := [(0, .aload_n 0, 1, 0, 0, 0, 0), (1, .iload_n 1, 1, 0, 0, 0, 0), (2, .invokevirtual 477, 3, 106, 2, 14, 70190), (5, .ifCond .eq 31, 3, 36, 0, 0, 0), (8, .aload_n 0, 1, 0, 0, 0, 0), (9, .getfield 121, 3, 14, 62, 2, 60078), (12, .iconst 2, 1, 0, 0, 0, 2), (13, .iload_n 1, 1, 0, 0, 0, 0), (14, .imul, 1, 0, 0, 0, 0), (15, .iaload, 1, 0, 0, 0, 0), (16, .ifCond .ge 20, 3, 36, 0, 0, 0), (19, .aload_n 0, 1, 0, 0, 0, 0), (20, .getfield 121, 3, 14, 62, 2, 60078), (23, .iconst 2, 1, 0, 0, 0, 2), (24, .iload_n 1, 1, 0, 0, 0, 0), (25, .imul, 1, 0, 0, 0, 0), (26, .iconst 1, 1, 0, 0, 0, 1), (27, .iadd, 1, 0, 0, 0, 0), (28, .iaload, 1, 0, 0, 0, 0), (29, .ifCond .ge 7, 3, 36, 0, 0, 0), (32, .iconst 1, 1, 0, 0, 0, 1), (33, .goto 4, 3, 37, 0, 0, 0), (36, .nop, 0, 0, 0, 0, 0), (36, .iconst 0, 1, 0, 0, 0, 0), (37, .nop, 0, 0, 0, 0, 0), (37, .ireturn, 1, 1, 0, 0, 0)]
/-- 140: SpeakClockModel.putOff(II)Z -/
def cd_M_putOff : List mE := [(0, .aload_n 0, 1, 0, 0, 0, 0), (1, .iconst 0, 1, 0, 0, 0, 0), (2, .putfield 157, 3, 14, 2, 0, 60018), (5, .aload_n 0, 1, 0, 0, 0, 0), (6, .iload_n 1, 1, 0, 0, 0, 0), (7, .invokevirtual 486, 3, 139, 2, 14, 80029), (10, .ifCond .eq 24, 3, 34, 0, 0, 0), (13, .iload_n 2, 1, 0, 0, 0, 0), (14, .iconst 0, 1, 0, 0, 0, 0), (15, .sipush 999, 3, 0, 0, 0, 999), (18, .invokestatic 202, 3, 67, 3, 14, 70088), (21, .ifCond .eq 13, 3, 34, 0, 0, 0), (24, .aload_n 0, 1, 0, 0, 0, 0), (25, .getfield 118, 3, 14, 61, 2, 60077), (28, .iload_n 1, 1, 0, 0, 0, 0), (29, .iaload, 1, 0, 0, 0, 0), (30, .iload_n 2, 1, 0, 0, 0, 0), (31, .if_icmp .ne 5, 3, 36, 0, 0, 0), (34, .nop, 0, 0, 0, 0, 0), (34, .iconst 0, 1, 0, 0, 0, 0), (35, .ireturn, 1, 1, 0, 0, 0), (36, .aload_n 0, 1, 0, 0, 0, 0), (37, .invokevirtual 483, 3, 128, 1, 14, 80001), (40, .aload_n 0, 1, 0, 0, 0, 0), (41, .getfield 118, 3, 14, 61, 2, 60077), (44, .iload_n 1, 1, 0, 0, 0, 0), (45, .iload_n 2, 1, 0, 0, 0, 0), (46, .iastore, 1, 0, 0, 0, 0), (47, .iconst 1, 1, 0, 0, 0, 1), (48, .ireturn, 1, 1, 0, 0, 0)]
/-- 141: SpeakClock$Way.takeRings(LSpeakClock$Day;)V -/
def cd_Way_takeRings : List mE := [(0, .iconst 0, 1, 0, 0, 0, 0), (1, .istore_n 2, 1, 0, 0, 0, 0), (2, .nop, 0, 7, 0, 0, 0), (2, .iload_n 2, 1, 0, 0, 0, 0), (3, .aload_n 0, 1, 0, 0, 0, 0), (4, .getfield 25, 3, 12, 3, 2, 20176), (7, .getfield 116, 3, 9, 14, 0, 10232), (10, .if_icmp .ge 55, 3, 65, 0, 0, 0), (13, .aload_n 0, 1, 0, 0, 0, 0), (14, .getfield 25, 3, 12, 3, 2, 20176), (17, .getfield 119, 3, 9, 6, 2, 10203), (20, .iload_n 2, 1, 0, 0, 0, 0), (21, .iaload, 1, 0, 0, 0, 0), (22, .aload_n 1, 1, 0, 0, 0, 0), (23, .getfield 81, 3, 4, 10, 0, 20115), (26, .if_icmp .ne 33, 3, 59, 0, 0, 0), (29, .aload_n 0, 1, 0, 0, 0, 0), (30, .getfield 25, 3, 12, 3, 2, 20176), (33, .getfield 122, 3, 9, 5, 2, 10200), (36, .iload_n 2, 1, 0, 0, 0, 0), (37, .iaload, 1, 0, 0, 0, 0), (38, .aload_n 0, 1, 0, 0, 0, 0), (39, .getfield 36, 3, 12, 6, 0, 20180), (42, .if_icmp .eq 17, 3, 59, 0, 0, 0), (45, .aload_n 1, 1, 0, 0, 0, 0), (46, .aload_n 0, 1, 0, 0, 0, 0), (47, .getfield 25, 3, 12, 3, 2, 20176), (50, .getfield 122, 3, 9, 5, 2, 10200), (53, .iload_n 2, 1, 0, 0, 0, 0), (54, .iaload, 1, 0, 0, 0, 0), (55, .invokevirtual 125, 3, 124, 2, 4, 40099), (58, .pop, 1, 0, 0, 0, 0), (59, .nop, 0, 7, 0, 0, 0), (59, .iinc 2 1, 3, 0, 0, 0, 0), (62, .goto (-60), 3, 2, 0, 0, 0), (65, .return_, 1, 0, 0, 0, 0)]
/-- 142: SpeakClock$Day.drawNumber()I -/
def cd_Day_drawNumber : List mE := [(0, .aload_n 0, 1, 0, 0, 0, 0), (1, .aload_n 0, 1, 0, 0, 0, 0), (2, .getfield 55, 3, 4, 14, 0, 20127), (5, .ldc 96, 2, 40108, 0, 0, 1103515245), (7, .imul, 1, 0, 0, 0, 0), (8, .sipush 12345, 3, 0, 0, 0, 12345), (11, .iadd, 1, 0, 0, 0, 0), (12, .ldc 99, 2, 40109, 0, 0, 2147483647), (14, .iand, 1, 0, 0, 0, 0), (15, .putfield 55, 3, 4, 14, 0, 20127), (18, .aload_n 0, 1, 0, 0, 0, 0), (19, .getfield 55, 3, 4, 14, 0, 20127), (22, .ldc 100, 2, 40110, 0, 0, 65536), (24, .idiv, 1, 0, 0, 0, 0), (25, .ireturn, 1, 0, 0, 0, 0)]
/-- 143: SpeakClock$Way.isStrangerRinging(LSpeakClock$Day;)Z -/
def cd_Way_isStrangerRinging : List mE := [(0, .aload_n 0, 1, 0, 0, 0, 0), (1, .getfield 43, 3, 12, 8, 3, 20182), (4, .ifCond .ne 18, 3, 22, 0, 0, 0), (7, .aload_n 0, 1, 0, 0, 0, 0), (8, .getfield 29, 3, 12, 4, 0, 20178), (11, .bipush 50, 2, 0, 0, 0, 50), (13, .if_icmp .lt 7, 3, 20, 0, 0, 0), (16, .iconst 1, 1, 0, 0, 0, 1), (17, .goto 4, 3, 21, 0, 0, 0), (20, .iconst 0, 1, 0, 0, 0, 0), (21, .nop, 0, 0, 0, 0, 0), (21, .ireturn, 1, 1, 0, 0, 0), (22, .aload_n 0, 1, 0, 0, 0, 0), (23, .getfield 29, 3, 12, 4, 0, 20178), (26, .ifCond .eq 12, 3, 38, 0, 0, 0), (29, .aload_n 0, 1, 0, 0, 0, 0), (30, .getfield 29, 3, 12, 4, 0, 20178), (33, .bipush 100, 2, 0, 0, 0, 100), (35, .if_icmp .ne 18, 3, 53, 0, 0, 0), (38, .nop, 0, 1, 0, 0, 0), (38, .aload_n 0, 1, 0, 0, 0, 0), (39, .getfield 29, 3, 12, 4, 0, 20178), (42, .bipush 100, 2, 0, 0, 0, 100), (44, .if_icmp .ne 7, 3, 51, 0, 0, 0), (47, .iconst 1, 1, 0, 0, 0, 1), (48, .goto 4, 3, 52, 0, 0, 0), (51, .iconst 0, 1, 0, 0, 0, 0), (52, .nop, 0, 0, 0, 0, 0), (52, .ireturn, 1, 1, 0, 0, 0), (53, .aload_n 1, 1, 0, 0, 0, 0), (54, .invokevirtual 129, 3, 142, 1, 4, 40104), (57, .bipush 100, 2, 0, 0, 0, 100), (59, .irem, 1, 0, 0, 0, 0), (60, .aload_n 0, 1, 0, 0, 0, 0), (61, .getfield 29, 3, 12, 4, 0, 20178), (64, .if_icmp .ge 7, 3, 71, 0, 0, 0), (67, .iconst 1, 1, 0, 0, 0, 1), (68, .goto 4, 3, 72, 0, 0, 0), (71, .iconst 0, 1, 0, 0, 0, 0), (72, .nop, 0, 0, 0, 0, 0), (72, .ireturn, 1, 1, 0, 0, 0)]
/-- 144: SpeakClock$Day.takesStranger()V -/
def cd_Day_takesStranger : List mE := [(0, .aload_n 0, 1, 0, 0, 0, 0), (1, .dup, 1, 0, 0, 0, 0), (2, .getfield 58, 3, 4, 15, 0, 20129), (5, .iconst 1, 1, 0, 0, 0, 1), (6, .iadd, 1, 0, 0, 0, 0), (7, .putfield 58, 3, 4, 15, 0, 20129), (10, .aload_n 0, 1, 0, 0, 0, 0), (11, .getfield 46, 3, 4, 11, 0, 20118), (14, .bipush 20, 2, 0, 0, 0, 20), (16, .if_icmp .ge 24, 3, 40, 0, 0, 0), (19, .aload_n 0, 1, 0, 0, 0, 0), (20, .getfield 21, 3, 4, 3, 2, 20097), (23, .aload_n 0, 1, 0, 0, 0, 0), (24, .getfield 46, 3, 4, 11, 0, 20118), (27, .bipush (-2), 2, 0, 0, 0, (-2)), (29, .iastore, 1, 0, 0, 0, 0), (30, .aload_n 0, 1, 0, 0, 0, 0), (31, .dup, 1, 0, 0, 0, 0), (32, .getfield 46, 3, 4, 11, 0, 20118), (35, .iconst 1, 1, 0, 0, 0, 1), (36, .iadd, 1, 0, 0, 0, 0), (37, .putfield 46, 3, 4, 11, 0, 20118), (40, .nop, 0, 0, 0, 0, 0), (40, .return_, 1, 0, 0, 0, 0)]
/-- 145: SpeakClock.within(JJJ)J -/
def cd_C_within : List mE := [(0, .lload_n 2, 1, 0, 0, 0, 0), (1, .lload 4, 2, 0, 0, 0, 0), (3, .lload_n 0, 1, 0, 0, 0, 0), (4, .invokestatic 346, 3, 1004, 2, 0, 40127), (7, .invokestatic 350, 3, 1003, 2, 0, 40130), (10, .lreturn, 1, 0, 0, 0, 0)]
/-- 146: SpeakClock$Way.isCold(I)Z -/
def cd_Way_isCold : List mE := [(0, .iconst 0, 1, 0, 0, 0, 0), (1, .istore_n 2, 1, 0, 0, 0, 0), (2, .nop, 0, 7, 0, 0, 0), (2, .iload_n 2, 1, 0, 0, 0, 0), (3, .aload_n 0, 1, 0, 0, 0, 0), (4, .getfield 33, 3, 12, 5, 0, 20179), (7, .if_icmp .ge 37, 3, 44, 0, 0, 0), (10, .iload_n 1, 1, 0, 0, 0, 0), (11, .aload_n 0, 1, 0, 0, 0, 0), (12, .getfield 25, 3, 12, 3, 2, 20176), (15, .getfield 166, 3, 9, 10, 2, 10217), (18, .iload_n 2, 1, 0, 0, 0, 0), (19, .iaload, 1, 0, 0, 0, 0), (20, .if_icmp .lt 18, 3, 38, 0, 0, 0), (23, .iload_n 1, 1, 0, 0, 0, 0), (24, .aload_n 0, 1, 0, 0, 0, 0), (25, .getfield 25, 3, 12, 3, 2, 20176), (28, .getfield 169, 3, 9, 11, 2, 10220), (31, .iload_n 2, 1, 0, 0, 0, 0), (32, .iaload, 1, 0, 0, 0, 0), (33, .if_icmp .gt 5, 3, 38, 0, 0, 0), (36, .iconst 1, 1, 0, 0, 0, 1), (37, .ireturn, 1, 1, 0, 0, 0), (38, .nop, 0, 7, 0, 0, 0), (38, .iinc 2 1, 3, 0, 0, 0, 0), (41, .goto (-39), 3, 2, 0, 0, 0), (44, .iconst 0, 1, 0, 0, 0, 0), (45, .ireturn, 1, 1, 0, 0, 0)]
/-- 147: SpeakClock$Way.startTalk(LSpeakClock$Day;)V -/
def cd_Way_startTalk : List mE := [(0, .aload_n 1, 1, 0, 0, 0, 0), (1, .getfield 133, 3, 4, 3, 2, 20098), (4, .iconst 0, 1, 0, 0, 0, 0), (5, .iaload, 1, 0, 0, 0, 0), (6, .istore_n 2, 1, 0, 0, 0, 0), (7, .aload_n 1, 1, 0, 0, 0, 0), (8, .iconst 0, 1, 0, 0, 0, 0), (9, .invokevirtual 136, 3, 131, 2, 4, 40119), (12, .ldc2_w 140, 3, 40120, 0, 0, 2), (15, .lstore_n 3, 1, 0, 0, 0, 0), (16, .iload_n 2, 1, 0, 0, 0, 0), (17, .bipush (-2), 2, 0, 0, 0, (-2)), (19, .if_icmp .eq 48, 3, 67, 0, 0, 0), (22, .aload_n 0, 1, 0, 0, 0, 0), (23, .aload_n 1, 1, 0, 0, 0, 0), (24, .iconst 0, 1, 0, 0, 0, 0), (25, .iload_n 2, 1, 0, 0, 0, 0), (26, .aload_n 1, 1, 0, 0, 0, 0), (27, .getfield 72, 3, 4, 11, 0, 20119), (30, .invokevirtual 142, 3, 113, 5, 12, 40121), (33, .lstore 5, 2, 0, 0, 0, 0), (35, .lload 5, 2, 0, 0, 0, 0), (37, .ldc2_w 146, 3, 40122, 0, 0, (-9223372036854775808)), (40, .lcmp, 1, 0, 0, 0, 0), (41, .ifCond .ne 16, 3, 57, 0, 0, 0), (44, .aload_n 0, 1, 0, 0, 0, 0), (45, .getfield 25, 3, 12, 3, 2, 20176), (48, .getfield 97, 3, 9, 1, 2, 10185), (51, .iload_n 2, 1, 0, 0, 0, 0), (52, .iaload, 1, 0, 0, 0, 0), (53, .i2l, 1, 0, 0, 0, 0), (54, .goto 12, 3, 66, 0, 0, 0), (57, .lload 5, 2, 0, 0, 0, 0), (59, .lconst 1, 1, 0, 0, 0, 1), (60, .ldc2_w 148, 3, 40123, 0, 0, 20), (63, .invokestatic 150, 3, 145, 3, 1013, 40124), (66, .nop, 0, 7, 0, 0, 0), (66, .lstore_n 3, 1, 0, 0, 0, 0), (67, .nop, 0, 15, 0, 0, 0), (67, .aload_n 0, 1, 0, 0, 0, 0), (68, .aload_n 1, 1, 0, 0, 0, 0), (69, .getfield 81, 3, 4, 10, 0, 20115), (72, .invokevirtual 154, 3, 146, 2, 12, 40133), (75, .ifCond .eq 15, 3, 90, 0, 0, 0), (78, .ldc2_w 148, 3, 40123, 0, 0, 20), (81, .ldc2_w 140, 3, 40120, 0, 0, 2), (84, .lload_n 3, 1, 0, 0, 0, 0), (85, .lmul, 1, 0, 0, 0, 0), (86, .invokestatic 157, 3, 1004, 2, 0, 40137), (89, .lstore_n 3, 1, 0, 0, 0, 0), (90, .nop, 0, 14, 0, 0, 0), (90, .aload_n 1, 1, 0, 0, 0, 0), (91, .iload_n 2, 1, 0, 0, 0, 0), (92, .putfield 69, 3, 4, 12, 0, 20122), (95, .aload_n 1, 1, 0, 0, 0, 0), (96, .lload_n 3, 1, 0, 0, 0, 0), (97, .l2i, 1, 0, 0, 0, 0), (98, .putfield 163, 3, 4, 13, 0, 20125), (101, .return_, 1, 0, 0, 0, 0)]
/-- 148: SpeakClock$Way.goOnTalking(LSpeakClock$Day;)V -/
def cd_Way_goOnTalking : List mE := [(0, .aload_n 1, 1, 0, 0, 0, 0), (1, .dup, 1, 0, 0, 0, 0), (2, .getfield 163, 3, 4, 13, 0, 20125), (5, .iconst 1, 1, 0, 0, 0, 1), (6, .isub, 1, 0, 0, 0, 0), (7, .putfield 163, 3, 4, 13, 0, 20125), (10, .aload_n 1, 1, 0, 0, 0, 0), (11, .getfield 163, 3, 4, 13, 0, 20125), (14, .ifCond .le 4, 3, 18, 0, 0, 0), (17, .return_, 1, 0, 0, 0, 0), (18, .aload_n 1, 1, 0, 0, 0, 0), (19, .getfield 69, 3, 4, 12, 0, 20122), (22, .istore_n 2, 1, 0, 0, 0, 0), (23, .aload_n 1, 1, 0, 0, 0, 0), (24, .iconst (-1), 1, 0, 0, 0, (-1)), (25, .putfield 69, 3, 4, 12, 0, 20122), (28, .iload_n 2, 1, 0, 0, 0, 0), (29, .bipush (-2), 2, 0, 0, 0, (-2)), (31, .if_icmp .eq 63, 3, 94, 0, 0, 0), (34, .aload_n 1, 1, 0, 0, 0, 0), (35, .getfield 172, 3, 4, 1, 2, 20093), (38, .iload_n 2, 1, 0, 0, 0, 0), (39, .iaload, 1, 0, 0, 0, 0), (40, .istore_n 3, 1, 0, 0, 0, 0), (41, .aload_n 0, 1, 0, 0, 0, 0), (42, .aload_n 1, 1, 0, 0, 0, 0), (43, .iconst 1, 1, 0, 0, 0, 1), (44, .iload_n 2, 1, 0, 0, 0, 0), (45, .iload_n 3, 1, 0, 0, 0, 0), (46, .invokevirtual 142, 3, 113, 5, 12, 40121), (49, .lstore 4, 2, 0, 0, 0, 0), (51, .aload_n 1, 1, 0, 0, 0, 0), (52, .getfield 100, 3, 4, 0, 2, 20088), (55, .iload_n 2, 1, 0, 0, 0, 0), (56, .lload 4, 2, 0, 0, 0, 0), (58, .ldc2_w 146, 3, 40122, 0, 0, (-9223372036854775808)), (61, .lcmp, 1, 0, 0, 0, 0), (62, .ifCond .ne 9, 3, 71, 0, 0, 0), (65, .iload_n 3, 1, 0, 0, 0, 0), (66, .ineg, 1, 0, 0, 0, 0), (67, .i2l, 1, 0, 0, 0, 0), (68, .goto 5, 3, 73, 0, 0, 0), (71, .lload 4, 2, 0, 0, 0, 0), (73, .nop, 0, 6, 0, 0, 0), (73, .ldc2_w 175, 3, 40142, 0, 0, (-30)), (76, .ldc2_w 177, 3, 40143, 0, 0, 30), (79, .invokestatic 150, 3, 145, 3, 1013, 40124), (82, .l2i, 1, 0, 0, 0, 0), (83, .iastore, 1, 0, 0, 0, 0), (84, .aload_n 1, 1, 0, 0, 0, 0), (85, .getfield 103, 3, 4, 2, 2, 20095), (88, .iload_n 2, 1, 0, 0, 0, 0), (89, .dup2, 1, 0, 0, 0, 0), (90, .iaload, 1, 0, 0, 0, 0), (91, .iconst 1, 1, 0, 0, 0, 1), (92, .iadd, 1, 0, 0, 0, 0), (93, .iastore, 1, 0, 0, 0, 0), (94, .nop, 0, 0, 0, 0, 0), (94, .return_, 1, 0, 0, 0, 0)]
/-- 149: SpeakClock$Way.driftAll(LSpeakClock$Day;)V -/
def cd_Way_driftAll : List mE := [(0, .iconst 0, 1, 0, 0, 0, 0), (1, .istore_n 2, 1, 0, 0, 0, 0), (2, .nop, 0, 7, 0, 0, 0), (2, .iload_n 2, 1, 0, 0, 0, 0), (3, .aload_n 0, 1, 0, 0, 0, 0), (4, .getfield 25, 3, 12, 3, 2, 20176), (7, .getfield 179, 3, 9, 13, 0, 10229), (10, .if_icmp .ge 77, 3, 87, 0, 0, 0), (13, .aload_n 0, 1, 0, 0, 0, 0), (14, .aload_n 1, 1, 0, 0, 0, 0), (15, .iconst 2, 1, 0, 0, 0, 2), (16, .iload_n 2, 1, 0, 0, 0, 0), (17, .aload_n 1, 1, 0, 0, 0, 0), (18, .getfield 72, 3, 4, 11, 0, 20119), (21, .invokevirtual 142, 3, 113, 5, 12, 40121), (24, .lstore_n 3, 1, 0, 0, 0, 0), (25, .lload_n 3, 1, 0, 0, 0, 0), (26, .ldc2_w 146, 3, 40122, 0, 0, (-9223372036854775808)), (29, .lcmp, 1, 0, 0, 0, 0), (30, .ifCond .ne 13, 3, 43, 0, 0, 0), (33, .aload_n 0, 1, 0, 0, 0, 0), (34, .getfield 15, 3, 12, 1, 2, 20173), (37, .iload_n 2, 1, 0, 0, 0, 0), (38, .iaload, 1, 0, 0, 0, 0), (39, .i2l, 1, 0, 0, 0, 0), (40, .goto 13, 3, 53, 0, 0, 0), (43, .lload_n 3, 1, 0, 0, 0, 0), (44, .ldc2_w 182, 3, 40148, 0, 0, (-9)), (47, .ldc2_w 184, 3, 40149, 0, 0, 9), (50, .invokestatic 150, 3, 145, 3, 1013, 40124), (53, .nop, 0, 7, 0, 0, 0), (53, .lstore 5, 2, 0, 0, 0, 0), (55, .aload_n 1, 1, 0, 0, 0, 0), (56, .getfield 100, 3, 4, 0, 2, 20088), (59, .iload_n 2, 1, 0, 0, 0, 0), (60, .aload_n 1, 1, 0, 0, 0, 0), (61, .getfield 100, 3, 4, 0, 2, 20088), (64, .iload_n 2, 1, 0, 0, 0, 0), (65, .iaload, 1, 0, 0, 0, 0), (66, .i2l, 1, 0, 0, 0, 0), (67, .lload 5, 2, 0, 0, 0, 0), (69, .ladd, 1, 0, 0, 0, 0), (70, .ldc2_w 186, 3, 40150, 0, 0, (-99)), (73, .ldc2_w 188, 3, 40151, 0, 0, 99), (76, .invokestatic 150, 3, 145, 3, 1013, 40124), (79, .l2i, 1, 0, 0, 0, 0), (80, .iastore, 1, 0, 0, 0, 0), (81, .iinc 2 1, 3, 0, 0, 0, 0), (84, .goto (-82), 3, 2, 0, 0, 0), (87, .return_, 1, 0, 0, 0, 0)]
/-- 150: SpeakClock$Way.meet(LSpeakClock$Day;I)V -/
def cd_Way_meet : List mE := [(0, .aload_n 0, 1, 0, 0, 0, 0), (1, .getfield 25, 3, 12, 3, 2, 20176), (4, .getfield 190, 3, 9, 7, 2, 10208), (7, .iload_n 2, 1, 0, 0, 0, 0), (8, .iaload, 1, 0, 0, 0, 0), (9, .istore_n 3, 1, 0, 0, 0, 0), (10, .aload_n 0, 1, 0, 0, 0, 0), (11, .getfield 25, 3, 12, 3, 2, 20176), (14, .getfield 193, 3, 9, 8, 2, 10212), (17, .iload_n 2, 1, 0, 0, 0, 0), (18, .iaload, 1, 0, 0, 0, 0), (19, .istore 4, 2, 0, 0, 0, 0), (21, .aload_n 1, 1, 0, 0, 0, 0), (22, .getfield 196, 3, 4, 5, 2, 20105), (25, .iload_n 2, 1, 0, 0, 0, 0), (26, .iaload, 1, 0, 0, 0, 0), (27, .iconst (-1), 1, 0, 0, 0, (-1)), (28, .if_icmp .ne 33, 3, 61, 0, 0, 0), (31, .aload_n 1, 1, 0, 0, 0, 0), (32, .getfield 81, 3, 4, 10, 0, 20115), (35, .aload_n 1, 1, 0, 0, 0, 0), (36, .getfield 100, 3, 4, 0, 2, 20088), (39, .iload_n 3, 1, 0, 0, 0, 0), (40, .iaload, 1, 0, 0, 0, 0), (41, .iadd, 1, 0, 0, 0, 0), (42, .aload_n 1, 1, 0, 0, 0, 0), (43, .getfield 199, 3, 4, 4, 2, 20102), (46, .iload_n 2, 1, 0, 0, 0, 0), (47, .iaload, 1, 0, 0, 0, 0), (48, .if_icmp .lt 13, 3, 61, 0, 0, 0), (51, .aload_n 1, 1, 0, 0, 0, 0), (52, .getfield 196, 3, 4, 5, 2, 20105), (55, .iload_n 2, 1, 0, 0, 0, 0), (56, .aload_n 1, 1, 0, 0, 0, 0), (57, .getfield 81, 3, 4, 10, 0, 20115), (60, .iastore, 1, 0, 0, 0, 0), (61, .nop, 0, 31, 0, 0, 0), (61, .aload_n 1, 1, 0, 0, 0, 0), (62, .getfield 202, 3, 4, 6, 2, 20108), (65, .iload_n 2, 1, 0, 0, 0, 0), (66, .iaload, 1, 0, 0, 0, 0), (67, .iconst (-1), 1, 0, 0, 0, (-1)), (68, .if_icmp .ne 34, 3, 102, 0, 0, 0), (71, .aload_n 1, 1, 0, 0, 0, 0), (72, .getfield 81, 3, 4, 10, 0, 20115), (75, .aload_n 1, 1, 0, 0, 0, 0), (76, .getfield 100, 3, 4, 0, 2, 20088), (79, .iload 4, 2, 0, 0, 0, 0), (81, .iaload, 1, 0, 0, 0, 0), (82, .iadd, 1, 0, 0, 0, 0), (83, .aload_n 1, 1, 0, 0, 0, 0), (84, .getfield 199, 3, 4, 4, 2, 20102), (87, .iload_n 2, 1, 0, 0, 0, 0), (88, .iaload, 1, 0, 0, 0, 0), (89, .if_icmp .lt 13, 3, 102, 0, 0, 0), (92, .aload_n 1, 1, 0, 0, 0, 0), (93, .getfield 202, 3, 4, 6, 2, 20108), (96, .iload_n 2, 1, 0, 0, 0, 0), (97, .aload_n 1, 1, 0, 0, 0, 0), (98, .getfield 81, 3, 4, 10, 0, 20115), (101, .iastore, 1, 0, 0, 0, 0), (102, .nop, 0, 31, 0, 0, 0), (102, .aload_n 1, 1, 0, 0, 0, 0), (103, .getfield 196, 3, 4, 5, 2, 20105), (106, .iload_n 2, 1, 0, 0, 0, 0), (107, .iaload, 1, 0, 0, 0, 0), (108, .iconst (-1), 1, 0, 0, 0, (-1)), (109, .if_icmp .eq 63, 3, 172, 0, 0, 0), (112, .aload_n 1, 1, 0, 0, 0, 0), (113, .getfield 202, 3, 4, 6, 2, 20108), (116, .iload_n 2, 1, 0, 0, 0, 0), (117, .iaload, 1, 0, 0, 0, 0), (118, .iconst (-1), 1, 0, 0, 0, (-1)), (119, .if_icmp .eq 53, 3, 172, 0, 0, 0), (122, .aload_n 1, 1, 0, 0, 0, 0), (123, .getfield 196, 3, 4, 5, 2, 20105), (126, .iload_n 2, 1, 0, 0, 0, 0), (127, .iaload, 1, 0, 0, 0, 0), (128, .aload_n 1, 1, 0, 0, 0, 0), (129, .getfield 202, 3, 4, 6, 2, 20108), (132, .iload_n 2, 1, 0, 0, 0, 0), (133, .iaload, 1, 0, 0, 0, 0), (134, .isub, 1, 0, 0, 0, 0), (135, .invokestatic 205, 3, 1002, 1, 0, 40156), (138, .istore 5, 2, 0, 0, 0, 0), (140, .aload_n 1, 1, 0, 0, 0, 0), (141, .getfield 90, 3, 4, 7, 2, 20110), (144, .iload_n 2, 1, 0, 0, 0, 0), (145, .iload 5, 2, 0, 0, 0, 0), (147, .aload_n 0, 1, 0, 0, 0, 0), (148, .getfield 9, 3, 12, 0, 2, 20172), (151, .iload_n 3, 1, 0, 0, 0, 0), (152, .iaload, 1, 0, 0, 0, 0), (153, .aload_n 0, 1, 0, 0, 0, 0), (154, .getfield 9, 3, 12, 0, 2, 20172), (157, .iload 4, 2, 0, 0, 0, 0), (159, .iaload, 1, 0, 0, 0, 0), (160, .invokestatic 209, 3, 1001, 2, 0, 40159), (163, .if_icmp .gt 7, 3, 170, 0, 0, 0), (166, .iconst 1, 1, 0, 0, 0, 1), (167, .goto 4, 3, 171, 0, 0, 0), (170, .iconst 2, 1, 0, 0, 0, 2), (171, .nop, 0, 0, 0, 0, 0), (171, .iastore, 1, 0, 0, 0, 0), (172, .nop, 0, 0, 0, 0, 0), (172, .return_, 1, 0, 0, 0, 0)]
/-- 151: SpeakClock$Way.passMinute(LSpeakClock$Day;)V -/
def cd_Way_passMinute : List mE := [(0, .aload_n 0, 1, 0, 0, 0, 0), (1, .aload_n 1, 1, 0, 0, 0, 0), (2, .invokevirtual 56, 3, 141, 2, 12, 40095), (5, .aload_n 0, 1, 0, 0, 0, 0), (6, .aload_n 1, 1, 0, 0, 0, 0), (7, .invokevirtual 60, 3, 143, 2, 12, 40100), (10, .ifCond .eq 7, 3, 17, 0, 0, 0), (13, .aload_n 1, 1, 0, 0, 0, 0), (14, .invokevirtual 64, 3, 144, 1, 4, 40111), (17, .nop, 0, 3, 0, 0, 0), (17, .aload_n 1, 1, 0, 0, 0, 0), (18, .getfield 69, 3, 4, 12, 0, 20122), (21, .iconst (-1), 1, 0, 0, 0, (-1)), (22, .if_icmp .ne 15, 3, 37, 0, 0, 0), (25, .aload_n 1, 1, 0, 0, 0, 0), (26, .getfield 72, 3, 4, 11, 0, 20119), (29, .ifCond .le 8, 3, 37, 0, 0, 0), (32, .aload_n 0, 1, 0, 0, 0, 0), (33, .aload_n 1, 1, 0, 0, 0, 0), (34, .invokevirtual 75, 3, 147, 2, 12, 40115), (37, .nop, 0, 3, 0, 0, 0), (37, .aload_n 1, 1, 0, 0, 0, 0), (38, .getfield 69, 3, 4, 12, 0, 20122), (41, .iconst (-1), 1, 0, 0, 0, (-1)), (42, .if_icmp .eq 8, 3, 50, 0, 0, 0), (45, .aload_n 0, 1, 0, 0, 0, 0), (46, .aload_n 1, 1, 0, 0, 0, 0), (47, .invokevirtual 78, 3, 148, 2, 12, 40138), (50, .nop, 0, 3, 0, 0, 0), (50, .aload_n 0, 1, 0, 0, 0, 0), (51, .getfield 39, 3, 12, 7, 3, 20181), (54, .ifCond .eq 20, 3, 74, 0, 0, 0), (57, .aload_n 1, 1, 0, 0, 0, 0), (58, .getfield 81, 3, 4, 10, 0, 20115), (61, .iconst 1, 1, 0, 0, 0, 1), (62, .iadd, 1, 0, 0, 0, 0), (63, .bipush 10, 2, 0, 0, 0, 10), (65, .irem, 1, 0, 0, 0, 0), (66, .ifCond .ne 8, 3, 74, 0, 0, 0), (69, .aload_n 0, 1, 0, 0, 0, 0), (70, .aload_n 1, 1, 0, 0, 0, 0), (71, .invokevirtual 84, 3, 149, 2, 12, 40144), (74, .nop, 0, 3, 0, 0, 0), (74, .iconst 0, 1, 0, 0, 0, 0), (75, .istore_n 2, 1, 0, 0, 0, 0), (76, .nop, 0, 7, 0, 0, 0), (76, .iload_n 2, 1, 0, 0, 0, 0), (77, .aload_n 0, 1, 0, 0, 0, 0), (78, .getfield 25, 3, 12, 3, 2, 20176), (81, .getfield 87, 3, 9, 15, 0, 10237), (84, .if_icmp .ge 24, 3, 108, 0, 0, 0), (87, .aload_n 1, 1, 0, 0, 0, 0), (88, .getfield 90, 3, 4, 7, 2, 20110), (91, .iload_n 2, 1, 0, 0, 0, 0), (92, .iaload, 1, 0, 0, 0, 0), (93, .ifCond .ne 9, 3, 102, 0, 0, 0), (96, .aload_n 0, 1, 0, 0, 0, 0), (97, .aload_n 1, 1, 0, 0, 0, 0), (98, .iload_n 2, 1, 0, 0, 0, 0), (99, .invokevirtual 93, 3, 150, 3, 12, 40152), (102, .nop, 0, 7, 0, 0, 0), (102, .iinc 2 1, 3, 0, 0, 0, 0), (105, .goto (-29), 3, 76, 0, 0, 0), (108, .aload_n 1, 1, 0, 0, 0, 0), (109, .dup, 1, 0, 0, 0, 0), (110, .getfield 81, 3, 4, 10, 0, 20115), (113, .iconst 1, 1, 0, 0, 0, 1), (114, .iadd, 1, 0, 0, 0, 0), (115, .putfield 81, 3, 4, 10, 0, 20115), (118, .return_, 1, 0, 0, 0, 0)]
/-- 152: SpeakClock.go(I)I -/
def cd_C_go : List mE := [(0, .iload_n 1, 1, 0, 0, 0, 0), (1, .ifCond .lt 25, 3, 26, 0, 0, 0), (4, .iload_n 1, 1, 0, 0, 0, 0), (5, .sipush 200, 3, 0, 0, 0, 200), (8, .if_icmp .gt 18, 3, 26, 0, 0, 0), (11, .aload_n 0, 1, 0, 0, 0, 0), (12, .getfield 32, 3, 13, 2, 2, 30021), (15, .getfield 178, 3, 4, 10, 0, 20116), (18, .iload_n 1, 1, 0, 0, 0, 0), (19, .iadd, 1, 0, 0, 0, 0), (20, .sipush 9000, 3, 0, 0, 0, 9000), (23, .if_icmp .le 5, 3, 28, 0, 0, 0), (26, .nop, 0, 0, 0, 0, 0), (26, .iconst (-1), 1, 0, 0, 0, (-1)), (27, .ireturn, 1, 0, 0, 0, 0), (28, .aload_n 0, 1, 0, 0, 0, 0), (29, .getfield 48, 3, 13, 6, 2, 30025), (32, .iconst 1, 1, 0, 0, 0, 1), (33, .invokevirtual 186, 3, 110, 2, 12, 40022), (36, .iconst 0, 1, 0, 0, 0, 0), (37, .istore_n 2, 1, 0, 0, 0, 0), (38, .nop, 0, 7, 0, 0, 0), (38, .iload_n 2, 1, 0, 0, 0, 0), (39, .iload_n 1, 1, 0, 0, 0, 0), (40, .if_icmp .ge 20, 3, 60, 0, 0, 0), (43, .aload_n 0, 1, 0, 0, 0, 0), (44, .getfield 48, 3, 13, 6, 2, 30025), (47, .aload_n 0, 1, 0, 0, 0, 0), (48, .getfield 32, 3, 13, 2, 2, 30021), (51, .invokevirtual 216, 3, 151, 2, 12, 40091), (54, .iinc 2 1, 3, 0, 0, 0, 0), (57, .goto (-19), 3, 38, 0, 0, 0), (60, .iload_n 1, 1, 0, 0, 0, 0), (61, .ifCond .le 11, 3, 72, 0, 0, 0), (64, .aload_n 0, 1, 0, 0, 0, 0), (65, .getfield 62, 3, 13, 8, 2, 30027), (68, .iconst 0, 1, 0, 0, 0, 0), (69, .putfield 105, 3, 8, 3, 0, 30009), (72, .nop, 0, 1, 0, 0, 0), (72, .aload_n 0, 1, 0, 0, 0, 0), (73, .getfield 32, 3, 13, 2, 2, 30021), (76, .getfield 178, 3, 4, 10, 0, 20116), (79, .ireturn, 1, 0, 0, 0, 0)]
/-- 153: SpeakClockModel.number1(I)I -/
def cd_M_number1 : List mE := [(0, .aload_n 0, 1, 0, 0, 0, 0), (1, .aload_n 0, 1, 0, 0, 0, 0), (2, .getfield 362, 3, 14, 66, 1, 60082), (5, .ldc2_w 415, 3, 80049, 0, 0, 1103515245), (8, .lmul, 1, 0, 0, 0, 0), (9, .ldc2_w 417, 3, 80050, 0, 0, 12345), (12, .ladd, 1, 0, 0, 0, 0), (13, .ldc2_w 419, 3, 80051, 0, 0, 2147483647), (16, .land, 1, 0, 0, 0, 0), (17, .putfield 362, 3, 14, 66, 1, 60082), (20, .aload_n 0, 1, 0, 0, 0, 0), (21, .getfield 362, 3, 14, 66, 1, 60082), (24, .ldc2_w 421, 3, 80052, 0, 0, 65536), (27, .ldiv, 1, 0, 0, 0, 0), (28, .iload_n 1, 1, 0, 0, 0, 0), (29, .i2l, 1, 0, 0, 0, 0), (30, .lrem, 1, 0, 0, 0, 0), (31, .l2i, 1, 0, 0, 0, 0), (32, .ireturn, 1, 0, 0, 0, 0)]
/-- 154: SpeakClockModel.isStranger()Z -/
def cd_M_isStranger : List mE := [(0, .aload_n 0, 1, 0, 0, 0, 0), (1, .getfield 381, 3, 14, 68, 3, 60084), (4, .ifCond .ne 12, 3, 16, 0, 0, 0), (7, .aload_n 0, 1, 0, 0, 0, 0), (8, .getfield 24, 3, 14, 23, 2, 60039), (11, .iconst 0, 1, 0, 0, 0, 0), (12, .iaload, 1, 0, 0, 0, 0), (13, .ifCond .ne 5, 3, 18, 0, 0, 0), (16, .nop, 0, 0, 0, 0, 0), (16, .iconst 0, 1, 0, 0, 0, 0), (17, .ireturn, 1, 1, 0, 0, 0), (18, .aload_n 0, 1, 0, 0, 0, 0), (19, .getfield 24, 3, 14, 23, 2, 60039), (22, .iconst 0, 1, 0, 0, 0, 0), (23, .iaload, 1, 0, 0, 0, 0), (24, .bipush 100, 2, 0, 0, 0, 100), (26, .if_icmp .ne 5, 3, 31, 0, 0, 0), (29, .iconst 1, 1, 0, 0, 0, 1), (30, .ireturn, 1, 1, 0, 0, 0), (31, .aload_n 0, 1, 0, 0, 0, 0), (32, .getfield 378, 3, 14, 67, 3, 60083), (35, .ifCond .eq 26, 3, 61, 0, 0, 0), (38, .aload_n 0, 1, 0, 0, 0, 0), (39, .bipush 100, 2, 0, 0, 0, 100), (41, .invokevirtual 423, 3, 153, 2, 14, 80045), (44, .aload_n 0, 1, 0, 0, 0, 0), (45, .getfield 24, 3, 14, 23, 2, 60039), (48, .iconst 0, 1, 0, 0, 0, 0), (49, .iaload, 1, 0, 0, 0, 0), (50, .if_icmp .ge 7, 3, 57, 0, 0, 0), (53, .iconst 1, 1, 0, 0, 0, 1), (54, .goto 23, 3, 77, 0, 0, 0), (57, .iconst 0, 1, 0, 0, 0, 0), (58, .goto 19, 3, 77, 0, 0, 0), (61, .aload_n 0, 1, 0, 0, 0, 0), (62, .getfield 24, 3, 14, 23, 2, 60039), (65, .iconst 0, 1, 0, 0, 0, 0), (66, .iaload, 1, 0, 0, 0, 0), (67, .bipush 50, 2, 0, 0, 0, 50), (69, .if_icmp .lt 7, 3, 76, 0, 0, 0), (72, .iconst 1, 1, 0, 0, 0, 1), (73, .goto 4, 3, 77, 0, 0, 0), (76, .iconst 0, 1, 0, 0, 0, 0), (77, .nop, 0, 0, 0, 0, 0), (77, .ireturn, 1, 1, 0, 0, 0)]
/-- 155: SpeakClockModel.boundLaw(IIII)I -/
def cd_M_boundLaw : List mE := [(0, .aload_n 0, 1, 0, 0, 0, 0), (1, .getfield 63, 3, 14, 36, 2, 60052), (4, .iload_n 1, 1, 0, 0, 0, 0), (5, .baload, 1, 0, 0, 0, 0), (6, .ifCond .ne 5, 3, 11, 0, 0, 0), (9, .iload_n 2, 1, 0, 0, 0, 0), (10, .ireturn, 1, 0, 0, 0, 0), (11, .aload_n 0, 1, 0, 0, 0, 0), (12, .iload_n 1, 1, 0, 0, 0, 0), (13, .invokevirtual 412, 3, 122, 2, 14, 70216), (16, .lstore 5, 2, 0, 0, 0, 0), (18, .aload_n 0, 1, 0, 0, 0, 0), (19, .getfield 341, 3, 14, 52, 3, 60068), (22, .ifCond .eq 5, 3, 27, 0, 0, 0), (25, .iload_n 2, 1, 0, 0, 0, 0), (26, .ireturn, 1, 0, 0, 0, 0), (27, .lload 5, 2, 0, 0, 0, 0), (29, .iload_n 3, 1, 0, 0, 0, 0), (30, .i2l, 1, 0, 0, 0, 0), (31, .lcmp, 1, 0, 0, 0, 0), (32, .ifCond .ge 7, 3, 39, 0, 0, 0), (35, .iload_n 3, 1, 0, 0, 0, 0), (36, .goto 20, 3, 56, 0, 0, 0), (39, .lload 5, 2, 0, 0, 0, 0), (41, .iload 4, 2, 0, 0, 0, 0), (43, .i2l, 1, 0, 0, 0, 0), (44, .lcmp, 1, 0, 0, 0, 0), (45, .ifCond .le 8, 3, 53, 0, 0, 0), (48, .iload 4, 2, 0, 0, 0, 0), (50, .goto 6, 3, 56, 0, 0, 0), (53, .lload 5, 2, 0, 0, 0, 0), (55, .l2i, 1, 0, 0, 0, 0), (56, .nop, 0, 0, 0, 0, 0), (56, .ireturn, 1, 0, 0, 0, 0)]
/-- 156: SpeakClockModel.isCold(I)Z -/
def cd_M_isCold : List mE := [(0, .aload_n 0, 1, 0, 0, 0, 0), (1, .getfield 384, 3, 14, 69, 3, 60085), (4, .ifCond .eq 5, 3, 9, 0, 0, 0), (7, .iconst 0, 1, 0, 0, 0, 0), (8, .ireturn, 1, 1, 0, 0, 0), (9, .iconst 0, 1, 0, 0, 0, 0), (10, .istore_n 2, 1, 0, 0, 0, 0), (11, .nop, 0, 7, 0, 0, 0), (11, .iload_n 2, 1, 0, 0, 0, 0), (12, .aload_n 0, 1, 0, 0, 0, 0), (13, .getfield 246, 3, 14, 15, 0, 60031), (16, .if_icmp .ge 30, 3, 46, 0, 0, 0), (19, .iload_n 1, 1, 0, 0, 0, 0), (20, .aload_n 0, 1, 0, 0, 0, 0), (21, .getfield 57, 3, 14, 34, 2, 60050), (24, .iload_n 2, 1, 0, 0, 0, 0), (25, .iaload, 1, 0, 0, 0, 0), (26, .aload_n 0, 1, 0, 0, 0, 0), (27, .getfield 60, 3, 14, 35, 2, 60051), (30, .iload_n 2, 1, 0, 0, 0, 0), (31, .iaload, 1, 0, 0, 0, 0), (32, .invokestatic 202, 3, 67, 3, 14, 70088), (35, .ifCond .eq 5, 3, 40, 0, 0, 0), (38, .iconst 1, 1, 0, 0, 0, 1), (39, .ireturn, 1, 1, 0, 0, 0), (40, .iinc 2 1, 3, 0, 0, 0, 0), (43, .goto (-32), 3, 11, 0, 0, 0), (46, .iconst 0, 1, 0, 0, 0, 0), (47, .ireturn, 1, 1, 0, 0, 0)]
/-- 157: SpeakClockModel.begins(I)V -/
def cd_M_begins : List mE := [(0, .aload_n 0, 1, 0, 0, 0, 0), (1, .getfield 106, 3, 14, 57, 2, 60073), (4, .bipush 20, 2, 0, 0, 0, 20), (6, .iload_n 1, 1, 0, 0, 0, 0), (7, .imul, 1, 0, 0, 0, 0), (8, .iaload, 1, 0, 0, 0, 0), (9, .istore_n 2, 1, 0, 0, 0, 0), (10, .aload_n 0, 1, 0, 0, 0, 0), (11, .iload_n 1, 1, 0, 0, 0, 0), (12, .iconst 0, 1, 0, 0, 0, 0), (13, .invokevirtual 426, 3, 133, 3, 14, 80017), (16, .aload_n 0, 1, 0, 0, 0, 0), (17, .getfield 112, 3, 14, 59, 2, 60075), (20, .iload_n 1, 1, 0, 0, 0, 0), (21, .iload_n 2, 1, 0, 0, 0, 0), (22, .iastore, 1, 0, 0, 0, 0), (23, .iconst 2, 1, 0, 0, 0, 2), (24, .istore_n 3, 1, 0, 0, 0, 0), (25, .iload_n 2, 1, 0, 0, 0, 0), (26, .bipush 6, 2, 0, 0, 0, 6), (28, .if_icmp .eq 42, 3, 70, 0, 0, 0), (31, .aload_n 0, 1, 0, 0, 0, 0), (32, .getfield 94, 3, 14, 53, 2, 60069), (35, .bipush 6, 2, 0, 0, 0, 6), (37, .iload_n 1, 1, 0, 0, 0, 0), (38, .imul, 1, 0, 0, 0, 0), (39, .iload_n 2, 1, 0, 0, 0, 0), (40, .iadd, 1, 0, 0, 0, 0), (41, .iconst 2, 1, 0, 0, 0, 2), (42, .iastore, 1, 0, 0, 0, 0), (43, .aload_n 0, 1, 0, 0, 0, 0), (44, .iload_n 1, 1, 0, 0, 0, 0), (45, .iload_n 2, 1, 0, 0, 0, 0), (46, .aload_n 0, 1, 0, 0, 0, 0), (47, .getfield 109, 3, 14, 58, 2, 60074), (50, .iload_n 1, 1, 0, 0, 0, 0), (51, .iaload, 1, 0, 0, 0, 0), (52, .invokevirtual 430, 3, 117, 4, 14, 70204), (55, .aload_n 0, 1, 0, 0, 0, 0), (56, .iconst 0, 1, 0, 0, 0, 0), (57, .aload_n 0, 1, 0, 0, 0, 0), (58, .getfield 30, 3, 14, 25, 2, 60041), (61, .iload_n 2, 1, 0, 0, 0, 0), (62, .iaload, 1, 0, 0, 0, 0), (63, .iconst 1, 1, 0, 0, 0, 1), (64, .bipush 20, 2, 0, 0, 0, 20), (66, .invokevirtual 433, 3, 155, 5, 14, 80057), (69, .istore_n 3, 1, 0, 0, 0, 0), (70, .nop, 0, 11, 0, 0, 0), (70, .aload_n 0, 1, 0, 0, 0, 0), (71, .aload_n 0, 1, 0, 0, 0, 0), (72, .getfield 127, 3, 14, 64, 2, 60080), (75, .iload_n 1, 1, 0, 0, 0, 0), (76, .iaload, 1, 0, 0, 0, 0), (77, .invokevirtual 437, 3, 156, 2, 14, 80061), (80, .ifCond .eq 9, 3, 89, 0, 0, 0), (83, .iconst 2, 1, 0, 0, 0, 2), (84, .iload_n 3, 1, 0, 0, 0, 0), (85, .imul, 1, 0, 0, 0, 0), (86, .goto 4, 3, 90, 0, 0, 0), (89, .iload_n 3, 1, 0, 0, 0, 0), (90, .nop, 0, 3, 0, 0, 0), (90, .istore_n 3, 1, 0, 0, 0, 0), (91, .aload_n 0, 1, 0, 0, 0, 0), (92, .getfield 115, 3, 14, 60, 2, 60076), (95, .iload_n 1, 1, 0, 0, 0, 0), (96, .iload_n 3, 1, 0, 0, 0, 0), (97, .bipush 20, 2, 0, 0, 0, 20), (99, .if_icmp .le 8, 3, 107, 0, 0, 0), (102, .bipush 20, 2, 0, 0, 0, 20), (104, .goto 4, 3, 108, 0, 0, 0), (107, .iload_n 3, 1, 0, 0, 0, 0), (108, .nop, 0, 0, 0, 0, 0), (108, .iastore, 1, 0, 0, 0, 0), (109, .return_, 1, 0, 0, 0, 0)]
/-- 158: SpeakClockModel.isTold(I)V -/
def cd_M_isTold : List mE := [(0, .aload_n 0, 1, 0, 0, 0, 0), (1, .getfield 112, 3, 14, 59, 2, 60075), (4, .iload_n 1, 1, 0, 0, 0, 0), (5, .iaload, 1, 0, 0, 0, 0), (6, .istore_n 2, 1, 0, 0, 0, 0), (7, .aload_n 0, 1, 0, 0, 0, 0), (8, .getfield 112, 3, 14, 59, 2, 60075), (11, .iload_n 1, 1, 0, 0, 0, 0), (12, .iconst (-1), 1, 0, 0, 0, (-1)), (13, .iastore, 1, 0, 0, 0, 0), (14, .iload_n 2, 1, 0, 0, 0, 0), (15, .bipush 6, 2, 0, 0, 0, 6), (17, .if_icmp .ne 4, 3, 21, 0, 0, 0), (20, .return_, 1, 0, 0, 0, 0), (21, .bipush 6, 2, 0, 0, 0, 6), (23, .iload_n 1, 1, 0, 0, 0, 0), (24, .imul, 1, 0, 0, 0, 0), (25, .iload_n 2, 1, 0, 0, 0, 0), (26, .iadd, 1, 0, 0, 0, 0), (27, .istore_n 3, 1, 0, 0, 0, 0), (28, .aload_n 0, 1, 0, 0, 0, 0), (29, .iload_n 1, 1, 0, 0, 0, 0), (30, .iload_n 2, 1, 0, 0, 0, 0), (31, .aload_n 0, 1, 0, 0, 0, 0), (32, .getfield 97, 3, 14, 54, 2, 60070), (35, .iload_n 3, 1, 0, 0, 0, 0), (36, .iaload, 1, 0, 0, 0, 0), (37, .invokevirtual 430, 3, 117, 4, 14, 70204), (40, .aload_n 0, 1, 0, 0, 0, 0), (41, .getfield 100, 3, 14, 55, 2, 60071), (44, .iload_n 3, 1, 0, 0, 0, 0), (45, .aload_n 0, 1, 0, 0, 0, 0), (46, .iconst 1, 1, 0, 0, 0, 1), (47, .aload_n 0, 1, 0, 0, 0, 0), (48, .getfield 97, 3, 14, 54, 2, 60070), (51, .iload_n 3, 1, 0, 0, 0, 0), (52, .iaload, 1, 0, 0, 0, 0), (53, .bipush 30, 2, 0, 0, 0, 30), (55, .if_icmp .le 8, 3, 63, 0, 0, 0), (58, .bipush (-30), 2, 0, 0, 0, (-30)), (60, .goto 10, 3, 70, 0, 0, 0), (63, .aload_n 0, 1, 0, 0, 0, 0), (64, .getfield 97, 3, 14, 54, 2, 60070), (67, .iload_n 3, 1, 0, 0, 0, 0), (68, .iaload, 1, 0, 0, 0, 0), (69, .ineg, 1, 0, 0, 0, 0), (70, .nop, 0, 9, 0, 0, 0), (70, .bipush (-30), 2, 0, 0, 0, (-30)), (72, .bipush 30, 2, 0, 0, 0, 30), (74, .invokevirtual 433, 3, 155, 5, 14, 80057), (77, .iastore, 1, 0, 0, 0, 0), (78, .aload_n 0, 1, 0, 0, 0, 0), (79, .getfield 103, 3, 14, 56, 2, 60072), (82, .iload_n 3, 1, 0, 0, 0, 0), (83, .dup2, 1, 0, 0, 0, 0), (84, .iaload, 1, 0, 0, 0, 0), (85, .iconst 1, 1, 0, 0, 0, 1), (86, .iadd, 1, 0, 0, 0, 0), (87, .iastore, 1, 0, 0, 0, 0), (88, .aload_n 0, 1, 0, 0, 0, 0), (89, .getfield 94, 3, 14, 53, 2, 60069), (92, .iload_n 3, 1, 0, 0, 0, 0), (93, .iconst 0, 1, 0, 0, 0, 0), (94, .iastore, 1, 0, 0, 0, 0), (95, .return_, 1, 0, 0, 0, 0)]
/-- 159: SpeakClockModel.within(III)I -/
def cd_M_within : List mE := [(0, .iload_n 0, 1, 0, 0, 0, 0), (1, .iload_n 1, 1, 0, 0, 0, 0), (2, .if_icmp .ge 7, 3, 9, 0, 0, 0), (5, .iload_n 1, 1, 0, 0, 0, 0), (6, .goto 13, 3, 19, 0, 0, 0), (9, .iload_n 0, 1, 0, 0, 0, 0), (10, .iload_n 2, 1, 0, 0, 0, 0), (11, .if_icmp .le 7, 3, 18, 0, 0, 0), (14, .iload_n 2, 1, 0, 0, 0, 0), (15, .goto 4, 3, 19, 0, 0, 0), (18, .iload_n 0, 1, 0, 0, 0, 0), (19, .nop, 0, 0, 0, 0, 0), (19, .ireturn, 1, 0, 0, 0, 0)]
/-- 160: SpeakClockModel.drifts(I)V -/
def cd_M_drifts : List mE := [(0, .iconst 0, 1, 0, 0, 0, 0), (1, .istore_n 2, 1, 0, 0, 0, 0), (2, .nop, 0, 7, 0, 0, 0), (2, .iload_n 2, 1, 0, 0, 0, 0), (3, .aload_n 0, 1, 0, 0, 0, 0), (4, .getfield 237, 3, 14, 12, 0, 60028), (7, .if_icmp .ge 67, 3, 74, 0, 0, 0), (10, .aload_n 0, 1, 0, 0, 0, 0), (11, .iload_n 1, 1, 0, 0, 0, 0), (12, .iload_n 2, 1, 0, 0, 0, 0), (13, .aload_n 0, 1, 0, 0, 0, 0), (14, .getfield 109, 3, 14, 58, 2, 60074), (17, .iload_n 1, 1, 0, 0, 0, 0), (18, .iaload, 1, 0, 0, 0, 0), (19, .invokevirtual 430, 3, 117, 4, 14, 70204), (22, .aload_n 0, 1, 0, 0, 0, 0), (23, .getfield 100, 3, 14, 55, 2, 60071), (26, .bipush 6, 2, 0, 0, 0, 6), (28, .iload_n 1, 1, 0, 0, 0, 0), (29, .imul, 1, 0, 0, 0, 0), (30, .iload_n 2, 1, 0, 0, 0, 0), (31, .iadd, 1, 0, 0, 0, 0), (32, .iaload, 1, 0, 0, 0, 0), (33, .aload_n 0, 1, 0, 0, 0, 0), (34, .iconst 2, 1, 0, 0, 0, 2), (35, .aload_n 0, 1, 0, 0, 0, 0), (36, .iload_n 2, 1, 0, 0, 0, 0), (37, .invokevirtual 405, 3, 116, 2, 14, 70212), (40, .bipush (-9), 2, 0, 0, 0, (-9)), (42, .bipush 9, 2, 0, 0, 0, 9), (44, .invokevirtual 433, 3, 155, 5, 14, 80057), (47, .iadd, 1, 0, 0, 0, 0), (48, .istore_n 3, 1, 0, 0, 0, 0), (49, .aload_n 0, 1, 0, 0, 0, 0), (50, .getfield 100, 3, 14, 55, 2, 60071), (53, .bipush 6, 2, 0, 0, 0, 6), (55, .iload_n 1, 1, 0, 0, 0, 0), (56, .imul, 1, 0, 0, 0, 0), (57, .iload_n 2, 1, 0, 0, 0, 0), (58, .iadd, 1, 0, 0, 0, 0), (59, .iload_n 3, 1, 0, 0, 0, 0), (60, .bipush (-99), 2, 0, 0, 0, (-99)), (62, .bipush 99, 2, 0, 0, 0, 99), (64, .invokestatic 440, 3, 159, 3, 14, 80073), (67, .iastore, 1, 0, 0, 0, 0), (68, .iinc 2 1, 3, 0, 0, 0, 0), (71, .goto (-69), 3, 2, 0, 0, 0), (74, .return_, 1, 0, 0, 0, 0)]
/-- 161: SpeakClockModel.comes(III)V -/
def cd_M_comes : List mE := [(0, .bipush 12, 2, 0, 0, 0, 12), (2, .iload_n 1, 1, 0, 0, 0, 0), (3, .imul, 1, 0, 0, 0, 0), (4, .iconst 2, 1, 0, 0, 0, 2), (5, .iload_n 2, 1, 0, 0, 0, 0), (6, .imul, 1, 0, 0, 0, 0), (7, .iadd, 1, 0, 0, 0, 0), (8, .iload_n 3, 1, 0, 0, 0, 0), (9, .iadd, 1, 0, 0, 0, 0), (10, .istore 4, 2, 0, 0, 0, 0), (12, .iload_n 3, 1, 0, 0, 0, 0), (13, .ifCond .ne 12, 3, 25, 0, 0, 0), (16, .aload_n 0, 1, 0, 0, 0, 0), (17, .getfield 48, 3, 14, 31, 2, 60047), (20, .iload_n 2, 1, 0, 0, 0, 0), (21, .iaload, 1, 0, 0, 0, 0), (22, .goto 9, 3, 31, 0, 0, 0), (25, .aload_n 0, 1, 0, 0, 0, 0), (26, .getfield 51, 3, 14, 32, 2, 60048), (29, .iload_n 2, 1, 0, 0, 0, 0), (30, .iaload, 1, 0, 0, 0, 0), (31, .nop, 0, 23, 0, 0, 0), (31, .istore 5, 2, 0, 0, 0, 0), (33, .aload_n 0, 1, 0, 0, 0, 0), (34, .getfield 121, 3, 14, 62, 2, 60078), (37, .iload 4, 2, 0, 0, 0, 0), (39, .iaload, 1, 0, 0, 0, 0), (40, .ifCond .ge 49, 3, 89, 0, 0, 0), (43, .aload_n 0, 1, 0, 0, 0, 0), (44, .getfield 127, 3, 14, 64, 2, 60080), (47, .iload_n 1, 1, 0, 0, 0, 0), (48, .iaload, 1, 0, 0, 0, 0), (49, .aload_n 0, 1, 0, 0, 0, 0), (50, .getfield 100, 3, 14, 55, 2, 60071), (53, .bipush 6, 2, 0, 0, 0, 6), (55, .iload_n 1, 1, 0, 0, 0, 0), (56, .imul, 1, 0, 0, 0, 0), (57, .iload 5, 2, 0, 0, 0, 0), (59, .iadd, 1, 0, 0, 0, 0), (60, .iaload, 1, 0, 0, 0, 0), (61, .iadd, 1, 0, 0, 0, 0), (62, .aload_n 0, 1, 0, 0, 0, 0), (63, .getfield 118, 3, 14, 61, 2, 60077), (66, .bipush 6, 2, 0, 0, 0, 6), (68, .iload_n 1, 1, 0, 0, 0, 0), (69, .imul, 1, 0, 0, 0, 0), (70, .iload_n 2, 1, 0, 0, 0, 0), (71, .iadd, 1, 0, 0, 0, 0), (72, .iaload, 1, 0, 0, 0, 0), (73, .if_icmp .lt 16, 3, 89, 0, 0, 0), (76, .aload_n 0, 1, 0, 0, 0, 0), (77, .getfield 121, 3, 14, 62, 2, 60078), (80, .iload 4, 2, 0, 0, 0, 0), (82, .aload_n 0, 1, 0, 0, 0, 0), (83, .getfield 127, 3, 14, 64, 2, 60080), (86, .iload_n 1, 1, 0, 0, 0, 0), (87, .iaload, 1, 0, 0, 0, 0), (88, .iastore, 1, 0, 0, 0, 0), (89, .nop, 0, 0, 0, 0, 0), (89, .return_, 1, 0, 0, 0, 0)]
/-- 162: SpeakClockModel.meets(II)V -/
def cd_M_meets : List mE := [(0, .aload_n 0, 1, 0, 0, 0, 0), (1, .iload_n 1, 1, 0, 0, 0, 0), (2, .iload_n 2, 1, 0, 0, 0, 0), (3, .iconst 0, 1, 0, 0, 0, 0), (4, .invokevirtual 444, 3, 161, 4, 14, 80080), (7, .aload_n 0, 1, 0, 0, 0, 0), (8, .iload_n 1, 1, 0, 0, 0, 0), (9, .iload_n 2, 1, 0, 0, 0, 0), (10, .iconst 1, 1, 0, 0, 0, 1), (11, .invokevirtual 444, 3, 161, 4, 14, 80080), (14, .aload_n 0, 1, 0, 0, 0, 0), (15, .getfield 121, 3, 14, 62, 2, 60078), (18, .bipush 12, 2, 0, 0, 0, 12), (20, .iload_n 1, 1, 0, 0, 0, 0), (21, .imul, 1, 0, 0, 0, 0), (22, .iconst 2, 1, 0, 0, 0, 2), (23, .iload_n 2, 1, 0, 0, 0, 0), (24, .imul, 1, 0, 0, 0, 0), (25, .iadd, 1, 0, 0, 0, 0), (26, .iaload, 1, 0, 0, 0, 0), (27, .istore_n 3, 1, 0, 0, 0, 0), (28, .aload_n 0, 1, 0, 0, 0, 0), (29, .getfield 121, 3, 14, 62, 2, 60078), (32, .bipush 12, 2, 0, 0, 0, 12), (34, .iload_n 1, 1, 0, 0, 0, 0), (35, .imul, 1, 0, 0, 0, 0), (36, .iconst 2, 1, 0, 0, 0, 2), (37, .iload_n 2, 1, 0, 0, 0, 0), (38, .imul, 1, 0, 0, 0, 0), (39, .iadd, 1, 0, 0, 0, 0), (40, .iconst 1, 1, 0, 0, 0, 1), (41, .iadd, 1, 0, 0, 0, 0), (42, .iaload, 1, 0, 0, 0, 0), (43, .istore 4, 2, 0, 0, 0, 0), (45, .iload_n 3, 1, 0, 0, 0, 0), (46, .ifCond .lt 8, 3, 54, 0, 0, 0), (49, .iload 4, 2, 0, 0, 0, 0), (51, .ifCond .ge 4, 3, 55, 0, 0, 0), (54, .nop, 0, 0, 0, 0, 0), (54, .return_, 1, 0, 0, 0, 0), (55, .iload_n 3, 1, 0, 0, 0, 0), (56, .iload 4, 2, 0, 0, 0, 0), (58, .if_icmp .le 10, 3, 68, 0, 0, 0), (61, .iload_n 3, 1, 0, 0, 0, 0), (62, .iload 4, 2, 0, 0, 0, 0), (64, .isub, 1, 0, 0, 0, 0), (65, .goto 7, 3, 72, 0, 0, 0), (68, .iload 4, 2, 0, 0, 0, 0), (70, .iload_n 3, 1, 0, 0, 0, 0), (71, .isub, 1, 0, 0, 0, 0), (72, .nop, 0, 7, 0, 0, 0), (72, .istore 5, 2, 0, 0, 0, 0), (74, .aload_n 0, 1, 0, 0, 0, 0), (75, .aload_n 0, 1, 0, 0, 0, 0), (76, .getfield 48, 3, 14, 31, 2, 60047), (79, .iload_n 2, 1, 0, 0, 0, 0), (80, .iaload, 1, 0, 0, 0, 0), (81, .invokevirtual 402, 3, 115, 2, 14, 70208), (84, .istore 6, 2, 0, 0, 0, 0), (86, .aload_n 0, 1, 0, 0, 0, 0), (87, .aload_n 0, 1, 0, 0, 0, 0), (88, .getfield 51, 3, 14, 32, 2, 60048), (91, .iload_n 2, 1, 0, 0, 0, 0), (92, .iaload, 1, 0, 0, 0, 0), (93, .invokevirtual 402, 3, 115, 2, 14, 70208), (96, .istore 7, 2, 0, 0, 0, 0), (98, .aload_n 0, 1, 0, 0, 0, 0), (99, .getfield 124, 3, 14, 63, 2, 60079), (102, .bipush 6, 2, 0, 0, 0, 6), (104, .iload_n 1, 1, 0, 0, 0, 0), (105, .imul, 1, 0, 0, 0, 0), (106, .iload_n 2, 1, 0, 0, 0, 0), (107, .iadd, 1, 0, 0, 0, 0), (108, .iload 5, 2, 0, 0, 0, 0), (110, .iload 6, 2, 0, 0, 0, 0), (112, .iload 7, 2, 0, 0, 0, 0), (114, .if_icmp .ge 8, 3, 122, 0, 0, 0), (117, .iload 6, 2, 0, 0, 0, 0), (119, .goto 5, 3, 124, 0, 0, 0), (122, .iload 7, 2, 0, 0, 0, 0), (124, .nop, 0, 0, 0, 0, 0), (124, .if_icmp .gt 7, 3, 131, 0, 0, 0), (127, .iconst 1, 1, 0, 0, 0, 1), (128, .goto 4, 3, 132, 0, 0, 0), (131, .iconst 2, 1, 0, 0, 0, 2), (132, .nop, 0, 0, 0, 0, 0), (132, .iastore, 1, 0, 0, 0, 0), (133, .return_, 1, 0, 0, 0, 0)]
/-- 163: SpeakClockModel.minuteGoes(I)V -/
def cd_M_minuteGoes : List mE := [(0, .iconst 0, 1, 0, 0, 0, 0), (1, .istore_n 2, 1, 0, 0, 0, 0), (2, .nop, 0, 7, 0, 0, 0), (2, .iload_n 2, 1, 0, 0, 0, 0), (3, .aload_n 0, 1, 0, 0, 0, 0), (4, .getfield 240, 3, 14, 13, 0, 60029), (7, .if_icmp .ge 49, 3, 56, 0, 0, 0), (10, .aload_n 0, 1, 0, 0, 0, 0), (11, .getfield 45, 3, 14, 30, 2, 60046), (14, .iload_n 2, 1, 0, 0, 0, 0), (15, .iaload, 1, 0, 0, 0, 0), (16, .aload_n 0, 1, 0, 0, 0, 0), (17, .getfield 127, 3, 14, 64, 2, 60080), (20, .iload_n 1, 1, 0, 0, 0, 0), (21, .iaload, 1, 0, 0, 0, 0), (22, .if_icmp .ne 28, 3, 50, 0, 0, 0), (25, .aload_n 0, 1, 0, 0, 0, 0), (26, .getfield 42, 3, 14, 29, 2, 60045), (29, .iload_n 2, 1, 0, 0, 0, 0), (30, .iaload, 1, 0, 0, 0, 0), (31, .aload_n 0, 1, 0, 0, 0, 0), (32, .getfield 393, 3, 14, 72, 0, 60088), (35, .if_icmp .eq 15, 3, 50, 0, 0, 0), (38, .aload_n 0, 1, 0, 0, 0, 0), (39, .iload_n 1, 1, 0, 0, 0, 0), (40, .aload_n 0, 1, 0, 0, 0, 0), (41, .getfield 42, 3, 14, 29, 2, 60045), (44, .iload_n 2, 1, 0, 0, 0, 0), (45, .iaload, 1, 0, 0, 0, 0), (46, .invokevirtual 447, 3, 129, 3, 14, 80009), (49, .pop, 1, 0, 0, 0, 0), (50, .nop, 0, 7, 0, 0, 0), (50, .iinc 2 1, 3, 0, 0, 0, 0), (53, .goto (-51), 3, 2, 0, 0, 0), (56, .aload_n 0, 1, 0, 0, 0, 0), (57, .invokevirtual 450, 3, 154, 1, 14, 80041), (60, .ifCond .eq 52, 3, 112, 0, 0, 0), (63, .aload_n 0, 1, 0, 0, 0, 0), (64, .getfield 130, 3, 14, 65, 2, 60081), (67, .iload_n 1, 1, 0, 0, 0, 0), (68, .dup2, 1, 0, 0, 0, 0), (69, .iaload, 1, 0, 0, 0, 0), (70, .iconst 1, 1, 0, 0, 0, 1), (71, .iadd, 1, 0, 0, 0, 0), (72, .iastore, 1, 0, 0, 0, 0), (73, .aload_n 0, 1, 0, 0, 0, 0), (74, .getfield 109, 3, 14, 58, 2, 60074), (77, .iload_n 1, 1, 0, 0, 0, 0), (78, .iaload, 1, 0, 0, 0, 0), (79, .bipush 20, 2, 0, 0, 0, 20), (81, .if_icmp .ge 31, 3, 112, 0, 0, 0), (84, .aload_n 0, 1, 0, 0, 0, 0), (85, .getfield 106, 3, 14, 57, 2, 60073), (88, .bipush 20, 2, 0, 0, 0, 20), (90, .iload_n 1, 1, 0, 0, 0, 0), (91, .imul, 1, 0, 0, 0, 0), (92, .aload_n 0, 1, 0, 0, 0, 0), (93, .getfield 109, 3, 14, 58, 2, 60074), (96, .iload_n 1, 1, 0, 0, 0, 0), (97, .iaload, 1, 0, 0, 0, 0), (98, .iadd, 1, 0, 0, 0, 0), (99, .bipush 6, 2, 0, 0, 0, 6), (101, .iastore, 1, 0, 0, 0, 0), (102, .aload_n 0, 1, 0, 0, 0, 0), (103, .getfield 109, 3, 14, 58, 2, 60074), (106, .iload_n 1, 1, 0, 0, 0, 0), (107, .dup2, 1, 0, 0, 0, 0), (108, .iaload, 1, 0, 0, 0, 0), (109, .iconst 1, 1, 0, 0, 0, 1), (110, .iadd, 1, 0, 0, 0, 0), (111, .iastore, 1, 0, 0, 0, 0), (112, .nop, 0, 3, 0, 0, 0), (112, .aload_n 0, 1, 0, 0, 0, 0), (113, .getfield 112, 3, 14, 59, 2, 60075), (116, .iload_n 1, 1, 0, 0, 0, 0), (117, .iaload, 1, 0, 0, 0, 0), (118, .iconst (-1), 1, 0, 0, 0, (-1)), (119, .if_icmp .ne 17, 3, 136, 0, 0, 0), (122, .aload_n 0, 1, 0, 0, 0, 0), (123, .getfield 109, 3, 14, 58, 2, 60074), (126, .iload_n 1, 1, 0, 0, 0, 0), (127, .iaload, 1, 0, 0, 0, 0), (128, .ifCond .le 8, 3, 136, 0, 0, 0), (131, .aload_n 0, 1, 0, 0, 0, 0), (132, .iload_n 1, 1, 0, 0, 0, 0), (133, .invokevirtual 453, 3, 157, 2, 14, 80053), (136, .nop, 0, 3, 0, 0, 0), (136, .aload_n 0, 1, 0, 0, 0, 0), (137, .getfield 112, 3, 14, 59, 2, 60075), (140, .iload_n 1, 1, 0, 0, 0, 0), (141, .iaload, 1, 0, 0, 0, 0), (142, .iconst (-1), 1, 0, 0, 0, (-1)), (143, .if_icmp .eq 27, 3, 170, 0, 0, 0), (146, .aload_n 0, 1, 0, 0, 0, 0), (147, .getfield 115, 3, 14, 60, 2, 60076), (150, .iload_n 1, 1, 0, 0, 0, 0), (151, .dup2, 1, 0, 0, 0, 0), (152, .iaload, 1, 0, 0, 0, 0), (153, .iconst 1, 1, 0, 0, 0, 1), (154, .isub, 1, 0, 0, 0, 0), (155, .iastore, 1, 0, 0, 0, 0), (156, .aload_n 0, 1, 0, 0, 0, 0), (157, .getfield 115, 3, 14, 60, 2, 60076), (160, .iload_n 1, 1, 0, 0, 0, 0), (161, .iaload, 1, 0, 0, 0, 0), (162, .ifCond .ne 8, 3, 170, 0, 0, 0), (165, .aload_n 0, 1, 0, 0, 0, 0), (166, .iload_n 1, 1, 0, 0, 0, 0), (167, .invokevirtual 456, 3, 158, 2, 14, 80065), (170, .nop, 0, 3, 0, 0, 0), (170, .aload_n 0, 1, 0, 0, 0, 0), (171, .getfield 127, 3, 14, 64, 2, 60080), (174, .iload_n 1, 1, 0, 0, 0, 0), (175, .iaload, 1, 0, 0, 0, 0), (176, .iconst 1, 1, 0, 0, 0, 1), (177, .iadd, 1, 0, 0, 0, 0), (178, .bipush 10, 2, 0, 0, 0, 10), (180, .irem, 1, 0, 0, 0, 0), (181, .ifCond .ne 15, 3, 196, 0, 0, 0), (184, .aload_n 0, 1, 0, 0, 0, 0), (185, .getfield 387, 3, 14, 70, 3, 60086), (188, .ifCond .ne 8, 3, 196, 0, 0, 0), (191, .aload_n 0, 1, 0, 0, 0, 0), (192, .iload_n 1, 1, 0, 0, 0, 0), (193, .invokevirtual 459, 3, 160, 2, 14, 80069), (196, .nop, 0, 3, 0, 0, 0), (196, .iconst 0, 1, 0, 0, 0, 0), (197, .istore_n 2, 1, 0, 0, 0, 0), (198, .nop, 0, 7, 0, 0, 0), (198, .iload_n 2, 1, 0, 0, 0, 0), (199, .aload_n 0, 1, 0, 0, 0, 0), (200, .getfield 243, 3, 14, 14, 0, 60030), (203, .if_icmp .ge 29, 3, 232, 0, 0, 0), (206, .aload_n 0, 1, 0, 0, 0, 0), (207, .getfield 124, 3, 14, 63, 2, 60079), (210, .bipush 6, 2, 0, 0, 0, 6), (212, .iload_n 1, 1, 0, 0, 0, 0), (213, .imul, 1, 0, 0, 0, 0), (214, .iload_n 2, 1, 0, 0, 0, 0), (215, .iadd, 1, 0, 0, 0, 0), (216, .iaload, 1, 0, 0, 0, 0), (217, .ifCond .ne 9, 3, 226, 0, 0, 0), (220, .aload_n 0, 1, 0, 0, 0, 0), (221, .iload_n 1, 1, 0, 0, 0, 0), (222, .iload_n 2, 1, 0, 0, 0, 0), (223, .invokevirtual 462, 3, 162, 3, 14, 80076), (226, .nop, 0, 7, 0, 0, 0), (226, .iinc 2 1, 3, 0, 0, 0, 0), (229, .goto (-31), 3, 198, 0, 0, 0), (232, .aload_n 0, 1, 0, 0, 0, 0), (233, .getfield 127, 3, 14, 64, 2, 60080), (236, .iload_n 1, 1, 0, 0, 0, 0), (237, .dup2, 1, 0, 0, 0, 0), (238, .iaload, 1, 0, 0, 0, 0), (239, .iconst 1, 1, 0, 0, 0, 1), (240, .iadd, 1, 0, 0, 0, 0), (241, .iastore, 1, 0, 0, 0, 0), (242, .return_, 1, 0, 0, 0, 0)]
/-- 164: SpeakClockModel.go(I)I -/
def cd_M_go : List mE := [(0, .aload_n 0, 1, 0, 0, 0, 0), (1, .iconst 0, 1, 0, 0, 0, 0), (2, .putfield 157, 3, 14, 2, 0, 60018), (5, .iload_n 1, 1, 0, 0, 0, 0), (6, .iconst 0, 1, 0, 0, 0, 0), (7, .sipush 200, 3, 0, 0, 0, 200), (10, .invokestatic 202, 3, 67, 3, 14, 70088), (13, .ifCond .eq 17, 3, 30, 0, 0, 0), (16, .aload_n 0, 1, 0, 0, 0, 0), (17, .getfield 127, 3, 14, 64, 2, 60080), (20, .iconst 0, 1, 0, 0, 0, 0), (21, .iaload, 1, 0, 0, 0, 0), (22, .iload_n 1, 1, 0, 0, 0, 0), (23, .iadd, 1, 0, 0, 0, 0), (24, .sipush 9000, 3, 0, 0, 0, 9000), (27, .if_icmp .le 5, 3, 32, 0, 0, 0), (30, .nop, 0, 0, 0, 0, 0), (30, .iconst (-1), 1, 0, 0, 0, (-1)), (31, .ireturn, 1, 0, 0, 0, 0), (32, .aload_n 0, 1, 0, 0, 0, 0), (33, .invokevirtual 366, 3, 13, 1, 14, 60012), (36, .aload_n 0, 1, 0, 0, 0, 0), (37, .iconst 1, 1, 0, 0, 0, 1), (38, .putfield 378, 3, 14, 67, 3, 60083), (41, .iconst 0, 1, 0, 0, 0, 0), (42, .istore_n 2, 1, 0, 0, 0, 0), (43, .nop, 0, 7, 0, 0, 0), (43, .iload_n 2, 1, 0, 0, 0, 0), (44, .iload_n 1, 1, 0, 0, 0, 0), (45, .if_icmp .ge 14, 3, 59, 0, 0, 0), (48, .aload_n 0, 1, 0, 0, 0, 0), (49, .iconst 0, 1, 0, 0, 0, 0), (50, .invokevirtual 465, 3, 163, 2, 14, 80037), (53, .iinc 2 1, 3, 0, 0, 0, 0), (56, .goto (-13), 3, 43, 0, 0, 0), (59, .aload_n 0, 1, 0, 0, 0, 0), (60, .iconst 0, 1, 0, 0, 0, 0), (61, .putfield 378, 3, 14, 67, 3, 60083), (64, .aload_n 0, 1, 0, 0, 0, 0), (65, .iload_n 1, 1, 0, 0, 0, 0), (66, .ifCond .le 7, 3, 73, 0, 0, 0), (69, .iconst 0, 1, 0, 0, 0, 0), (70, .goto 7, 3, 77, 0, 0, 0), (73, .aload_n 0, 1, 0, 0, 0, 0), (74, .getfield 372, 3, 14, 79, 0, 60095), (77, .nop, 0, 1, 0, 0, 0), (77, .putfield 372, 3, 14, 79, 0, 60095), (80, .aload_n 0, 1, 0, 0, 0, 0), (81, .getfield 127, 3, 14, 64, 2, 60080), (84, .iconst 0, 1, 0, 0, 0, 0), (85, .iaload, 1, 0, 0, 0, 0), (86, .ireturn, 1, 0, 0, 0, 0)]
/-- 165: SpeakClock$Day.copy(LSpeakClock$Day;)V -/
def cd_Day_copy : List mE := [(0, .aload_n 0, 1, 0, 0, 0, 0), (1, .aload_n 1, 1, 0, 0, 0, 0), (2, .getfield 36, 3, 4, 8, 0, 20112), (5, .putfield 36, 3, 4, 8, 0, 20112), (8, .aload_n 0, 1, 0, 0, 0, 0), (9, .aload_n 1, 1, 0, 0, 0, 0), (10, .getfield 40, 3, 4, 9, 0, 20113), (13, .putfield 40, 3, 4, 9, 0, 20113), (16, .aload_n 0, 1, 0, 0, 0, 0), (17, .aload_n 1, 1, 0, 0, 0, 0), (18, .getfield 43, 3, 4, 10, 0, 20114), (21, .putfield 43, 3, 4, 10, 0, 20114), (24, .aload_n 0, 1, 0, 0, 0, 0), (25, .aload_n 1, 1, 0, 0, 0, 0), (26, .getfield 46, 3, 4, 11, 0, 20118), (29, .putfield 46, 3, 4, 11, 0, 20118), (32, .aload_n 0, 1, 0, 0, 0, 0), (33, .aload_n 1, 1, 0, 0, 0, 0), (34, .getfield 49, 3, 4, 12, 0, 20121), (37, .putfield 49, 3, 4, 12, 0, 20121), (40, .aload_n 0, 1, 0, 0, 0, 0), (41, .aload_n 1, 1, 0, 0, 0, 0), (42, .getfield 52, 3, 4, 13, 0, 20124), (45, .putfield 52, 3, 4, 13, 0, 20124), (48, .aload_n 0, 1, 0, 0, 0, 0), (49, .aload_n 1, 1, 0, 0, 0, 0), (50, .getfield 55, 3, 4, 14, 0, 20127), (53, .putfield 55, 3, 4, 14, 0, 20127), (56, .aload_n 0, 1, 0, 0, 0, 0), (57, .aload_n 1, 1, 0, 0, 0, 0), (58, .getfield 58, 3, 4, 15, 0, 20129), (61, .putfield 58, 3, 4, 15, 0, 20129), (64, .aload_n 1, 1, 0, 0, 0, 0), (65, .getfield 9, 3, 4, 0, 2, 20087), (68, .iconst 0, 1, 0, 0, 0, 0), (69, .aload_n 0, 1, 0, 0, 0, 0), (70, .getfield 9, 3, 4, 0, 2, 20087), (73, .iconst 0, 1, 0, 0, 0, 0), (74, .bipush 6, 2, 0, 0, 0, 6), (76, .invokestatic 74, 3, 1006, 5, 0, 40172), (79, .aload_n 1, 1, 0, 0, 0, 0), (80, .getfield 15, 3, 4, 1, 2, 20091), (83, .iconst 0, 1, 0, 0, 0, 0), (84, .aload_n 0, 1, 0, 0, 0, 0), (85, .getfield 15, 3, 4, 1, 2, 20091), (88, .iconst 0, 1, 0, 0, 0, 0), (89, .bipush 6, 2, 0, 0, 0, 6), (91, .invokestatic 74, 3, 1006, 5, 0, 40172), (94, .aload_n 1, 1, 0, 0, 0, 0), (95, .getfield 18, 3, 4, 2, 2, 20094), (98, .iconst 0, 1, 0, 0, 0, 0), (99, .aload_n 0, 1, 0, 0, 0, 0), (100, .getfield 18, 3, 4, 2, 2, 20094), (103, .iconst 0, 1, 0, 0, 0, 0), (104, .bipush 6, 2, 0, 0, 0, 6), (106, .invokestatic 74, 3, 1006, 5, 0, 40172), (109, .aload_n 1, 1, 0, 0, 0, 0), (110, .getfield 21, 3, 4, 3, 2, 20097), (113, .iconst 0, 1, 0, 0, 0, 0), (114, .aload_n 0, 1, 0, 0, 0, 0), (115, .getfield 21, 3, 4, 3, 2, 20097), (118, .iconst 0, 1, 0, 0, 0, 0), (119, .bipush 20, 2, 0, 0, 0, 20), (121, .invokestatic 74, 3, 1006, 5, 0, 40172), (124, .aload_n 1, 1, 0, 0, 0, 0), (125, .getfield 24, 3, 4, 4, 2, 20100), (128, .iconst 0, 1, 0, 0, 0, 0), (129, .aload_n 0, 1, 0, 0, 0, 0), (130, .getfield 24, 3, 4, 4, 2, 20100), (133, .iconst 0, 1, 0, 0, 0, 0), (134, .bipush 6, 2, 0, 0, 0, 6), (136, .invokestatic 74, 3, 1006, 5, 0, 40172), (139, .aload_n 1, 1, 0, 0, 0, 0), (140, .getfield 27, 3, 4, 5, 2, 20103), (143, .iconst 0, 1, 0, 0, 0, 0), (144, .aload_n 0, 1, 0, 0, 0, 0), (145, .getfield 27, 3, 4, 5, 2, 20103), (148, .iconst 0, 1, 0, 0, 0, 0), (149, .bipush 6, 2, 0, 0, 0, 6), (151, .invokestatic 74, 3, 1006, 5, 0, 40172), (154, .aload_n 1, 1, 0, 0, 0, 0), (155, .getfield 30, 3, 4, 6, 2, 20106), (158, .iconst 0, 1, 0, 0, 0, 0), (159, .aload_n 0, 1, 0, 0, 0, 0), (160, .getfield 30, 3, 4, 6, 2, 20106), (163, .iconst 0, 1, 0, 0, 0, 0), (164, .bipush 6, 2, 0, 0, 0, 6), (166, .invokestatic 74, 3, 1006, 5, 0, 40172), (169, .aload_n 1, 1, 0, 0, 0, 0), (170, .getfield 33, 3, 4, 7, 2, 20109), (173, .iconst 0, 1, 0, 0, 0, 0), (174, .aload_n 0, 1, 0, 0, 0, 0), (175, .getfield 33, 3, 4, 7, 2, 20109), (178, .iconst 0, 1, 0, 0, 0, 0), (179, .bipush 6, 2, 0, 0, 0, 6), (181, .invokestatic 74, 3, 1006, 5, 0, 40172), (184, .return_, 1, 0, 0, 0, 0)]
/-- 166: SpeakClock.startTrial()V -/
def cd_C_startTrial : List mE := [(0, .aload_n 0, 1, 0, 0, 0, 0), (1, .getfield 48, 3, 13, 6, 2, 30025), (4, .iconst 0, 1, 0, 0, 0, 0), (5, .invokevirtual 186, 3, 110, 2, 12, 40022), (8, .aload_n 0, 1, 0, 0, 0, 0), (9, .getfield 39, 3, 13, 4, 2, 30023), (12, .aload_n 0, 1, 0, 0, 0, 0), (13, .getfield 32, 3, 13, 2, 2, 30021), (16, .invokevirtual 232, 3, 165, 2, 4, 40168), (19, .return_, 1, 0, 0, 0, 0)]
/-- 167: SpeakClock.passTrial(I)V -/
def cd_C_passTrial : List mE := [(0, .iconst 0, 1, 0, 0, 0, 0), (1, .istore_n 2, 1, 0, 0, 0, 0), (2, .nop, 0, 7, 0, 0, 0), (2, .iload_n 2, 1, 0, 0, 0, 0), (3, .iload_n 1, 1, 0, 0, 0, 0), (4, .if_icmp .ge 20, 3, 24, 0, 0, 0), (7, .aload_n 0, 1, 0, 0, 0, 0), (8, .getfield 48, 3, 13, 6, 2, 30025), (11, .aload_n 0, 1, 0, 0, 0, 0), (12, .getfield 39, 3, 13, 4, 2, 30023), (15, .invokevirtual 216, 3, 151, 2, 12, 40091), (18, .iinc 2 1, 3, 0, 0, 0, 0), (21, .goto (-19), 3, 2, 0, 0, 0), (24, .return_, 1, 0, 0, 0, 0)]
/-- 168: SpeakClock$Day.howMany(I)I -/
def cd_Day_howMany : List mE := [(0, .iconst 0, 1, 0, 0, 0, 0), (1, .istore_n 2, 1, 0, 0, 0, 0), (2, .iconst 0, 1, 0, 0, 0, 0), (3, .istore_n 3, 1, 0, 0, 0, 0), (4, .nop, 0, 15, 0, 0, 0), (4, .iload_n 3, 1, 0, 0, 0, 0), (5, .aload_n 0, 1, 0, 0, 0, 0), (6, .getfield 40, 3, 4, 9, 0, 20113), (9, .if_icmp .ge 22, 3, 31, 0, 0, 0), (12, .aload_n 0, 1, 0, 0, 0, 0), (13, .getfield 33, 3, 4, 7, 2, 20109), (16, .iload_n 3, 1, 0, 0, 0, 0), (17, .iaload, 1, 0, 0, 0, 0), (18, .iload_n 1, 1, 0, 0, 0, 0), (19, .if_icmp .ne 6, 3, 25, 0, 0, 0), (22, .iinc 2 1, 3, 0, 0, 0, 0), (25, .nop, 0, 15, 0, 0, 0), (25, .iinc 3 1, 3, 0, 0, 0, 0), (28, .goto (-24), 3, 4, 0, 0, 0), (31, .iload_n 2, 1, 0, 0, 0, 0), (32, .ireturn, 1, 0, 0, 0, 0)]
/-- 169: SpeakClock.ahead(III)I -/
def cd_C_ahead : List mE := [(0, .iload_n 1, 1, 0, 0, 0, 0), (1, .ifCond .lt 32, 3, 33, 0, 0, 0), (4, .iload_n 1, 1, 0, 0, 0, 0), (5, .sipush 200, 3, 0, 0, 0, 200), (8, .if_icmp .gt 25, 3, 33, 0, 0, 0), (11, .iload_n 2, 1, 0, 0, 0, 0), (12, .ifCond .lt 21, 3, 33, 0, 0, 0), (15, .iload_n 2, 1, 0, 0, 0, 0), (16, .iconst 3, 1, 0, 0, 0, 3), (17, .if_icmp .gt 16, 3, 33, 0, 0, 0), (20, .iload_n 2, 1, 0, 0, 0, 0), (21, .iconst 2, 1, 0, 0, 0, 2), (22, .if_icmp .ne 14, 3, 36, 0, 0, 0), (25, .aload_n 0, 1, 0, 0, 0, 0), (26, .iload_n 3, 1, 0, 0, 0, 0), (27, .invokevirtual 117, 3, 94, 2, 13, 40012), (30, .ifCond .ne 6, 3, 36, 0, 0, 0), (33, .nop, 0, 0, 0, 0, 0), (33, .ldc 183, 2, 40016, 0, 0, (-2147483648)), (35, .ireturn, 1, 0, 0, 0, 0), (36, .nop, 0, 15, 0, 0, 0), (36, .aload_n 0, 1, 0, 0, 0, 0), (37, .invokevirtual 220, 3, 166, 1, 13, 40164), (40, .aload_n 0, 1, 0, 0, 0, 0), (41, .iload_n 1, 1, 0, 0, 0, 0), (42, .invokevirtual 223, 3, 167, 2, 13, 40173), (45, .iload_n 2, 1, 0, 0, 0, 0), (46, .tableswitch 72 0 2 #[26, 44, 62], 26, 118, 11, 0, 0), (72, .aload_n 0, 1, 0, 0, 0, 0), (73, .getfield 39, 3, 13, 4, 2, 30023), (76, .iconst 1, 1, 0, 0, 0, 1), (77, .invokevirtual 226, 3, 168, 2, 4, 40177), (80, .aload_n 0, 1, 0, 0, 0, 0), (81, .getfield 32, 3, 13, 2, 2, 30021), (84, .iconst 1, 1, 0, 0, 0, 1), (85, .invokevirtual 226, 3, 168, 2, 4, 40177), (88, .isub, 1, 0, 0, 0, 0), (89, .ireturn, 1, 0, 0, 0, 0), (90, .aload_n 0, 1, 0, 0, 0, 0), (91, .getfield 39, 3, 13, 4, 2, 30023), (94, .iconst 2, 1, 0, 0, 0, 2), (95, .invokevirtual 226, 3, 168, 2, 4, 40177), (98, .aload_n 0, 1, 0, 0, 0, 0), (99, .getfield 32, 3, 13, 2, 2, 30021), (102, .iconst 2, 1, 0, 0, 0, 2), (103, .invokevirtual 226, 3, 168, 2, 4, 40177), (106, .isub, 1, 0, 0, 0, 0), (107, .ireturn, 1, 0, 0, 0, 0), (108, .aload_n 0, 1, 0, 0, 0, 0), (109, .getfield 39, 3, 13, 4, 2, 30023), (112, .getfield 134, 3, 4, 0, 2, 20089), (115, .iload_n 3, 1, 0, 0, 0, 0), (116, .iaload, 1, 0, 0, 0, 0), (117, .ireturn, 1, 0, 0, 0, 0), (118, .aload_n 0, 1, 0, 0, 0, 0), (119, .getfield 39, 3, 13, 4, 2, 30023), (122, .getfield 190, 3, 4, 11, 0, 20120), (125, .ireturn, 1, 0, 0, 0, 0)]
/-- 170: SpeakClockModel.layTried()V -/
def cd_M_layTried : List mE := [(0, .iconst 0, 1, 0, 0, 0, 0), (1, .istore_n 1, 1, 0, 0, 0, 0), (2, .nop, 0, 3, 0, 0, 0), (2, .iload_n 1, 1, 0, 0, 0, 0), (3, .bipush 6, 2, 0, 0, 0, 6), (5, .if_icmp .ge 141, 3, 146, 0, 0, 0), (8, .aload_n 0, 1, 0, 0, 0, 0), (9, .getfield 94, 3, 14, 53, 2, 60069), (12, .bipush 6, 2, 0, 0, 0, 6), (14, .iload_n 1, 1, 0, 0, 0, 0), (15, .iadd, 1, 0, 0, 0, 0), (16, .aload_n 0, 1, 0, 0, 0, 0), (17, .getfield 94, 3, 14, 53, 2, 60069), (20, .iload_n 1, 1, 0, 0, 0, 0), (21, .iaload, 1, 0, 0, 0, 0), (22, .iastore, 1, 0, 0, 0, 0), (23, .aload_n 0, 1, 0, 0, 0, 0), (24, .getfield 97, 3, 14, 54, 2, 60070), (27, .bipush 6, 2, 0, 0, 0, 6), (29, .iload_n 1, 1, 0, 0, 0, 0), (30, .iadd, 1, 0, 0, 0, 0), (31, .aload_n 0, 1, 0, 0, 0, 0), (32, .getfield 97, 3, 14, 54, 2, 60070), (35, .iload_n 1, 1, 0, 0, 0, 0), (36, .iaload, 1, 0, 0, 0, 0), (37, .iastore, 1, 0, 0, 0, 0), (38, .aload_n 0, 1, 0, 0, 0, 0), (39, .getfield 100, 3, 14, 55, 2, 60071), (42, .bipush 6, 2, 0, 0, 0, 6), (44, .iload_n 1, 1, 0, 0, 0, 0), (45, .iadd, 1, 0, 0, 0, 0), (46, .aload_n 0, 1, 0, 0, 0, 0), (47, .getfield 100, 3, 14, 55, 2, 60071), (50, .iload_n 1, 1, 0, 0, 0, 0), (51, .iaload, 1, 0, 0, 0, 0), (52, .iastore, 1, 0, 0, 0, 0), (53, .aload_n 0, 1, 0, 0, 0, 0), (54, .getfield 103, 3, 14, 56, 2, 60072), (57, .bipush 6, 2, 0, 0, 0, 6), (59, .iload_n 1, 1, 0, 0, 0, 0), (60, .iadd, 1, 0, 0, 0, 0), (61, .aload_n 0, 1, 0, 0, 0, 0), (62, .getfield 103, 3, 14, 56, 2, 60072), (65, .iload_n 1, 1, 0, 0, 0, 0), (66, .iaload, 1, 0, 0, 0, 0), (67, .iastore, 1, 0, 0, 0, 0), (68, .aload_n 0, 1, 0, 0, 0, 0), (69, .getfield 118, 3, 14, 61, 2, 60077), (72, .bipush 6, 2, 0, 0, 0, 6), (74, .iload_n 1, 1, 0, 0, 0, 0), (75, .iadd, 1, 0, 0, 0, 0), (76, .aload_n 0, 1, 0, 0, 0, 0), (77, .getfield 118, 3, 14, 61, 2, 60077), (80, .iload_n 1, 1, 0, 0, 0, 0), (81, .iaload, 1, 0, 0, 0, 0), (82, .iastore, 1, 0, 0, 0, 0), (83, .aload_n 0, 1, 0, 0, 0, 0), (84, .getfield 124, 3, 14, 63, 2, 60079), (87, .bipush 6, 2, 0, 0, 0, 6), (89, .iload_n 1, 1, 0, 0, 0, 0), (90, .iadd, 1, 0, 0, 0, 0), (91, .aload_n 0, 1, 0, 0, 0, 0), (92, .getfield 124, 3, 14, 63, 2, 60079), (95, .iload_n 1, 1, 0, 0, 0, 0), (96, .iaload, 1, 0, 0, 0, 0), (97, .iastore, 1, 0, 0, 0, 0), (98, .aload_n 0, 1, 0, 0, 0, 0), (99, .getfield 121, 3, 14, 62, 2, 60078), (102, .bipush 12, 2, 0, 0, 0, 12), (104, .iconst 2, 1, 0, 0, 0, 2), (105, .iload_n 1, 1, 0, 0, 0, 0), (106, .imul, 1, 0, 0, 0, 0), (107, .iadd, 1, 0, 0, 0, 0), (108, .aload_n 0, 1, 0, 0, 0, 0), (109, .getfield 121, 3, 14, 62, 2, 60078), (112, .iconst 2, 1, 0, 0, 0, 2), (113, .iload_n 1, 1, 0, 0, 0, 0), (114, .imul, 1, 0, 0, 0, 0), (115, .iaload, 1, 0, 0, 0, 0), (116, .iastore, 1, 0, 0, 0, 0), (117, .aload_n 0, 1, 0, 0, 0, 0), (118, .getfield 121, 3, 14, 62, 2, 60078), (121, .bipush 12, 2, 0, 0, 0, 12), (123, .iconst 2, 1, 0, 0, 0, 2), (124, .iload_n 1, 1, 0, 0, 0, 0), (125, .imul, 1, 0, 0, 0, 0), (126, .iadd, 1, 0, 0, 0, 0), (127, .iconst 1, 1, 0, 0, 0, 1), (128, .iadd, 1, 0, 0, 0, 0), (129, .aload_n 0, 1, 0, 0, 0, 0), (130, .getfield 121, 3, 14, 62, 2, 60078), (133, .iconst 2, 1, 0, 0, 0, 2), (134, .iload_n 1, 1, 0, 0, 0, 0), (135, .imul, 1, 0, 0, 0, 0), (136, .iconst 1, 1, 0, 0, 0, 1), (137, .iadd, 1, 0, 0, 0, 0), (138, .iaload, 1, 0, 0, 0, 0), (139, .iastore, 1, 0, 0, 0, 0), (140, .iinc 1 1, 3, 0, 0, 0, 0), (143, .goto (-141), 3, 2, 0, 0, 0), (146, .iconst 0, 1, 0, 0, 0, 0), (147, .istore_n 1, 1, 0, 0, 0, 0), (148, .nop, 0, 3, 0, 0, 0), (148, .iload_n 1, 1, 0, 0, 0, 0), (149, .bipush 20, 2, 0, 0, 0, 20), (151, .if_icmp .ge 24, 3, 175, 0, 0, 0), (154, .aload_n 0, 1, 0, 0, 0, 0), (155, .getfield 106, 3, 14, 57, 2, 60073), (158, .bipush 20, 2, 0, 0, 0, 20), (160, .iload_n 1, 1, 0, 0, 0, 0), (161, .iadd, 1, 0, 0, 0, 0), (162, .aload_n 0, 1, 0, 0, 0, 0), (163, .getfield 106, 3, 14, 57, 2, 60073), (166, .iload_n 1, 1, 0, 0, 0, 0), (167, .iaload, 1, 0, 0, 0, 0), (168, .iastore, 1, 0, 0, 0, 0), (169, .iinc 1 1, 3, 0, 0, 0, 0), (172, .goto (-24), 3, 148, 0, 0, 0), (175, .aload_n 0, 1, 0, 0, 0, 0), (176, .getfield 109, 3, 14, 58, 2, 60074), (179, .iconst 1, 1, 0, 0, 0, 1), (180, .aload_n 0, 1, 0, 0, 0, 0), (181, .getfield 109, 3, 14, 58, 2, 60074), (184, .iconst 0, 1, 0, 0, 0, 0), (185, .iaload, 1, 0, 0, 0, 0), (186, .iastore, 1, 0, 0, 0, 0), (187, .aload_n 0, 1, 0, 0, 0, 0), (188, .getfield 112, 3, 14, 59, 2, 60075), (191, .iconst 1, 1, 0, 0, 0, 1), (192, .aload_n 0, 1, 0, 0, 0, 0), (193, .getfield 112, 3, 14, 59, 2, 60075), (196, .iconst 0, 1, 0, 0, 0, 0), (197, .iaload, 1, 0, 0, 0, 0), (198, .iastore, 1, 0, 0, 0, 0), (199, .aload_n 0, 1, 0, 0, 0, 0), (200, .getfield 115, 3, 14, 60, 2, 60076), (203, .iconst 1, 1, 0, 0, 0, 1), (204, .aload_n 0, 1, 0, 0, 0, 0), (205, .getfield 115, 3, 14, 60, 2, 60076), (208, .iconst 0, 1, 0, 0, 0, 0), (209, .iaload, 1, 0, 0, 0, 0), (210, .iastore, 1, 0, 0, 0, 0), (211, .aload_n 0, 1, 0, 0, 0, 0), (212, .getfield 127, 3, 14, 64, 2, 60080), (215, .iconst 1, 1, 0, 0, 0, 1), (216, .aload_n 0, 1, 0, 0, 0, 0), (217, .getfield 127, 3, 14, 64, 2, 60080), (220, .iconst 0, 1, 0, 0, 0, 0), (221, .iaload, 1, 0, 0, 0, 0), (222, .iastore, 1, 0, 0, 0, 0), (223, .aload_n 0, 1, 0, 0, 0, 0), (224, .getfield 130, 3, 14, 65, 2, 60081), (227, .iconst 1, 1, 0, 0, 0, 1), (228, .aload_n 0, 1, 0, 0, 0, 0), (229, .getfield 130, 3, 14, 65, 2, 60081), (232, .iconst 0, 1, 0, 0, 0, 0), (233, .iaload, 1, 0, 0, 0, 0), (234, .iastore, 1, 0, 0, 0, 0), (235, .aload_n 0, 1, 0, 0, 0, 0), (236, .invokevirtual 366, 3, 13, 1, 14, 60012), (239, .return_, 1, 0, 0, 0, 0)]
/-- 171: SpeakClockModel.goMany(I)V -/
def cd_M_goMany : List mE := [(0, .iconst 0, 1, 0, 0, 0, 0), (1, .istore_n 2, 1, 0, 0, 0, 0), (2, .nop, 0, 7, 0, 0, 0), (2, .iload_n 2, 1, 0, 0, 0, 0), (3, .iload_n 1, 1, 0, 0, 0, 0), (4, .if_icmp .ge 14, 3, 18, 0, 0, 0), (7, .aload_n 0, 1, 0, 0, 0, 0), (8, .iconst 1, 1, 0, 0, 0, 1), (9, .invokevirtual 465, 3, 163, 2, 14, 80037), (12, .iinc 2 1, 3, 0, 0, 0, 0), (15, .goto (-13), 3, 2, 0, 0, 0), (18, .return_, 1, 0, 0, 0, 0)]
/-- 172: SpeakClockModel.are(II)I -/
def cd_M_are : List mE := [(0, .iconst 0, 1, 0, 0, 0, 0), (1, .istore_n 3, 1, 0, 0, 0, 0), (2, .iconst 0, 1, 0, 0, 0, 0), (3, .istore 4, 2, 0, 0, 0, 0), (5, .nop, 0, 31, 0, 0, 0), (5, .iload 4, 2, 0, 0, 0, 0), (7, .aload_n 0, 1, 0, 0, 0, 0), (8, .getfield 243, 3, 14, 14, 0, 60030), (11, .if_icmp .ge 33, 3, 44, 0, 0, 0), (14, .iload_n 3, 1, 0, 0, 0, 0), (15, .aload_n 0, 1, 0, 0, 0, 0), (16, .getfield 124, 3, 14, 63, 2, 60079), (19, .bipush 6, 2, 0, 0, 0, 6), (21, .iload_n 1, 1, 0, 0, 0, 0), (22, .imul, 1, 0, 0, 0, 0), (23, .iload 4, 2, 0, 0, 0, 0), (25, .iadd, 1, 0, 0, 0, 0), (26, .iaload, 1, 0, 0, 0, 0), (27, .iload_n 2, 1, 0, 0, 0, 0), (28, .if_icmp .ne 7, 3, 35, 0, 0, 0), (31, .iconst 1, 1, 0, 0, 0, 1), (32, .goto 4, 3, 36, 0, 0, 0), (35, .iconst 0, 1, 0, 0, 0, 0), (36, .nop, 0, 23, 0, 0, 0), (36, .iadd, 1, 0, 0, 0, 0), (37, .istore_n 3, 1, 0, 0, 0, 0), (38, .iinc 4 1, 3, 0, 0, 0, 0), (41, .goto (-36), 3, 5, 0, 0, 0), (44, .iload_n 3, 1, 0, 0, 0, 0), (45, .ireturn, 1, 0, 0, 0, 0)]
/-- 173: SpeakClockModel.ahead(III)I -/
def cd_M_ahead : List mE := [(0, .aload_n 0, 1, 0, 0, 0, 0), (1, .iconst 0, 1, 0, 0, 0, 0), (2, .putfield 157, 3, 14, 2, 0, 60018), (5, .iload_n 1, 1, 0, 0, 0, 0), (6, .iconst 0, 1, 0, 0, 0, 0), (7, .sipush 200, 3, 0, 0, 0, 200), (10, .invokestatic 202, 3, 67, 3, 14, 70088), (13, .ifCond .eq 25, 3, 38, 0, 0, 0), (16, .iload_n 2, 1, 0, 0, 0, 0), (17, .iconst 0, 1, 0, 0, 0, 0), (18, .iconst 3, 1, 0, 0, 0, 3), (19, .invokestatic 202, 3, 67, 3, 14, 70088), (22, .ifCond .eq 16, 3, 38, 0, 0, 0), (25, .iload_n 2, 1, 0, 0, 0, 0), (26, .iconst 2, 1, 0, 0, 0, 2), (27, .if_icmp .ne 15, 3, 42, 0, 0, 0), (30, .aload_n 0, 1, 0, 0, 0, 0), (31, .iload_n 3, 1, 0, 0, 0, 0), (32, .invokevirtual 468, 3, 99, 2, 14, 70174), (35, .ifCond .ne 7, 3, 42, 0, 0, 0), (38, .nop, 0, 0, 0, 0, 0), (38, .ldc_w 480, 3, 70198, 0, 0, (-2147483648)), (41, .ireturn, 1, 0, 0, 0, 0), (42, .nop, 0, 15, 0, 0, 0), (42, .aload_n 0, 1, 0, 0, 0, 0), (43, .invokevirtual 489, 3, 170, 1, 14, 80088), (46, .aload_n 0, 1, 0, 0, 0, 0), (47, .iload_n 1, 1, 0, 0, 0, 0), (48, .invokevirtual 492, 3, 171, 2, 14, 80092), (51, .iload_n 2, 1, 0, 0, 0, 0), (52, .tableswitch 66 0 2 #[28, 42, 56], 28, 118, 12, 0, 0), (80, .aload_n 0, 1, 0, 0, 0, 0), (81, .iconst 1, 1, 0, 0, 0, 1), (82, .iconst 1, 1, 0, 0, 0, 1), (83, .invokevirtual 495, 3, 172, 3, 14, 80096), (86, .aload_n 0, 1, 0, 0, 0, 0), (87, .iconst 0, 1, 0, 0, 0, 0), (88, .iconst 1, 1, 0, 0, 0, 1), (89, .invokevirtual 495, 3, 172, 3, 14, 80096), (92, .isub, 1, 0, 0, 0, 0), (93, .ireturn, 1, 0, 0, 0, 0), (94, .aload_n 0, 1, 0, 0, 0, 0), (95, .iconst 1, 1, 0, 0, 0, 1), (96, .iconst 2, 1, 0, 0, 0, 2), (97, .invokevirtual 495, 3, 172, 3, 14, 80096), (100, .aload_n 0, 1, 0, 0, 0, 0), (101, .iconst 0, 1, 0, 0, 0, 0), (102, .iconst 2, 1, 0, 0, 0, 2), (103, .invokevirtual 495, 3, 172, 3, 14, 80096), (106, .isub, 1, 0, 0, 0, 0), (107, .ireturn, 1, 0, 0, 0, 0), (108, .aload_n 0, 1, 0, 0, 0, 0), (109, .getfield 100, 3, 14, 55, 2, 60071), (112, .bipush 6, 2, 0, 0, 0, 6), (114, .iload_n 3, 1, 0, 0, 0, 0), (115, .iadd, 1, 0, 0, 0, 0), (116, .iaload, 1, 0, 0, 0, 0), (117, .ireturn, 1, 0, 0, 0, 0), (118, .aload_n 0, 1, 0, 0, 0, 0), (119, .getfield 109, 3, 14, 58, 2, 60074), (122, .iconst 1, 1, 0, 0, 0, 1), (123, .iaload, 1, 0, 0, 0, 0), (124, .ireturn, 1, 0, 0, 0, 0)]
/-- 174: SpeakClock.minutesTillTold(I)I -/
def cd_C_minutesTillTold : List mE := [(0, .aload_n 0, 1, 0, 0, 0, 0), (1, .getfield 39, 3, 13, 4, 2, 30023), (4, .getfield 146, 3, 4, 2, 2, 20096), (7, .iload_n 1, 1, 0, 0, 0, 0), (8, .iaload, 1, 0, 0, 0, 0), (9, .istore_n 2, 1, 0, 0, 0, 0), (10, .iconst 1, 1, 0, 0, 0, 1), (11, .istore_n 3, 1, 0, 0, 0, 0), (12, .nop, 0, 15, 0, 0, 0), (12, .iload_n 3, 1, 0, 0, 0, 0), (13, .bipush 99, 2, 0, 0, 0, 99), (15, .if_icmp .gt 35, 3, 50, 0, 0, 0), (18, .aload_n 0, 1, 0, 0, 0, 0), (19, .getfield 48, 3, 13, 6, 2, 30025), (22, .aload_n 0, 1, 0, 0, 0, 0), (23, .getfield 39, 3, 13, 4, 2, 30023), (26, .invokevirtual 216, 3, 151, 2, 12, 40091), (29, .aload_n 0, 1, 0, 0, 0, 0), (30, .getfield 39, 3, 13, 4, 2, 30023), (33, .getfield 146, 3, 4, 2, 2, 20096), (36, .iload_n 1, 1, 0, 0, 0, 0), (37, .iaload, 1, 0, 0, 0, 0), (38, .iload_n 2, 1, 0, 0, 0, 0), (39, .if_icmp .le 5, 3, 44, 0, 0, 0), (42, .iload_n 3, 1, 0, 0, 0, 0), (43, .ireturn, 1, 0, 0, 0, 0), (44, .iinc 3 1, 3, 0, 0, 0, 0), (47, .goto (-35), 3, 12, 0, 0, 0), (50, .bipush (-2), 2, 0, 0, 0, (-2)), (52, .ireturn, 1, 0, 0, 0, 0)]
/-- 175: SpeakClock.delay(I)I -/
def cd_C_delay : List mE := [(0, .aload_n 0, 1, 0, 0, 0, 0), (1, .iload_n 1, 1, 0, 0, 0, 0), (2, .invokevirtual 117, 3, 94, 2, 13, 40012), (5, .ifCond .ne 5, 3, 10, 0, 0, 0), (8, .iconst (-1), 1, 0, 0, 0, (-1)), (9, .ireturn, 1, 0, 0, 0, 0), (10, .aload_n 0, 1, 0, 0, 0, 0), (11, .invokevirtual 220, 3, 166, 1, 13, 40164), (14, .aload_n 0, 1, 0, 0, 0, 0), (15, .getfield 39, 3, 13, 4, 2, 30023), (18, .iload_n 1, 1, 0, 0, 0, 0), (19, .invokevirtual 197, 3, 124, 2, 4, 40050), (22, .pop, 1, 0, 0, 0, 0), (23, .aload_n 0, 1, 0, 0, 0, 0), (24, .iload_n 1, 1, 0, 0, 0, 0), (25, .invokevirtual 229, 3, 174, 2, 13, 40185), (28, .ireturn, 1, 0, 0, 0, 0)]
/-- 176: SpeakClockModel.toldBy(I)I -/
def cd_M_toldBy : List mE := [(0, .aload_n 0, 1, 0, 0, 0, 0), (1, .getfield 103, 3, 14, 56, 2, 60072), (4, .bipush 6, 2, 0, 0, 0, 6), (6, .iload_n 1, 1, 0, 0, 0, 0), (7, .iadd, 1, 0, 0, 0, 0), (8, .iaload, 1, 0, 0, 0, 0), (9, .istore_n 2, 1, 0, 0, 0, 0), (10, .iconst 1, 1, 0, 0, 0, 1), (11, .istore_n 3, 1, 0, 0, 0, 0), (12, .nop, 0, 15, 0, 0, 0), (12, .iload_n 3, 1, 0, 0, 0, 0), (13, .bipush 99, 2, 0, 0, 0, 99), (15, .if_icmp .gt 29, 3, 44, 0, 0, 0), (18, .aload_n 0, 1, 0, 0, 0, 0), (19, .iconst 1, 1, 0, 0, 0, 1), (20, .invokevirtual 465, 3, 163, 2, 14, 80037), (23, .aload_n 0, 1, 0, 0, 0, 0), (24, .getfield 103, 3, 14, 56, 2, 60072), (27, .bipush 6, 2, 0, 0, 0, 6), (29, .iload_n 1, 1, 0, 0, 0, 0), (30, .iadd, 1, 0, 0, 0, 0), (31, .iaload, 1, 0, 0, 0, 0), (32, .iload_n 2, 1, 0, 0, 0, 0), (33, .if_icmp .le 5, 3, 38, 0, 0, 0), (36, .iload_n 3, 1, 0, 0, 0, 0), (37, .ireturn, 1, 0, 0, 0, 0), (38, .iinc 3 1, 3, 0, 0, 0, 0), (41, .goto (-29), 3, 12, 0, 0, 0), (44, .bipush (-2), 2, 0, 0, 0, (-2)), (46, .ireturn, 1, 0, 0, 0, 0)]
/-- 177: SpeakClockModel.delay(I)I -/
def cd_M_delay : List mE := [(0, .aload_n 0, 1, 0, 0, 0, 0), (1, .iconst 0, 1, 0, 0, 0, 0), (2, .putfield 157, 3, 14, 2, 0, 60018), (5, .aload_n 0, 1, 0, 0, 0, 0), (6, .iload_n 1, 1, 0, 0, 0, 0), (7, .invokevirtual 468, 3, 99, 2, 14, 70174), (10, .ifCond .ne 5, 3, 15, 0, 0, 0), (13, .iconst (-1), 1, 0, 0, 0, (-1)), (14, .ireturn, 1, 0, 0, 0, 0), (15, .aload_n 0, 1, 0, 0, 0, 0), (16, .invokevirtual 489, 3, 170, 1, 14, 80088), (19, .aload_n 0, 1, 0, 0, 0, 0), (20, .iconst 1, 1, 0, 0, 0, 1), (21, .iload_n 1, 1, 0, 0, 0, 0), (22, .invokevirtual 447, 3, 129, 3, 14, 80009), (25, .pop, 1, 0, 0, 0, 0), (26, .aload_n 0, 1, 0, 0, 0, 0), (27, .iload_n 1, 1, 0, 0, 0, 0), (28, .invokevirtual 498, 3, 176, 2, 14, 80104), (31, .ireturn, 1, 0, 0, 0, 0)]
/-- 178: SpeakClock.bestRing(III)I -/
def cd_C_bestRing : List mE := [(0, .aload_n 0, 1, 0, 0, 0, 0), (1, .iload_n 1, 1, 0, 0, 0, 0), (2, .invokevirtual 117, 3, 94, 2, 13, 40012), (5, .ifCond .eq 22, 3, 27, 0, 0, 0), (8, .iload_n 2, 1, 0, 0, 0, 0), (9, .ifCond .lt 18, 3, 27, 0, 0, 0), (12, .iload_n 2, 1, 0, 0, 0, 0), (13, .bipush 60, 2, 0, 0, 0, 60), (15, .if_icmp .gt 12, 3, 27, 0, 0, 0), (18, .iload_n 3, 1, 0, 0, 0, 0), (19, .ifCond .lt 8, 3, 27, 0, 0, 0), (22, .iload_n 3, 1, 0, 0, 0, 0), (23, .iconst 1, 1, 0, 0, 0, 1), (24, .if_icmp .le 5, 3, 29, 0, 0, 0), (27, .nop, 0, 0, 0, 0, 0), (27, .iconst (-1), 1, 0, 0, 0, (-1)), (28, .ireturn, 1, 0, 0, 0, 0), (29, .aload_n 0, 1, 0, 0, 0, 0), (30, .getfield 48, 3, 13, 6, 2, 30025), (33, .iconst 0, 1, 0, 0, 0, 0), (34, .invokevirtual 186, 3, 110, 2, 12, 40022), (37, .aload_n 0, 1, 0, 0, 0, 0), (38, .getfield 42, 3, 13, 5, 2, 30024), (41, .aload_n 0, 1, 0, 0, 0, 0), (42, .getfield 32, 3, 13, 2, 2, 30021), (45, .invokevirtual 232, 3, 165, 2, 4, 40168), (48, .bipush (-2), 2, 0, 0, 0, (-2)), (50, .istore 4, 2, 0, 0, 0, 0), (52, .bipush 100, 2, 0, 0, 0, 100), (54, .istore 5, 2, 0, 0, 0, 0), (56, .iconst 0, 1, 0, 0, 0, 0), (57, .istore 6, 2, 0, 0, 0, 0), (59, .nop, 0, 127, 0, 0, 0), (59, .iload 6, 2, 0, 0, 0, 0), (61, .iload_n 2, 1, 0, 0, 0, 0), (62, .if_icmp .gt 71, 3, 133, 0, 0, 0), (65, .aload_n 0, 1, 0, 0, 0, 0), (66, .getfield 39, 3, 13, 4, 2, 30023), (69, .aload_n 0, 1, 0, 0, 0, 0), (70, .getfield 42, 3, 13, 5, 2, 30024), (73, .invokevirtual 232, 3, 165, 2, 4, 40168), (76, .aload_n 0, 1, 0, 0, 0, 0), (77, .getfield 39, 3, 13, 4, 2, 30023), (80, .iload_n 1, 1, 0, 0, 0, 0), (81, .invokevirtual 197, 3, 124, 2, 4, 40050), (84, .ifCond .eq 32, 3, 116, 0, 0, 0), (87, .aload_n 0, 1, 0, 0, 0, 0), (88, .iload_n 1, 1, 0, 0, 0, 0), (89, .invokevirtual 229, 3, 174, 2, 13, 40185), (92, .istore 7, 2, 0, 0, 0, 0), (94, .iload 7, 2, 0, 0, 0, 0), (96, .bipush (-2), 2, 0, 0, 0, (-2)), (98, .if_icmp .eq 18, 3, 116, 0, 0, 0), (101, .iload 7, 2, 0, 0, 0, 0), (103, .iload 5, 2, 0, 0, 0, 0), (105, .if_icmp .ge 11, 3, 116, 0, 0, 0), (108, .iload 7, 2, 0, 0, 0, 0), (110, .istore 5, 2, 0, 0, 0, 0), (112, .iload 6, 2, 0, 0, 0, 0), (114, .istore 4, 2, 0, 0, 0, 0), (116, .nop, 0, 127, 0, 0, 0), (116, .aload_n 0, 1, 0, 0, 0, 0), (117, .getfield 48, 3, 13, 6, 2, 30025), (120, .aload_n 0, 1, 0, 0, 0, 0), (121, .getfield 42, 3, 13, 5, 2, 30024), (124, .invokevirtual 216, 3, 151, 2, 12, 40091), (127, .iinc 6 1, 3, 0, 0, 0, 0), (130, .goto (-71), 3, 59, 0, 0, 0), (133, .iload_n 3, 1, 0, 0, 0, 0), (134, .ifCond .eq 10, 3, 144, 0, 0, 0), (137, .iload 4, 2, 0, 0, 0, 0), (139, .bipush (-2), 2, 0, 0, 0, (-2)), (141, .if_icmp .ne 8, 3, 149, 0, 0, 0), (144, .nop, 0, 16, 0, 0, 0), (144, .iload 4, 2, 0, 0, 0, 0), (146, .goto 5, 3, 151, 0, 0, 0), (149, .iload 5, 2, 0, 0, 0, 0), (151, .nop, 0, 0, 0, 0, 0), (151, .ireturn, 1, 0, 0, 0, 0)]
/-- 179: SpeakClockModel.bestRing(III)I -/
def cd_M_bestRing : List mE := [(0, .aload_n 0, 1, 0, 0, 0, 0), (1, .iconst 0, 1, 0, 0, 0, 0), (2, .putfield 157, 3, 14, 2, 0, 60018), (5, .aload_n 0, 1, 0, 0, 0, 0), (6, .iload_n 1, 1, 0, 0, 0, 0), (7, .invokevirtual 468, 3, 99, 2, 14, 70174), (10, .ifCond .eq 22, 3, 32, 0, 0, 0), (13, .iload_n 2, 1, 0, 0, 0, 0), (14, .iconst 0, 1, 0, 0, 0, 0), (15, .bipush 60, 2, 0, 0, 0, 60), (17, .invokestatic 202, 3, 67, 3, 14, 70088), (20, .ifCond .eq 12, 3, 32, 0, 0, 0), (23, .iload_n 3, 1, 0, 0, 0, 0), (24, .iconst 0, 1, 0, 0, 0, 0), (25, .iconst 1, 1, 0, 0, 0, 1), (26, .invokestatic 202, 3, 67, 3, 14, 70088), (29, .ifCond .ne 5, 3, 34, 0, 0, 0), (32, .nop, 0, 0, 0, 0, 0), (32, .iconst (-1), 1, 0, 0, 0, (-1)), (33, .ireturn, 1, 0, 0, 0, 0), (34, .bipush (-2), 2, 0, 0, 0, (-2)), (36, .istore 4, 2, 0, 0, 0, 0), (38, .bipush (-2), 2, 0, 0, 0, (-2)), (40, .istore 5, 2, 0, 0, 0, 0), (42, .iconst 0, 1, 0, 0, 0, 0), (43, .istore 6, 2, 0, 0, 0, 0), (45, .nop, 0, 127, 0, 0, 0), (45, .iload 6, 2, 0, 0, 0, 0), (47, .iload_n 2, 1, 0, 0, 0, 0), (48, .if_icmp .gt 66, 3, 114, 0, 0, 0), (51, .aload_n 0, 1, 0, 0, 0, 0), (52, .invokevirtual 489, 3, 170, 1, 14, 80088), (55, .aload_n 0, 1, 0, 0, 0, 0), (56, .iload 6, 2, 0, 0, 0, 0), (58, .invokevirtual 492, 3, 171, 2, 14, 80092), (61, .aload_n 0, 1, 0, 0, 0, 0), (62, .iconst 1, 1, 0, 0, 0, 1), (63, .iload_n 1, 1, 0, 0, 0, 0), (64, .invokevirtual 447, 3, 129, 3, 14, 80009), (67, .ifCond .ne 6, 3, 73, 0, 0, 0), (70, .goto 38, 3, 108, 0, 0, 0), (73, .aload_n 0, 1, 0, 0, 0, 0), (74, .iload_n 1, 1, 0, 0, 0, 0), (75, .invokevirtual 498, 3, 176, 2, 14, 80104), (78, .istore 7, 2, 0, 0, 0, 0), (80, .iload 7, 2, 0, 0, 0, 0), (82, .ifCond .lt 26, 3, 108, 0, 0, 0), (85, .iload 4, 2, 0, 0, 0, 0), (87, .ifCond .lt 13, 3, 100, 0, 0, 0), (90, .iload 7, 2, 0, 0, 0, 0), (92, .iload 5, 2, 0, 0, 0, 0), (94, .if_icmp .lt 6, 3, 100, 0, 0, 0), (97, .goto 11, 3, 108, 0, 0, 0), (100, .nop, 0, 207, 0, 0, 0), (100, .iload 6, 2, 0, 0, 0, 0), (102, .istore 4, 2, 0, 0, 0, 0), (104, .iload 7, 2, 0, 0, 0, 0), (106, .istore 5, 2, 0, 0, 0, 0), (108, .nop, 0, 127, 0, 0, 0), (108, .iinc 6 1, 3, 0, 0, 0, 0), (111, .goto (-66), 3, 45, 0, 0, 0), (114, .aload_n 0, 1, 0, 0, 0, 0), (115, .invokevirtual 366, 3, 13, 1, 14, 60012), (118, .iload_n 3, 1, 0, 0, 0, 0), (119, .ifCond .ne 8, 3, 127, 0, 0, 0), (122, .iload 4, 2, 0, 0, 0, 0), (124, .goto 5, 3, 129, 0, 0, 0), (127, .iload 5, 2, 0, 0, 0, 0), (129, .nop, 0, 0, 0, 0, 0), (129, .ireturn, 1, 0, 0, 0, 0)]
/-- 180: java/lang/Integer.bitCount(I)I -/
def cd_J_bitCount : List mE := [(0, .iload_n 0, 1, 0, 0, 0, 0), (1, .iload_n 0, 1, 0, 0, 0, 0), (2, .iconst 1, 1, 0, 0, 0, 1), (3, .iushr, 1, 0, 0, 0, 0), (4, .ldc_w 265, 3, 40200, 0, 0, 1431655765), (7, .iand, 1, 0, 0, 0, 0), (8, .isub, 1, 0, 0, 0, 0), (9, .istore_n 0, 1, 0, 0, 0, 0), (10, .iload_n 0, 1, 0, 0, 0, 0), (11, .ldc_w 266, 3, 40201, 0, 0, 858993459), (14, .iand, 1, 0, 0, 0, 0), (15, .iload_n 0, 1, 0, 0, 0, 0), (16, .iconst 2, 1, 0, 0, 0, 2), (17, .iushr, 1, 0, 0, 0, 0), (18, .ldc_w 266, 3, 40201, 0, 0, 858993459), (21, .iand, 1, 0, 0, 0, 0), (22, .iadd, 1, 0, 0, 0, 0), (23, .istore_n 0, 1, 0, 0, 0, 0), (24, .iload_n 0, 1, 0, 0, 0, 0), (25, .iload_n 0, 1, 0, 0, 0, 0), (26, .iconst 4, 1, 0, 0, 0, 4), (27, .iushr, 1, 0, 0, 0, 0), (28, .iadd, 1, 0, 0, 0, 0), (29, .ldc_w 267, 3, 40202, 0, 0, 252645135), (32, .iand, 1, 0, 0, 0, 0), (33, .istore_n 0, 1, 0, 0, 0, 0), (34, .iload_n 0, 1, 0, 0, 0, 0), (35, .iload_n 0, 1, 0, 0, 0, 0), (36, .bipush 8, 2, 0, 0, 0, 8), (38, .iushr, 1, 0, 0, 0, 0), (39, .iadd, 1, 0, 0, 0, 0), (40, .istore_n 0, 1, 0, 0, 0, 0), (41, .iload_n 0, 1, 0, 0, 0, 0), (42, .iload_n 0, 1, 0, 0, 0, 0), (43, .bipush 16, 2, 0, 0, 0, 16), (45, .iushr, 1, 0, 0, 0, 0), (46, .iadd, 1, 0, 0, 0, 0), (47, .istore_n 0, 1, 0, 0, 0, 0), (48, .iload_n 0, 1, 0, 0, 0, 0), (49, .bipush 63, 2, 0, 0, 0, 63), (51, .iand, 1, 0, 0, 0, 0), (52, .ireturn, 1, 0, 0, 0, 0)]
/-- 181: SpeakClock$Day.spread(I)I -/
def cd_Day_spread : List mE := [(0, .iconst 0, 1, 0, 0, 0, 0), (1, .istore_n 2, 1, 0, 0, 0, 0), (2, .iconst 0, 1, 0, 0, 0, 0), (3, .istore_n 3, 1, 0, 0, 0, 0), (4, .iconst 0, 1, 0, 0, 0, 0), (5, .istore 4, 2, 0, 0, 0, 0), (7, .iconst 0, 1, 0, 0, 0, 0), (8, .istore 5, 2, 0, 0, 0, 0), (10, .nop, 0, 63, 0, 0, 0), (10, .iload 5, 2, 0, 0, 0, 0), (12, .aload_n 0, 1, 0, 0, 0, 0), (13, .getfield 36, 3, 4, 8, 0, 20112), (16, .if_icmp .ge 75, 3, 91, 0, 0, 0), (19, .iload_n 1, 1, 0, 0, 0, 0), (20, .iload 5, 2, 0, 0, 0, 0), (22, .ishr, 1, 0, 0, 0, 0), (23, .iconst 1, 1, 0, 0, 0, 1), (24, .iand, 1, 0, 0, 0, 0), (25, .iconst 1, 1, 0, 0, 0, 1), (26, .if_icmp .ne 59, 3, 85, 0, 0, 0), (29, .iload_n 2, 1, 0, 0, 0, 0), (30, .ifCond .eq 17, 3, 47, 0, 0, 0), (33, .iload_n 3, 1, 0, 0, 0, 0), (34, .aload_n 0, 1, 0, 0, 0, 0), (35, .getfield 9, 3, 4, 0, 2, 20087), (38, .iload 5, 2, 0, 0, 0, 0), (40, .iaload, 1, 0, 0, 0, 0), (41, .invokestatic 87, 3, 1001, 2, 0, 40211), (44, .goto 10, 3, 54, 0, 0, 0), (47, .aload_n 0, 1, 0, 0, 0, 0), (48, .getfield 9, 3, 4, 0, 2, 20087), (51, .iload 5, 2, 0, 0, 0, 0), (53, .iaload, 1, 0, 0, 0, 0), (54, .nop, 0, 55, 0, 0, 0), (54, .istore_n 3, 1, 0, 0, 0, 0), (55, .iload_n 2, 1, 0, 0, 0, 0), (56, .ifCond .eq 18, 3, 74, 0, 0, 0), (59, .iload 4, 2, 0, 0, 0, 0), (61, .aload_n 0, 1, 0, 0, 0, 0), (62, .getfield 9, 3, 4, 0, 2, 20087), (65, .iload 5, 2, 0, 0, 0, 0), (67, .iaload, 1, 0, 0, 0, 0), (68, .invokestatic 93, 3, 1000, 2, 0, 40212), (71, .goto 10, 3, 81, 0, 0, 0), (74, .aload_n 0, 1, 0, 0, 0, 0), (75, .getfield 9, 3, 4, 0, 2, 20087), (78, .iload 5, 2, 0, 0, 0, 0), (80, .iaload, 1, 0, 0, 0, 0), (81, .nop, 0, 43, 0, 0, 0), (81, .istore 4, 2, 0, 0, 0, 0), (83, .iconst 1, 1, 0, 0, 0, 1), (84, .istore_n 2, 1, 0, 0, 0, 0), (85, .nop, 0, 63, 0, 0, 0), (85, .iinc 5 1, 3, 0, 0, 0, 0), (88, .goto (-78), 3, 10, 0, 0, 0), (91, .iload 4, 2, 0, 0, 0, 0), (93, .iload_n 3, 1, 0, 0, 0, 0), (94, .isub, 1, 0, 0, 0, 0), (95, .ireturn, 1, 0, 0, 0, 0)]
/-- 182: SpeakClock.spreadIfRinging(I)I -/
def cd_C_spreadIfRinging : List mE := [(0, .aload_n 0, 1, 0, 0, 0, 0), (1, .invokevirtual 220, 3, 166, 1, 13, 40164), (4, .iconst 0, 1, 0, 0, 0, 0), (5, .istore_n 2, 1, 0, 0, 0, 0), (6, .nop, 0, 7, 0, 0, 0), (6, .iload_n 2, 1, 0, 0, 0, 0), (7, .aload_n 0, 1, 0, 0, 0, 0), (8, .getfield 70, 3, 13, 9, 2, 30028), (11, .getfield 235, 3, 9, 13, 0, 10230), (14, .if_icmp .ge 27, 3, 41, 0, 0, 0), (17, .iload_n 1, 1, 0, 0, 0, 0), (18, .iload_n 2, 1, 0, 0, 0, 0), (19, .ishr, 1, 0, 0, 0, 0), (20, .iconst 1, 1, 0, 0, 0, 1), (21, .iand, 1, 0, 0, 0, 0), (22, .iconst 1, 1, 0, 0, 0, 1), (23, .if_icmp .ne 12, 3, 35, 0, 0, 0), (26, .aload_n 0, 1, 0, 0, 0, 0), (27, .getfield 39, 3, 13, 4, 2, 30023), (30, .iload_n 2, 1, 0, 0, 0, 0), (31, .invokevirtual 197, 3, 124, 2, 4, 40050), (34, .pop, 1, 0, 0, 0, 0), (35, .nop, 0, 7, 0, 0, 0), (35, .iinc 2 1, 3, 0, 0, 0, 0), (38, .goto (-32), 3, 6, 0, 0, 0), (41, .iconst 0, 1, 0, 0, 0, 0), (42, .istore_n 2, 1, 0, 0, 0, 0), (43, .nop, 0, 5, 0, 0, 0), (43, .iload_n 2, 1, 0, 0, 0, 0), (44, .bipush 60, 2, 0, 0, 0, 60), (46, .if_icmp .ge 20, 3, 66, 0, 0, 0), (49, .aload_n 0, 1, 0, 0, 0, 0), (50, .getfield 48, 3, 13, 6, 2, 30025), (53, .aload_n 0, 1, 0, 0, 0, 0), (54, .getfield 39, 3, 13, 4, 2, 30023), (57, .invokevirtual 216, 3, 151, 2, 12, 40091), (60, .iinc 2 1, 3, 0, 0, 0, 0), (63, .goto (-20), 3, 43, 0, 0, 0), (66, .aload_n 0, 1, 0, 0, 0, 0), (67, .getfield 39, 3, 13, 4, 2, 30023), (70, .iconst 1, 1, 0, 0, 0, 1), (71, .aload_n 0, 1, 0, 0, 0, 0), (72, .getfield 70, 3, 13, 9, 2, 30028), (75, .getfield 235, 3, 9, 13, 0, 10230), (78, .ishl, 1, 0, 0, 0, 0), (79, .iconst 1, 1, 0, 0, 0, 1), (80, .isub, 1, 0, 0, 0, 0), (81, .invokevirtual 244, 3, 181, 2, 4, 40207), (84, .ireturn, 1, 0, 0, 0, 0)]
/-- 183: SpeakClock.near(I)I -/
def cd_C_near : List mE := [(0, .iload_n 1, 1, 0, 0, 0, 0), (1, .ifCond .lt 9, 3, 10, 0, 0, 0), (4, .iload_n 1, 1, 0, 0, 0, 0), (5, .bipush 60, 2, 0, 0, 0, 60), (7, .if_icmp .le 5, 3, 12, 0, 0, 0), (10, .nop, 0, 0, 0, 0, 0), (10, .iconst (-1), 1, 0, 0, 0, (-1)), (11, .ireturn, 1, 0, 0, 0, 0), (12, .iconst 1, 1, 0, 0, 0, 1), (13, .aload_n 0, 1, 0, 0, 0, 0), (14, .getfield 70, 3, 13, 9, 2, 30028), (17, .getfield 235, 3, 9, 13, 0, 10230), (20, .ishl, 1, 0, 0, 0, 0), (21, .iconst 1, 1, 0, 0, 0, 1), (22, .isub, 1, 0, 0, 0, 0), (23, .istore_n 2, 1, 0, 0, 0, 0), (24, .iconst 0, 1, 0, 0, 0, 0), (25, .istore_n 3, 1, 0, 0, 0, 0), (26, .nop, 0, 15, 0, 0, 0), (26, .iload_n 3, 1, 0, 0, 0, 0), (27, .aload_n 0, 1, 0, 0, 0, 0), (28, .getfield 70, 3, 13, 9, 2, 30028), (31, .getfield 235, 3, 9, 13, 0, 10230), (34, .if_icmp .gt 46, 3, 80, 0, 0, 0), (37, .iconst 0, 1, 0, 0, 0, 0), (38, .istore 4, 2, 0, 0, 0, 0), (40, .nop, 0, 31, 0, 0, 0), (40, .iload 4, 2, 0, 0, 0, 0), (42, .iload_n 2, 1, 0, 0, 0, 0), (43, .if_icmp .gt 31, 3, 74, 0, 0, 0), (46, .iload 4, 2, 0, 0, 0, 0), (48, .invokestatic 238, 3, 180, 1, 0, 40197), (51, .iload_n 3, 1, 0, 0, 0, 0), (52, .if_icmp .ne 16, 3, 68, 0, 0, 0), (55, .aload_n 0, 1, 0, 0, 0, 0), (56, .iload 4, 2, 0, 0, 0, 0), (58, .invokevirtual 241, 3, 182, 2, 13, 40203), (61, .iload_n 1, 1, 0, 0, 0, 0), (62, .if_icmp .gt 6, 3, 68, 0, 0, 0), (65, .iload 4, 2, 0, 0, 0, 0), (67, .ireturn, 1, 0, 0, 0, 0), (68, .nop, 0, 31, 0, 0, 0), (68, .iinc 4 1, 3, 0, 0, 0, 0), (71, .goto (-31), 3, 40, 0, 0, 0), (74, .iinc 3 1, 3, 0, 0, 0, 0), (77, .goto (-51), 3, 26, 0, 0, 0), (80, .bipush (-2), 2, 0, 0, 0, (-2)), (82, .ireturn, 1, 0, 0, 0, 0)]
/-- 184: SpeakClockModel.manyOf(I)I -/
def cd_M_manyOf : List mE := [(0, .iconst 0, 1, 0, 0, 0, 0), (1, .istore_n 1, 1, 0, 0, 0, 0), (2, .iconst 0, 1, 0, 0, 0, 0), (3, .istore_n 2, 1, 0, 0, 0, 0), (4, .nop, 0, 7, 0, 0, 0), (4, .iload_n 2, 1, 0, 0, 0, 0), (5, .bipush 6, 2, 0, 0, 0, 6), (7, .if_icmp .ge 17, 3, 24, 0, 0, 0), (10, .iload_n 1, 1, 0, 0, 0, 0), (11, .iload_n 0, 1, 0, 0, 0, 0), (12, .iload_n 2, 1, 0, 0, 0, 0), (13, .ishr, 1, 0, 0, 0, 0), (14, .iconst 1, 1, 0, 0, 0, 1), (15, .iand, 1, 0, 0, 0, 0), (16, .iadd, 1, 0, 0, 0, 0), (17, .istore_n 1, 1, 0, 0, 0, 0), (18, .iinc 2 1, 3, 0, 0, 0, 0), (21, .goto (-17), 3, 4, 0, 0, 0), (24, .iload_n 1, 1, 0, 0, 0, 0), (25, .ireturn, 1, 0, 0, 0, 0)]
/-- 185: SpeakClockModel.isOf(II)Z -/
def cd_M_isOf : List mE := [(0, .iload_n 0, 1, 0, 0, 0, 0), (1, .iload_n 1, 1, 0, 0, 0, 0), (2, .ishr, 1, 0, 0, 0, 0), (3, .iconst 1, 1, 0, 0, 0, 1), (4, .iand, 1, 0, 0, 0, 0), (5, .iconst 1, 1, 0, 0, 0, 1), (6, .if_icmp .ne 7, 3, 13, 0, 0, 0), (9, .iconst 1, 1, 0, 0, 0, 1), (10, .goto 4, 3, 14, 0, 0, 0), (13, .iconst 0, 1, 0, 0, 0, 0), (14, .nop, 0, 0, 0, 0, 0), (14, .ireturn, 1, 1, 0, 0, 0)]
/-- 186: SpeakClockModel.spread(II)I -/
def cd_M_spread : List mE := [(0, .iconst 0, 1, 0, 0, 0, 0), (1, .istore_n 3, 1, 0, 0, 0, 0), (2, .iconst 0, 1, 0, 0, 0, 0), (3, .istore 4, 2, 0, 0, 0, 0), (5, .iconst 0, 1, 0, 0, 0, 0), (6, .istore 5, 2, 0, 0, 0, 0), (8, .iconst 0, 1, 0, 0, 0, 0), (9, .istore 6, 2, 0, 0, 0, 0), (11, .nop, 0, 127, 0, 0, 0), (11, .iload 6, 2, 0, 0, 0, 0), (13, .aload_n 0, 1, 0, 0, 0, 0), (14, .getfield 237, 3, 14, 12, 0, 60028), (17, .if_icmp .ge 77, 3, 94, 0, 0, 0), (20, .iload_n 2, 1, 0, 0, 0, 0), (21, .iload 6, 2, 0, 0, 0, 0), (23, .invokestatic 501, 3, 185, 2, 14, 80119), (26, .ifCond .eq 6, 3, 32, 0, 0, 0), (29, .goto 59, 3, 88, 0, 0, 0), (32, .aload_n 0, 1, 0, 0, 0, 0), (33, .getfield 100, 3, 14, 55, 2, 60071), (36, .bipush 6, 2, 0, 0, 0, 6), (38, .iload_n 1, 1, 0, 0, 0, 0), (39, .imul, 1, 0, 0, 0, 0), (40, .iload 6, 2, 0, 0, 0, 0), (42, .iadd, 1, 0, 0, 0, 0), (43, .iaload, 1, 0, 0, 0, 0), (44, .istore 7, 2, 0, 0, 0, 0), (46, .iload_n 3, 1, 0, 0, 0, 0), (47, .ifCond .eq 10, 3, 57, 0, 0, 0), (50, .iload 7, 2, 0, 0, 0, 0), (52, .iload 4, 2, 0, 0, 0, 0), (54, .if_icmp .ge 8, 3, 62, 0, 0, 0), (57, .nop, 0, 239, 0, 0, 0), (57, .iload 7, 2, 0, 0, 0, 0), (59, .goto 5, 3, 64, 0, 0, 0), (62, .iload 4, 2, 0, 0, 0, 0), (64, .nop, 0, 239, 0, 0, 0), (64, .istore 4, 2, 0, 0, 0, 0), (66, .iload_n 3, 1, 0, 0, 0, 0), (67, .ifCond .eq 10, 3, 77, 0, 0, 0), (70, .iload 7, 2, 0, 0, 0, 0), (72, .iload 5, 2, 0, 0, 0, 0), (74, .if_icmp .le 8, 3, 82, 0, 0, 0), (77, .nop, 0, 215, 0, 0, 0), (77, .iload 7, 2, 0, 0, 0, 0), (79, .goto 5, 3, 84, 0, 0, 0), (82, .iload 5, 2, 0, 0, 0, 0), (84, .nop, 0, 87, 0, 0, 0), (84, .istore 5, 2, 0, 0, 0, 0), (86, .iconst 1, 1, 0, 0, 0, 1), (87, .istore_n 3, 1, 0, 0, 0, 0), (88, .nop, 0, 127, 0, 0, 0), (88, .iinc 6 1, 3, 0, 0, 0, 0), (91, .goto (-80), 3, 11, 0, 0, 0), (94, .iload 5, 2, 0, 0, 0, 0), (96, .iload 4, 2, 0, 0, 0, 0), (98, .isub, 1, 0, 0, 0, 0), (99, .ireturn, 1, 0, 0, 0, 0)]
/-- 187: SpeakClockModel.near(I)I -/
def cd_M_near : List mE := [(0, .aload_n 0, 1, 0, 0, 0, 0), (1, .iconst 0, 1, 0, 0, 0, 0), (2, .putfield 157, 3, 14, 2, 0, 60018), (5, .iload_n 1, 1, 0, 0, 0, 0), (6, .iconst 0, 1, 0, 0, 0, 0), (7, .bipush 60, 2, 0, 0, 0, 60), (9, .invokestatic 202, 3, 67, 3, 14, 70088), (12, .ifCond .ne 5, 3, 17, 0, 0, 0), (15, .iconst (-1), 1, 0, 0, 0, (-1)), (16, .ireturn, 1, 0, 0, 0, 0), (17, .bipush (-2), 2, 0, 0, 0, (-2)), (19, .istore_n 2, 1, 0, 0, 0, 0), (20, .iconst 0, 1, 0, 0, 0, 0), (21, .istore_n 3, 1, 0, 0, 0, 0), (22, .nop, 0, 15, 0, 0, 0), (22, .iload_n 3, 1, 0, 0, 0, 0), (23, .iconst 1, 1, 0, 0, 0, 1), (24, .aload_n 0, 1, 0, 0, 0, 0), (25, .getfield 237, 3, 14, 12, 0, 60028), (28, .ishl, 1, 0, 0, 0, 0), (29, .if_icmp .ge 84, 3, 113, 0, 0, 0), (32, .iload_n 2, 1, 0, 0, 0, 0), (33, .ifCond .lt 17, 3, 50, 0, 0, 0), (36, .iload_n 3, 1, 0, 0, 0, 0), (37, .invokestatic 504, 3, 184, 1, 14, 80116), (40, .iload_n 2, 1, 0, 0, 0, 0), (41, .invokestatic 504, 3, 184, 1, 14, 80116), (44, .if_icmp .lt 6, 3, 50, 0, 0, 0), (47, .goto 60, 3, 107, 0, 0, 0), (50, .nop, 0, 15, 0, 0, 0), (50, .aload_n 0, 1, 0, 0, 0, 0), (51, .invokevirtual 489, 3, 170, 1, 14, 80088), (54, .iconst 0, 1, 0, 0, 0, 0), (55, .istore 4, 2, 0, 0, 0, 0), (57, .nop, 0, 31, 0, 0, 0), (57, .iload 4, 2, 0, 0, 0, 0), (59, .aload_n 0, 1, 0, 0, 0, 0), (60, .getfield 237, 3, 14, 12, 0, 60028), (63, .if_icmp .ge 26, 3, 89, 0, 0, 0), (66, .iload_n 3, 1, 0, 0, 0, 0), (67, .iload 4, 2, 0, 0, 0, 0), (69, .invokestatic 501, 3, 185, 2, 14, 80119), (72, .ifCond .eq 11, 3, 83, 0, 0, 0), (75, .aload_n 0, 1, 0, 0, 0, 0), (76, .iconst 1, 1, 0, 0, 0, 1), (77, .iload 4, 2, 0, 0, 0, 0), (79, .invokevirtual 447, 3, 129, 3, 14, 80009), (82, .pop, 1, 0, 0, 0, 0), (83, .nop, 0, 31, 0, 0, 0), (83, .iinc 4 1, 3, 0, 0, 0, 0), (86, .goto (-29), 3, 57, 0, 0, 0), (89, .aload_n 0, 1, 0, 0, 0, 0), (90, .bipush 60, 2, 0, 0, 0, 60), (92, .invokevirtual 492, 3, 171, 2, 14, 80092), (95, .aload_n 0, 1, 0, 0, 0, 0), (96, .iconst 1, 1, 0, 0, 0, 1), (97, .iconst 0, 1, 0, 0, 0, 0), (98, .invokevirtual 507, 3, 186, 3, 14, 80122), (101, .iload_n 1, 1, 0, 0, 0, 0), (102, .if_icmp .gt 5, 3, 107, 0, 0, 0), (105, .iload_n 3, 1, 0, 0, 0, 0), (106, .istore_n 2, 1, 0, 0, 0, 0), (107, .nop, 0, 15, 0, 0, 0), (107, .iinc 3 1, 3, 0, 0, 0, 0), (110, .goto (-88), 3, 22, 0, 0, 0), (113, .iload_n 2, 1, 0, 0, 0, 0), (114, .ireturn, 1, 0, 0, 0, 0)]
/-- 188: SpeakClock.liars(I)I -/
def cd_C_liars : List mE := [(0, .iload_n 1, 1, 0, 0, 0, 0), (1, .ifCond .lt 9, 3, 10, 0, 0, 0), (4, .iload_n 1, 1, 0, 0, 0, 0), (5, .bipush 60, 2, 0, 0, 0, 60), (7, .if_icmp .le 5, 3, 12, 0, 0, 0), (10, .nop, 0, 0, 0, 0, 0), (10, .iconst (-1), 1, 0, 0, 0, (-1)), (11, .ireturn, 1, 0, 0, 0, 0), (12, .iconst 1, 1, 0, 0, 0, 1), (13, .aload_n 0, 1, 0, 0, 0, 0), (14, .getfield 70, 3, 13, 9, 2, 30028), (17, .getfield 235, 3, 9, 13, 0, 10230), (20, .ishl, 1, 0, 0, 0, 0), (21, .iconst 1, 1, 0, 0, 0, 1), (22, .isub, 1, 0, 0, 0, 0), (23, .istore_n 2, 1, 0, 0, 0, 0), (24, .iconst 0, 1, 0, 0, 0, 0), (25, .istore_n 3, 1, 0, 0, 0, 0), (26, .nop, 0, 15, 0, 0, 0), (26, .iload_n 3, 1, 0, 0, 0, 0), (27, .aload_n 0, 1, 0, 0, 0, 0), (28, .getfield 70, 3, 13, 9, 2, 30028), (31, .getfield 235, 3, 9, 13, 0, 10230), (34, .if_icmp .gt 53, 3, 87, 0, 0, 0), (37, .iconst 0, 1, 0, 0, 0, 0), (38, .istore 4, 2, 0, 0, 0, 0), (40, .nop, 0, 31, 0, 0, 0), (40, .iload 4, 2, 0, 0, 0, 0), (42, .iload_n 2, 1, 0, 0, 0, 0), (43, .if_icmp .gt 38, 3, 81, 0, 0, 0), (46, .iload 4, 2, 0, 0, 0, 0), (48, .invokestatic 238, 3, 180, 1, 0, 40197), (51, .iload_n 3, 1, 0, 0, 0, 0), (52, .if_icmp .ne 23, 3, 75, 0, 0, 0), (55, .aload_n 0, 1, 0, 0, 0, 0), (56, .getfield 32, 3, 13, 2, 2, 30021), (59, .iload_n 2, 1, 0, 0, 0, 0), (60, .iload 4, 2, 0, 0, 0, 0), (62, .iconst (-1), 1, 0, 0, 0, (-1)), (63, .ixor, 1, 0, 0, 0, 0), (64, .iand, 1, 0, 0, 0, 0), (65, .invokevirtual 244, 3, 181, 2, 4, 40207), (68, .iload_n 1, 1, 0, 0, 0, 0), (69, .if_icmp .gt 6, 3, 75, 0, 0, 0), (72, .iload 4, 2, 0, 0, 0, 0), (74, .ireturn, 1, 0, 0, 0, 0), (75, .nop, 0, 31, 0, 0, 0), (75, .iinc 4 1, 3, 0, 0, 0, 0), (78, .goto (-38), 3, 40, 0, 0, 0), (81, .iinc 3 1, 3, 0, 0, 0, 0), (84, .goto (-58), 3, 26, 0, 0, 0), (87, .iload_n 2, 1, 0, 0, 0, 0), (88, .ireturn, 1, 0, 0, 0, 0)]
/-- 189: SpeakClockModel.liars(I)I -/
def cd_M_liars : List mE := [(0, .aload_n 0, 1, 0, 0, 0, 0), (1, .iconst 0, 1, 0, 0, 0, 0), (2, .putfield 157, 3, 14, 2, 0, 60018), (5, .iload_n 1, 1, 0, 0, 0, 0), (6, .iconst 0, 1, 0, 0, 0, 0), (7, .bipush 60, 2, 0, 0, 0, 60), (9, .invokestatic 202, 3, 67, 3, 14, 70088), (12, .ifCond .ne 5, 3, 17, 0, 0, 0), (15, .iconst (-1), 1, 0, 0, 0, (-1)), (16, .ireturn, 1, 0, 0, 0, 0), (17, .iconst (-1), 1, 0, 0, 0, (-1)), (18, .istore_n 2, 1, 0, 0, 0, 0), (19, .iconst 0, 1, 0, 0, 0, 0), (20, .istore_n 3, 1, 0, 0, 0, 0), (21, .nop, 0, 15, 0, 0, 0), (21, .iload_n 3, 1, 0, 0, 0, 0), (22, .iconst 1, 1, 0, 0, 0, 1), (23, .aload_n 0, 1, 0, 0, 0, 0), (24, .getfield 237, 3, 14, 12, 0, 60028), (27, .ishl, 1, 0, 0, 0, 0), (28, .if_icmp .ge 39, 3, 67, 0, 0, 0), (31, .iload_n 2, 1, 0, 0, 0, 0), (32, .ifCond .lt 17, 3, 49, 0, 0, 0), (35, .iload_n 3, 1, 0, 0, 0, 0), (36, .invokestatic 504, 3, 184, 1, 14, 80116), (39, .iload_n 2, 1, 0, 0, 0, 0), (40, .invokestatic 504, 3, 184, 1, 14, 80116), (43, .if_icmp .lt 6, 3, 49, 0, 0, 0), (46, .goto 15, 3, 61, 0, 0, 0), (49, .nop, 0, 15, 0, 0, 0), (49, .aload_n 0, 1, 0, 0, 0, 0), (50, .iconst 0, 1, 0, 0, 0, 0), (51, .iload_n 3, 1, 0, 0, 0, 0), (52, .invokevirtual 507, 3, 186, 3, 14, 80122), (55, .iload_n 1, 1, 0, 0, 0, 0), (56, .if_icmp .gt 5, 3, 61, 0, 0, 0), (59, .iload_n 3, 1, 0, 0, 0, 0), (60, .istore_n 2, 1, 0, 0, 0, 0), (61, .nop, 0, 15, 0, 0, 0), (61, .iinc 3 1, 3, 0, 0, 0, 0), (64, .goto (-43), 3, 21, 0, 0, 0), (67, .iload_n 2, 1, 0, 0, 0, 0), (68, .ireturn, 1, 0, 0, 0, 0)]
/-- 190: SpeakClock$Day.howManySlower(I)I -/
def cd_Day_howManySlower : List mE := [(0, .iconst 0, 1, 0, 0, 0, 0), (1, .istore_n 2, 1, 0, 0, 0, 0), (2, .iconst 0, 1, 0, 0, 0, 0), (3, .istore_n 3, 1, 0, 0, 0, 0), (4, .nop, 0, 15, 0, 0, 0), (4, .iload_n 3, 1, 0, 0, 0, 0), (5, .aload_n 0, 1, 0, 0, 0, 0), (6, .getfield 36, 3, 4, 8, 0, 20112), (9, .if_icmp .ge 47, 3, 56, 0, 0, 0), (12, .aload_n 0, 1, 0, 0, 0, 0), (13, .getfield 9, 3, 4, 0, 2, 20087), (16, .iload_n 3, 1, 0, 0, 0, 0), (17, .iaload, 1, 0, 0, 0, 0), (18, .aload_n 0, 1, 0, 0, 0, 0), (19, .getfield 9, 3, 4, 0, 2, 20087), (22, .iload_n 1, 1, 0, 0, 0, 0), (23, .iaload, 1, 0, 0, 0, 0), (24, .if_icmp .lt 23, 3, 47, 0, 0, 0), (27, .aload_n 0, 1, 0, 0, 0, 0), (28, .getfield 9, 3, 4, 0, 2, 20087), (31, .iload_n 3, 1, 0, 0, 0, 0), (32, .iaload, 1, 0, 0, 0, 0), (33, .aload_n 0, 1, 0, 0, 0, 0), (34, .getfield 9, 3, 4, 0, 2, 20087), (37, .iload_n 1, 1, 0, 0, 0, 0), (38, .iaload, 1, 0, 0, 0, 0), (39, .if_icmp .ne 11, 3, 50, 0, 0, 0), (42, .iload_n 3, 1, 0, 0, 0, 0), (43, .iload_n 1, 1, 0, 0, 0, 0), (44, .if_icmp .ge 6, 3, 50, 0, 0, 0), (47, .nop, 0, 15, 0, 0, 0), (47, .iinc 2 1, 3, 0, 0, 0, 0), (50, .nop, 0, 15, 0, 0, 0), (50, .iinc 3 1, 3, 0, 0, 0, 0), (53, .goto (-49), 3, 4, 0, 0, 0), (56, .iload_n 2, 1, 0, 0, 0, 0), (57, .ireturn, 1, 0, 0, 0, 0)]
/-- 191: SpeakClock.median()I -/
def cd_C_median : List mE := [(0, .iconst 0, 1, 0, 0, 0, 0), (1, .istore_n 1, 1, 0, 0, 0, 0), (2, .nop, 0, 3, 0, 0, 0), (2, .iload_n 1, 1, 0, 0, 0, 0), (3, .aload_n 0, 1, 0, 0, 0, 0), (4, .getfield 70, 3, 13, 9, 2, 30028), (7, .getfield 235, 3, 9, 13, 0, 10230), (10, .if_icmp .ge 31, 3, 41, 0, 0, 0), (13, .aload_n 0, 1, 0, 0, 0, 0), (14, .getfield 32, 3, 13, 2, 2, 30021), (17, .iload_n 1, 1, 0, 0, 0, 0), (18, .invokevirtual 247, 3, 190, 2, 4, 40223), (21, .aload_n 0, 1, 0, 0, 0, 0), (22, .getfield 70, 3, 13, 9, 2, 30028), (25, .getfield 235, 3, 9, 13, 0, 10230), (28, .iconst 2, 1, 0, 0, 0, 2), (29, .idiv, 1, 0, 0, 0, 0), (30, .if_icmp .ne 5, 3, 35, 0, 0, 0), (33, .iload_n 1, 1, 0, 0, 0, 0), (34, .ireturn, 1, 0, 0, 0, 0), (35, .iinc 1 1, 3, 0, 0, 0, 0), (38, .goto (-36), 3, 2, 0, 0, 0), (41, .iconst (-1), 1, 0, 0, 0, (-1)), (42, .ireturn, 1, 0, 0, 0, 0)]
/-- 192: SpeakClockModel.median()I -/
def cd_M_median : List mE := [(0, .aload_n 0, 1, 0, 0, 0, 0), (1, .iconst 0, 1, 0, 0, 0, 0), (2, .putfield 157, 3, 14, 2, 0, 60018), (5, .iconst 0, 1, 0, 0, 0, 0), (6, .istore_n 1, 1, 0, 0, 0, 0), (7, .nop, 0, 3, 0, 0, 0), (7, .iload_n 1, 1, 0, 0, 0, 0), (8, .aload_n 0, 1, 0, 0, 0, 0), (9, .getfield 237, 3, 14, 12, 0, 60028), (12, .if_icmp .ge 82, 3, 94, 0, 0, 0), (15, .iconst 0, 1, 0, 0, 0, 0), (16, .istore_n 2, 1, 0, 0, 0, 0), (17, .iconst 0, 1, 0, 0, 0, 0), (18, .istore_n 3, 1, 0, 0, 0, 0), (19, .nop, 0, 15, 0, 0, 0), (19, .iload_n 3, 1, 0, 0, 0, 0), (20, .aload_n 0, 1, 0, 0, 0, 0), (21, .getfield 237, 3, 14, 12, 0, 60028), (24, .if_icmp .ge 52, 3, 76, 0, 0, 0), (27, .iload_n 2, 1, 0, 0, 0, 0), (28, .aload_n 0, 1, 0, 0, 0, 0), (29, .getfield 100, 3, 14, 55, 2, 60071), (32, .iload_n 3, 1, 0, 0, 0, 0), (33, .iaload, 1, 0, 0, 0, 0), (34, .aload_n 0, 1, 0, 0, 0, 0), (35, .getfield 100, 3, 14, 55, 2, 60071), (38, .iload_n 1, 1, 0, 0, 0, 0), (39, .iaload, 1, 0, 0, 0, 0), (40, .if_icmp .lt 23, 3, 63, 0, 0, 0), (43, .aload_n 0, 1, 0, 0, 0, 0), (44, .getfield 100, 3, 14, 55, 2, 60071), (47, .iload_n 3, 1, 0, 0, 0, 0), (48, .iaload, 1, 0, 0, 0, 0), (49, .aload_n 0, 1, 0, 0, 0, 0), (50, .getfield 100, 3, 14, 55, 2, 60071), (53, .iload_n 1, 1, 0, 0, 0, 0), (54, .iaload, 1, 0, 0, 0, 0), (55, .if_icmp .ne 12, 3, 67, 0, 0, 0), (58, .iload_n 3, 1, 0, 0, 0, 0), (59, .iload_n 1, 1, 0, 0, 0, 0), (60, .if_icmp .ge 7, 3, 67, 0, 0, 0), (63, .nop, 0, 11, 0, 0, 0), (63, .iconst 1, 1, 0, 0, 0, 1), (64, .goto 4, 3, 68, 0, 0, 0), (67, .nop, 0, 11, 0, 0, 0), (67, .iconst 0, 1, 0, 0, 0, 0), (68, .nop, 0, 11, 0, 0, 0), (68, .iadd, 1, 0, 0, 0, 0), (69, .istore_n 2, 1, 0, 0, 0, 0), (70, .iinc 3 1, 3, 0, 0, 0, 0), (73, .goto (-54), 3, 19, 0, 0, 0), (76, .iload_n 2, 1, 0, 0, 0, 0), (77, .aload_n 0, 1, 0, 0, 0, 0), (78, .getfield 237, 3, 14, 12, 0, 60028), (81, .iconst 2, 1, 0, 0, 0, 2), (82, .idiv, 1, 0, 0, 0, 0), (83, .if_icmp .ne 5, 3, 88, 0, 0, 0), (86, .iload_n 1, 1, 0, 0, 0, 0), (87, .ireturn, 1, 0, 0, 0, 0), (88, .iinc 1 1, 3, 0, 0, 0, 0), (91, .goto (-84), 3, 7, 0, 0, 0), (94, .iconst (-1), 1, 0, 0, 0, (-1)), (95, .ireturn, 1, 0, 0, 0, 0)]
/-- 193: SpeakClock.agree(I)I -/
def cd_C_agree : List mE := [(0, .iload_n 1, 1, 0, 0, 0, 0), (1, .ifCond .lt 9, 3, 10, 0, 0, 0), (4, .iload_n 1, 1, 0, 0, 0, 0), (5, .bipush 60, 2, 0, 0, 0, 60), (7, .if_icmp .le 5, 3, 12, 0, 0, 0), (10, .nop, 0, 0, 0, 0, 0), (10, .iconst (-1), 1, 0, 0, 0, (-1)), (11, .ireturn, 1, 0, 0, 0, 0), (12, .iconst 1, 1, 0, 0, 0, 1), (13, .aload_n 0, 1, 0, 0, 0, 0), (14, .getfield 70, 3, 13, 9, 2, 30028), (17, .getfield 235, 3, 9, 13, 0, 10230), (20, .ishl, 1, 0, 0, 0, 0), (21, .iconst 1, 1, 0, 0, 0, 1), (22, .isub, 1, 0, 0, 0, 0), (23, .istore_n 2, 1, 0, 0, 0, 0), (24, .aload_n 0, 1, 0, 0, 0, 0), (25, .invokevirtual 220, 3, 166, 1, 13, 40164), (28, .iconst 0, 1, 0, 0, 0, 0), (29, .istore_n 3, 1, 0, 0, 0, 0), (30, .nop, 0, 15, 0, 0, 0), (30, .iload_n 3, 1, 0, 0, 0, 0), (31, .bipush 99, 2, 0, 0, 0, 99), (33, .if_icmp .gt 34, 3, 67, 0, 0, 0), (36, .aload_n 0, 1, 0, 0, 0, 0), (37, .getfield 39, 3, 13, 4, 2, 30023), (40, .iload_n 2, 1, 0, 0, 0, 0), (41, .invokevirtual 244, 3, 181, 2, 4, 40207), (44, .iload_n 1, 1, 0, 0, 0, 0), (45, .if_icmp .gt 5, 3, 50, 0, 0, 0), (48, .iload_n 3, 1, 0, 0, 0, 0), (49, .ireturn, 1, 0, 0, 0, 0), (50, .aload_n 0, 1, 0, 0, 0, 0), (51, .getfield 48, 3, 13, 6, 2, 30025), (54, .aload_n 0, 1, 0, 0, 0, 0), (55, .getfield 39, 3, 13, 4, 2, 30023), (58, .invokevirtual 216, 3, 151, 2, 12, 40091), (61, .iinc 3 1, 3, 0, 0, 0, 0), (64, .goto (-34), 3, 30, 0, 0, 0), (67, .bipush (-2), 2, 0, 0, 0, (-2)), (69, .ireturn, 1, 0, 0, 0, 0)]
/-- 194: SpeakClockModel.agree(I)I -/
def cd_M_agree : List mE := [(0, .aload_n 0, 1, 0, 0, 0, 0), (1, .iconst 0, 1, 0, 0, 0, 0), (2, .putfield 157, 3, 14, 2, 0, 60018), (5, .iload_n 1, 1, 0, 0, 0, 0), (6, .iconst 0, 1, 0, 0, 0, 0), (7, .bipush 60, 2, 0, 0, 0, 60), (9, .invokestatic 202, 3, 67, 3, 14, 70088), (12, .ifCond .ne 5, 3, 17, 0, 0, 0), (15, .iconst (-1), 1, 0, 0, 0, (-1)), (16, .ireturn, 1, 0, 0, 0, 0), (17, .aload_n 0, 1, 0, 0, 0, 0), (18, .invokevirtual 489, 3, 170, 1, 14, 80088), (21, .iconst 0, 1, 0, 0, 0, 0), (22, .istore_n 2, 1, 0, 0, 0, 0), (23, .nop, 0, 7, 0, 0, 0), (23, .iload_n 2, 1, 0, 0, 0, 0), (24, .bipush 99, 2, 0, 0, 0, 99), (26, .if_icmp .gt 26, 3, 52, 0, 0, 0), (29, .aload_n 0, 1, 0, 0, 0, 0), (30, .iconst 1, 1, 0, 0, 0, 1), (31, .iconst 0, 1, 0, 0, 0, 0), (32, .invokevirtual 507, 3, 186, 3, 14, 80122), (35, .iload_n 1, 1, 0, 0, 0, 0), (36, .if_icmp .gt 5, 3, 41, 0, 0, 0), (39, .iload_n 2, 1, 0, 0, 0, 0), (40, .ireturn, 1, 0, 0, 0, 0), (41, .aload_n 0, 1, 0, 0, 0, 0), (42, .iconst 1, 1, 0, 0, 0, 1), (43, .invokevirtual 465, 3, 163, 2, 14, 80037), (46, .iinc 2 1, 3, 0, 0, 0, 0), (49, .goto (-26), 3, 23, 0, 0, 0), (52, .bipush (-2), 2, 0, 0, 0, (-2)), (54, .ireturn, 1, 0, 0, 0, 0)]
/-- 195: SpeakClock.isKeptInTrial(I)Z -/
def cd_C_isKeptInTrial : List mE := [(0, .iconst 0, 1, 0, 0, 0, 0), (1, .istore_n 2, 1, 0, 0, 0, 0), (2, .nop, 0, 7, 0, 0, 0), (2, .iload_n 2, 1, 0, 0, 0, 0), (3, .sipush 200, 3, 0, 0, 0, 200), (6, .if_icmp .ge 32, 3, 38, 0, 0, 0), (9, .aload_n 0, 1, 0, 0, 0, 0), (10, .getfield 39, 3, 13, 4, 2, 30023), (13, .getfield 169, 3, 4, 7, 2, 20111), (16, .iload_n 1, 1, 0, 0, 0, 0), (17, .iaload, 1, 0, 0, 0, 0), (18, .ifCond .ne 20, 3, 38, 0, 0, 0), (21, .aload_n 0, 1, 0, 0, 0, 0), (22, .getfield 48, 3, 13, 6, 2, 30025), (25, .aload_n 0, 1, 0, 0, 0, 0), (26, .getfield 39, 3, 13, 4, 2, 30023), (29, .invokevirtual 216, 3, 151, 2, 12, 40091), (32, .iinc 2 1, 3, 0, 0, 0, 0), (35, .goto (-33), 3, 2, 0, 0, 0), (38, .nop, 0, 3, 0, 0, 0), (38, .aload_n 0, 1, 0, 0, 0, 0), (39, .getfield 39, 3, 13, 4, 2, 30023), (42, .getfield 169, 3, 4, 7, 2, 20111), (45, .iload_n 1, 1, 0, 0, 0, 0), (46, .iaload, 1, 0, 0, 0, 0), (47, .iconst 1, 1, 0, 0, 0, 1), (48, .if_icmp .ne 7, 3, 55, 0, 0, 0), (51, .iconst 1, 1, 0, 0, 0, 1), (52, .goto 4, 3, 56, 0, 0, 0), (55, .iconst 0, 1, 0, 0, 0, 0), (56, .nop, 0, 0, 0, 0, 0), (56, .ireturn, 1, 1, 0, 0, 0)]
/-- 196: SpeakClock.needs(I)I -/
def cd_C_needs : List mE := [(0, .aload_n 0, 1, 0, 0, 0, 0), (1, .iload_n 1, 1, 0, 0, 0, 0), (2, .invokevirtual 157, 3, 104, 2, 13, 40004), (5, .ifCond .eq 14, 3, 19, 0, 0, 0), (8, .aload_n 0, 1, 0, 0, 0, 0), (9, .getfield 32, 3, 13, 2, 2, 30021), (12, .iload_n 1, 1, 0, 0, 0, 0), (13, .invokevirtual 213, 3, 137, 2, 4, 40083), (16, .ifCond .eq 5, 3, 21, 0, 0, 0), (19, .nop, 0, 0, 0, 0, 0), (19, .iconst (-1), 1, 0, 0, 0, (-1)), (20, .ireturn, 1, 0, 0, 0, 0), (21, .iconst 0, 1, 0, 0, 0, 0), (22, .istore_n 2, 1, 0, 0, 0, 0), (23, .nop, 0, 7, 0, 0, 0), (23, .iload_n 2, 1, 0, 0, 0, 0), (24, .bipush 60, 2, 0, 0, 0, 60), (26, .if_icmp .gt 36, 3, 62, 0, 0, 0), (29, .aload_n 0, 1, 0, 0, 0, 0), (30, .invokevirtual 220, 3, 166, 1, 13, 40164), (33, .aload_n 0, 1, 0, 0, 0, 0), (34, .getfield 39, 3, 13, 4, 2, 30023), (37, .getfield 166, 3, 4, 4, 2, 20101), (40, .iload_n 1, 1, 0, 0, 0, 0), (41, .dup2, 1, 0, 0, 0, 0), (42, .iaload, 1, 0, 0, 0, 0), (43, .iload_n 2, 1, 0, 0, 0, 0), (44, .iadd, 1, 0, 0, 0, 0), (45, .iastore, 1, 0, 0, 0, 0), (46, .aload_n 0, 1, 0, 0, 0, 0), (47, .iload_n 1, 1, 0, 0, 0, 0), (48, .invokevirtual 250, 3, 195, 2, 13, 40235), (51, .ifCond .eq 5, 3, 56, 0, 0, 0), (54, .iload_n 2, 1, 0, 0, 0, 0), (55, .ireturn, 1, 0, 0, 0, 0), (56, .iinc 2 1, 3, 0, 0, 0, 0), (59, .goto (-36), 3, 23, 0, 0, 0), (62, .bipush (-2), 2, 0, 0, 0, (-2)), (64, .ireturn, 1, 0, 0, 0, 0)]
/-- 197: SpeakClockModel.needs(I)I -/
def cd_M_needs : List mE := [(0, .aload_n 0, 1, 0, 0, 0, 0), (1, .iconst 0, 1, 0, 0, 0, 0), (2, .putfield 157, 3, 14, 2, 0, 60018), (5, .aload_n 0, 1, 0, 0, 0, 0), (6, .iload_n 1, 1, 0, 0, 0, 0), (7, .invokevirtual 486, 3, 139, 2, 14, 80029), (10, .ifCond .ne 5, 3, 15, 0, 0, 0), (13, .iconst (-1), 1, 0, 0, 0, (-1)), (14, .ireturn, 1, 0, 0, 0, 0), (15, .iconst 0, 1, 0, 0, 0, 0), (16, .istore_n 2, 1, 0, 0, 0, 0), (17, .nop, 0, 7, 0, 0, 0), (17, .iload_n 2, 1, 0, 0, 0, 0), (18, .bipush 60, 2, 0, 0, 0, 60), (20, .if_icmp .gt 52, 3, 72, 0, 0, 0), (23, .aload_n 0, 1, 0, 0, 0, 0), (24, .invokevirtual 489, 3, 170, 1, 14, 80088), (27, .aload_n 0, 1, 0, 0, 0, 0), (28, .getfield 118, 3, 14, 61, 2, 60077), (31, .bipush 6, 2, 0, 0, 0, 6), (33, .iload_n 1, 1, 0, 0, 0, 0), (34, .iadd, 1, 0, 0, 0, 0), (35, .aload_n 0, 1, 0, 0, 0, 0), (36, .getfield 118, 3, 14, 61, 2, 60077), (39, .iload_n 1, 1, 0, 0, 0, 0), (40, .iaload, 1, 0, 0, 0, 0), (41, .iload_n 2, 1, 0, 0, 0, 0), (42, .iadd, 1, 0, 0, 0, 0), (43, .iastore, 1, 0, 0, 0, 0), (44, .aload_n 0, 1, 0, 0, 0, 0), (45, .sipush 200, 3, 0, 0, 0, 200), (48, .invokevirtual 492, 3, 171, 2, 14, 80092), (51, .aload_n 0, 1, 0, 0, 0, 0), (52, .getfield 124, 3, 14, 63, 2, 60079), (55, .bipush 6, 2, 0, 0, 0, 6), (57, .iload_n 1, 1, 0, 0, 0, 0), (58, .iadd, 1, 0, 0, 0, 0), (59, .iaload, 1, 0, 0, 0, 0), (60, .iconst 1, 1, 0, 0, 0, 1), (61, .if_icmp .ne 5, 3, 66, 0, 0, 0), (64, .iload_n 2, 1, 0, 0, 0, 0), (65, .ireturn, 1, 0, 0, 0, 0), (66, .iinc 2 1, 3, 0, 0, 0, 0), (69, .goto (-52), 3, 17, 0, 0, 0), (72, .bipush (-2), 2, 0, 0, 0, (-2)), (74, .ireturn, 1, 0, 0, 0, 0)]
/-- 198: SpeakClock.certain()I -/
def cd_C_certain : List mE := [(0, .aload_n 0, 1, 0, 0, 0, 0), (1, .invokevirtual 220, 3, 166, 1, 13, 40164), (4, .aload_n 0, 1, 0, 0, 0, 0), (5, .sipush 200, 3, 0, 0, 0, 200), (8, .invokevirtual 223, 3, 167, 2, 13, 40173), (11, .iconst 0, 1, 0, 0, 0, 0), (12, .istore_n 1, 1, 0, 0, 0, 0), (13, .iconst 0, 1, 0, 0, 0, 0), (14, .istore_n 2, 1, 0, 0, 0, 0), (15, .nop, 0, 7, 0, 0, 0), (15, .iload_n 2, 1, 0, 0, 0, 0), (16, .aload_n 0, 1, 0, 0, 0, 0), (17, .getfield 70, 3, 13, 9, 2, 30028), (20, .getfield 253, 3, 9, 15, 0, 10239), (23, .if_icmp .ge 28, 3, 51, 0, 0, 0), (26, .aload_n 0, 1, 0, 0, 0, 0), (27, .getfield 39, 3, 13, 4, 2, 30023), (30, .getfield 169, 3, 4, 7, 2, 20111), (33, .iload_n 2, 1, 0, 0, 0, 0), (34, .iaload, 1, 0, 0, 0, 0), (35, .iconst 1, 1, 0, 0, 0, 1), (36, .if_icmp .ne 9, 3, 45, 0, 0, 0), (39, .iload_n 1, 1, 0, 0, 0, 0), (40, .iconst 1, 1, 0, 0, 0, 1), (41, .iload_n 2, 1, 0, 0, 0, 0), (42, .ishl, 1, 0, 0, 0, 0), (43, .ior, 1, 0, 0, 0, 0), (44, .istore_n 1, 1, 0, 0, 0, 0), (45, .nop, 0, 7, 0, 0, 0), (45, .iinc 2 1, 3, 0, 0, 0, 0), (48, .goto (-33), 3, 15, 0, 0, 0), (51, .iload_n 1, 1, 0, 0, 0, 0), (52, .ireturn, 1, 0, 0, 0, 0)]
/-- 199: SpeakClockModel.certain()I -/
def cd_M_certain : List mE := [(0, .aload_n 0, 1, 0, 0, 0, 0), (1, .iconst 0, 1, 0, 0, 0, 0), (2, .putfield 157, 3, 14, 2, 0, 60018), (5, .aload_n 0, 1, 0, 0, 0, 0), (6, .invokevirtual 489, 3, 170, 1, 14, 80088), (9, .aload_n 0, 1, 0, 0, 0, 0), (10, .sipush 200, 3, 0, 0, 0, 200), (13, .invokevirtual 492, 3, 171, 2, 14, 80092), (16, .iconst 0, 1, 0, 0, 0, 0), (17, .istore_n 1, 1, 0, 0, 0, 0), (18, .iconst 0, 1, 0, 0, 0, 0), (19, .istore_n 2, 1, 0, 0, 0, 0), (20, .nop, 0, 7, 0, 0, 0), (20, .iload_n 2, 1, 0, 0, 0, 0), (21, .aload_n 0, 1, 0, 0, 0, 0), (22, .getfield 243, 3, 14, 14, 0, 60030), (25, .if_icmp .ge 32, 3, 57, 0, 0, 0), (28, .iload_n 1, 1, 0, 0, 0, 0), (29, .aload_n 0, 1, 0, 0, 0, 0), (30, .getfield 124, 3, 14, 63, 2, 60079), (33, .bipush 6, 2, 0, 0, 0, 6), (35, .iload_n 2, 1, 0, 0, 0, 0), (36, .iadd, 1, 0, 0, 0, 0), (37, .iaload, 1, 0, 0, 0, 0), (38, .iconst 1, 1, 0, 0, 0, 1), (39, .if_icmp .ne 9, 3, 48, 0, 0, 0), (42, .iconst 1, 1, 0, 0, 0, 1), (43, .iload_n 2, 1, 0, 0, 0, 0), (44, .ishl, 1, 0, 0, 0, 0), (45, .goto 4, 3, 49, 0, 0, 0), (48, .iconst 0, 1, 0, 0, 0, 0), (49, .nop, 0, 5, 0, 0, 0), (49, .ior, 1, 0, 0, 0, 0), (50, .istore_n 1, 1, 0, 0, 0, 0), (51, .iinc 2 1, 3, 0, 0, 0, 0), (54, .goto (-34), 3, 20, 0, 0, 0), (57, .iload_n 1, 1, 0, 0, 0, 0), (58, .ireturn, 1, 0, 0, 0, 0)]
/-- 200: SpeakClock.latest()I -/
def cd_C_latest : List mE := [(0, .iconst (-1), 1, 0, 0, 0, (-1)), (1, .istore_n 1, 1, 0, 0, 0, 0), (2, .iconst 0, 1, 0, 0, 0, 0), (3, .istore_n 2, 1, 0, 0, 0, 0), (4, .nop, 0, 7, 0, 0, 0), (4, .iload_n 2, 1, 0, 0, 0, 0), (5, .aload_n 0, 1, 0, 0, 0, 0), (6, .getfield 70, 3, 13, 9, 2, 30028), (9, .getfield 235, 3, 9, 13, 0, 10230), (12, .if_icmp .ge 37, 3, 49, 0, 0, 0), (15, .iload_n 1, 1, 0, 0, 0, 0), (16, .iconst (-1), 1, 0, 0, 0, (-1)), (17, .if_icmp .eq 24, 3, 41, 0, 0, 0), (20, .aload_n 0, 1, 0, 0, 0, 0), (21, .getfield 32, 3, 13, 2, 2, 30021), (24, .getfield 134, 3, 4, 0, 2, 20089), (27, .iload_n 2, 1, 0, 0, 0, 0), (28, .iaload, 1, 0, 0, 0, 0), (29, .aload_n 0, 1, 0, 0, 0, 0), (30, .getfield 32, 3, 13, 2, 2, 30021), (33, .getfield 134, 3, 4, 0, 2, 20089), (36, .iload_n 1, 1, 0, 0, 0, 0), (37, .iaload, 1, 0, 0, 0, 0), (38, .if_icmp .ge 5, 3, 43, 0, 0, 0), (41, .nop, 0, 5, 0, 0, 0), (41, .iload_n 2, 1, 0, 0, 0, 0), (42, .istore_n 1, 1, 0, 0, 0, 0), (43, .nop, 0, 7, 0, 0, 0), (43, .iinc 2 1, 3, 0, 0, 0, 0), (46, .goto (-42), 3, 4, 0, 0, 0), (49, .iload_n 1, 1, 0, 0, 0, 0), (50, .ireturn, 1, 0, 0, 0, 0)]
/-- 201: SpeakClockModel.latest()I -/
def cd_M_latest : List mE := [(0, .aload_n 0, 1, 0, 0, 0, 0), (1, .iconst 0, 1, 0, 0, 0, 0), (2, .putfield 157, 3, 14, 2, 0, 60018), (5, .iconst (-1), 1, 0, 0, 0, (-1)), (6, .istore_n 1, 1, 0, 0, 0, 0), (7, .iconst 0, 1, 0, 0, 0, 0), (8, .istore_n 2, 1, 0, 0, 0, 0), (9, .nop, 0, 7, 0, 0, 0), (9, .iload_n 2, 1, 0, 0, 0, 0), (10, .aload_n 0, 1, 0, 0, 0, 0), (11, .getfield 237, 3, 14, 12, 0, 60028), (14, .if_icmp .ge 34, 3, 48, 0, 0, 0), (17, .iload_n 1, 1, 0, 0, 0, 0), (18, .ifCond .lt 18, 3, 36, 0, 0, 0), (21, .aload_n 0, 1, 0, 0, 0, 0), (22, .getfield 100, 3, 14, 55, 2, 60071), (25, .iload_n 2, 1, 0, 0, 0, 0), (26, .iaload, 1, 0, 0, 0, 0), (27, .aload_n 0, 1, 0, 0, 0, 0), (28, .getfield 100, 3, 14, 55, 2, 60071), (31, .iload_n 1, 1, 0, 0, 0, 0), (32, .iaload, 1, 0, 0, 0, 0), (33, .if_icmp .ge 7, 3, 40, 0, 0, 0), (36, .nop, 0, 5, 0, 0, 0), (36, .iload_n 2, 1, 0, 0, 0, 0), (37, .goto 4, 3, 41, 0, 0, 0), (40, .iload_n 1, 1, 0, 0, 0, 0), (41, .nop, 0, 5, 0, 0, 0), (41, .istore_n 1, 1, 0, 0, 0, 0), (42, .iinc 2 1, 3, 0, 0, 0, 0), (45, .goto (-36), 3, 9, 0, 0, 0), (48, .iload_n 1, 1, 0, 0, 0, 0), (49, .ireturn, 1, 0, 0, 0, 0)]
/-- 202: SpeakClock.areTwo(II)Z -/
def cd_C_areTwo : List mE := [(0, .aload_n 0, 1, 0, 0, 0, 0), (1, .iload_n 1, 1, 0, 0, 0, 0), (2, .invokevirtual 117, 3, 94, 2, 13, 40012), (5, .ifCond .eq 20, 3, 25, 0, 0, 0), (8, .aload_n 0, 1, 0, 0, 0, 0), (9, .iload_n 2, 1, 0, 0, 0, 0), (10, .invokevirtual 117, 3, 94, 2, 13, 40012), (13, .ifCond .eq 12, 3, 25, 0, 0, 0), (16, .iload_n 1, 1, 0, 0, 0, 0), (17, .iload_n 2, 1, 0, 0, 0, 0), (18, .if_icmp .eq 7, 3, 25, 0, 0, 0), (21, .iconst 1, 1, 0, 0, 0, 1), (22, .goto 4, 3, 26, 0, 0, 0), (25, .nop, 0, 0, 0, 0, 0), (25, .iconst 0, 1, 0, 0, 0, 0), (26, .nop, 0, 0, 0, 0, 0), (26, .ireturn, 1, 1, 0, 0, 0)]
/-- 203: SpeakClock.gain(II)I -/
def cd_C_gain : List mE := [(0, .iconst 0, 1, 0, 0, 0, 0), (1, .istore_n 2, 1, 0, 0, 0, 0), (2, .iload_n 0, 1, 0, 0, 0, 0), (3, .iload_n 1, 1, 0, 0, 0, 0), (4, .if_icmp .le 9, 3, 13, 0, 0, 0), (7, .bipush 6, 2, 0, 0, 0, 6), (9, .istore_n 2, 1, 0, 0, 0, 0), (10, .goto 10, 3, 20, 0, 0, 0), (13, .iload_n 0, 1, 0, 0, 0, 0), (14, .iload_n 1, 1, 0, 0, 0, 0), (15, .if_icmp .ne 5, 3, 20, 0, 0, 0), (18, .iconst 2, 1, 0, 0, 0, 2), (19, .istore_n 2, 1, 0, 0, 0, 0), (20, .nop, 0, 5, 0, 0, 0), (20, .iload_n 2, 1, 0, 0, 0, 0), (21, .iload_n 0, 1, 0, 0, 0, 0), (22, .iconst 4, 1, 0, 0, 0, 4), (23, .idiv, 1, 0, 0, 0, 0), (24, .isub, 1, 0, 0, 0, 0), (25, .ireturn, 1, 0, 0, 0, 0)]
/-- 204: SpeakClock.isRest(III)Z -/
def cd_C_isRest : List mE := [(0, .aload_n 0, 1, 0, 0, 0, 0), (1, .getfield 70, 3, 13, 9, 2, 30028), (4, .getfield 127, 3, 9, 1, 2, 10186), (7, .iload_n 1, 1, 0, 0, 0, 0), (8, .iaload, 1, 0, 0, 0, 0), (9, .istore 4, 2, 0, 0, 0, 0), (11, .aload_n 0, 1, 0, 0, 0, 0), (12, .getfield 70, 3, 13, 9, 2, 30028), (15, .getfield 127, 3, 9, 1, 2, 10186), (18, .iload_n 2, 1, 0, 0, 0, 0), (19, .iaload, 1, 0, 0, 0, 0), (20, .istore 5, 2, 0, 0, 0, 0), (22, .iload 4, 2, 0, 0, 0, 0), (24, .iload_n 3, 1, 0, 0, 0, 0), (25, .iconst 4, 1, 0, 0, 0, 4), (26, .idiv, 1, 0, 0, 0, 0), (27, .iconst 1, 1, 0, 0, 0, 1), (28, .iadd, 1, 0, 0, 0, 0), (29, .imul, 1, 0, 0, 0, 0), (30, .istore 6, 2, 0, 0, 0, 0), (32, .iload 5, 2, 0, 0, 0, 0), (34, .iload_n 3, 1, 0, 0, 0, 0), (35, .iconst 4, 1, 0, 0, 0, 4), (36, .irem, 1, 0, 0, 0, 0), (37, .iconst 1, 1, 0, 0, 0, 1), (38, .iadd, 1, 0, 0, 0, 0), (39, .imul, 1, 0, 0, 0, 0), (40, .istore 7, 2, 0, 0, 0, 0), (42, .iconst 1, 1, 0, 0, 0, 1), (43, .istore 8, 2, 0, 0, 0, 0), (45, .nop, 0, 496, 0, 0, 0), (45, .iload 8, 2, 0, 0, 0, 0), (47, .iconst 4, 1, 0, 0, 0, 4), (48, .if_icmp .gt 51, 3, 99, 0, 0, 0), (51, .iload 8, 2, 0, 0, 0, 0), (53, .iload 4, 2, 0, 0, 0, 0), (55, .imul, 1, 0, 0, 0, 0), (56, .iload 7, 2, 0, 0, 0, 0), (58, .invokestatic 343, 3, 203, 2, 13, 50019), (61, .iload 6, 2, 0, 0, 0, 0), (63, .iload 7, 2, 0, 0, 0, 0), (65, .invokestatic 343, 3, 203, 2, 13, 50019), (68, .if_icmp .gt 23, 3, 91, 0, 0, 0), (71, .iload 8, 2, 0, 0, 0, 0), (73, .iload 5, 2, 0, 0, 0, 0), (75, .imul, 1, 0, 0, 0, 0), (76, .iload 6, 2, 0, 0, 0, 0), (78, .invokestatic 343, 3, 203, 2, 13, 50019), (81, .iload 7, 2, 0, 0, 0, 0), (83, .iload 6, 2, 0, 0, 0, 0), (85, .invokestatic 343, 3, 203, 2, 13, 50019), (88, .if_icmp .le 5, 3, 93, 0, 0, 0), (91, .nop, 0, 0, 0, 0, 0), (91, .iconst 0, 1, 0, 0, 0, 0), (92, .ireturn, 1, 1, 0, 0, 0), (93, .iinc 8 1, 3, 0, 0, 0, 0), (96, .goto (-51), 3, 45, 0, 0, 0), (99, .iconst 1, 1, 0, 0, 0, 1), (100, .ireturn, 1, 1, 0, 0, 0)]
/-- 205: SpeakClock.rests(II)I -/
def cd_C_rests : List mE := [(0, .aload_n 0, 1, 0, 0, 0, 0), (1, .iload_n 1, 1, 0, 0, 0, 0), (2, .iload_n 2, 1, 0, 0, 0, 0), (3, .invokevirtual 256, 3, 202, 3, 13, 50011), (6, .ifCond .ne 5, 3, 11, 0, 0, 0), (9, .iconst (-1), 1, 0, 0, 0, (-1)), (10, .ireturn, 1, 0, 0, 0, 0), (11, .iconst 0, 1, 0, 0, 0, 0), (12, .istore_n 3, 1, 0, 0, 0, 0), (13, .iconst 0, 1, 0, 0, 0, 0), (14, .istore 4, 2, 0, 0, 0, 0), (16, .nop, 0, 31, 0, 0, 0), (16, .iload 4, 2, 0, 0, 0, 0), (18, .bipush 16, 2, 0, 0, 0, 16), (20, .if_icmp .ge 23, 3, 43, 0, 0, 0), (23, .aload_n 0, 1, 0, 0, 0, 0), (24, .iload_n 1, 1, 0, 0, 0, 0), (25, .iload_n 2, 1, 0, 0, 0, 0), (26, .iload 4, 2, 0, 0, 0, 0), (28, .invokevirtual 260, 3, 204, 4, 13, 50015), (31, .ifCond .eq 6, 3, 37, 0, 0, 0), (34, .iinc 3 1, 3, 0, 0, 0, 0), (37, .nop, 0, 31, 0, 0, 0), (37, .iinc 4 1, 3, 0, 0, 0, 0), (40, .goto (-24), 3, 16, 0, 0, 0), (43, .iload_n 3, 1, 0, 0, 0, 0), (44, .ireturn, 1, 0, 0, 0, 0)]
/-- 206: SpeakClockModel.areTwo(II)Z -/
def cd_M_areTwo : List mE := [(0, .aload_n 0, 1, 0, 0, 0, 0), (1, .iload_n 1, 1, 0, 0, 0, 0), (2, .invokevirtual 468, 3, 99, 2, 14, 70174), (5, .ifCond .eq 20, 3, 25, 0, 0, 0), (8, .aload_n 0, 1, 0, 0, 0, 0), (9, .iload_n 2, 1, 0, 0, 0, 0), (10, .invokevirtual 468, 3, 99, 2, 14, 70174), (13, .ifCond .eq 12, 3, 25, 0, 0, 0), (16, .iload_n 1, 1, 0, 0, 0, 0), (17, .iload_n 2, 1, 0, 0, 0, 0), (18, .if_icmp .eq 7, 3, 25, 0, 0, 0), (21, .iconst 1, 1, 0, 0, 0, 1), (22, .goto 4, 3, 26, 0, 0, 0), (25, .nop, 0, 0, 0, 0, 0), (25, .iconst 0, 1, 0, 0, 0, 0), (26, .nop, 0, 0, 0, 0, 0), (26, .ireturn, 1, 1, 0, 0, 0)]
/-- 207: SpeakClockModel.hasBy(II)I -/
def cd_M_hasBy : List mE := [(0, .iload_n 0, 1, 0, 0, 0, 0), (1, .iload_n 1, 1, 0, 0, 0, 0), (2, .if_icmp .le 8, 3, 10, 0, 0, 0), (5, .bipush 6, 2, 0, 0, 0, 6), (7, .goto 13, 3, 20, 0, 0, 0), (10, .iload_n 0, 1, 0, 0, 0, 0), (11, .iload_n 1, 1, 0, 0, 0, 0), (12, .if_icmp .ne 7, 3, 19, 0, 0, 0), (15, .iconst 2, 1, 0, 0, 0, 2), (16, .goto 4, 3, 20, 0, 0, 0), (19, .iconst 0, 1, 0, 0, 0, 0), (20, .nop, 0, 1, 0, 0, 0), (20, .iload_n 0, 1, 0, 0, 0, 0), (21, .iconst 4, 1, 0, 0, 0, 4), (22, .idiv, 1, 0, 0, 0, 0), (23, .isub, 1, 0, 0, 0, 0), (24, .ireturn, 1, 0, 0, 0, 0)]
/-- 208: SpeakClockModel.restAt(III)I -/
def cd_M_restAt : List mE := [(0, .aload_n 0, 1, 0, 0, 0, 0), (1, .getfield 30, 3, 14, 25, 2, 60041), (4, .iload_n 1, 1, 0, 0, 0, 0), (5, .iaload, 1, 0, 0, 0, 0), (6, .istore 4, 2, 0, 0, 0, 0), (8, .aload_n 0, 1, 0, 0, 0, 0), (9, .getfield 30, 3, 14, 25, 2, 60041), (12, .iload_n 2, 1, 0, 0, 0, 0), (13, .iaload, 1, 0, 0, 0, 0), (14, .istore 5, 2, 0, 0, 0, 0), (16, .iconst 0, 1, 0, 0, 0, 0), (17, .istore 6, 2, 0, 0, 0, 0), (19, .iconst 0, 1, 0, 0, 0, 0), (20, .istore 7, 2, 0, 0, 0, 0), (22, .nop, 0, 248, 0, 0, 0), (22, .iload 7, 2, 0, 0, 0, 0), (24, .bipush 16, 2, 0, 0, 0, 16), (26, .if_icmp .ge 139, 3, 165, 0, 0, 0), (29, .iconst 1, 1, 0, 0, 0, 1), (30, .iload 7, 2, 0, 0, 0, 0), (32, .iconst 4, 1, 0, 0, 0, 4), (33, .idiv, 1, 0, 0, 0, 0), (34, .iadd, 1, 0, 0, 0, 0), (35, .istore 8, 2, 0, 0, 0, 0), (37, .iconst 1, 1, 0, 0, 0, 1), (38, .iload 7, 2, 0, 0, 0, 0), (40, .iconst 4, 1, 0, 0, 0, 4), (41, .irem, 1, 0, 0, 0, 0), (42, .iadd, 1, 0, 0, 0, 0), (43, .istore 9, 2, 0, 0, 0, 0), (45, .iconst 1, 1, 0, 0, 0, 1), (46, .istore 10, 2, 0, 0, 0, 0), (48, .iconst 1, 1, 0, 0, 0, 1), (49, .istore 11, 2, 0, 0, 0, 0), (51, .nop, 0, 4088, 0, 0, 0), (51, .iload 11, 2, 0, 0, 0, 0), (53, .iconst 5, 1, 0, 0, 0, 5), (54, .if_icmp .ge 79, 3, 133, 0, 0, 0), (57, .iload 10, 2, 0, 0, 0, 0), (59, .ifCond .eq 65, 3, 124, 0, 0, 0), (62, .iload 11, 2, 0, 0, 0, 0), (64, .iload 4, 2, 0, 0, 0, 0), (66, .imul, 1, 0, 0, 0, 0), (67, .iload 9, 2, 0, 0, 0, 0), (69, .iload 5, 2, 0, 0, 0, 0), (71, .imul, 1, 0, 0, 0, 0), (72, .invokestatic 510, 3, 207, 2, 14, 80186), (75, .iload 8, 2, 0, 0, 0, 0), (77, .iload 4, 2, 0, 0, 0, 0), (79, .imul, 1, 0, 0, 0, 0), (80, .iload 9, 2, 0, 0, 0, 0), (82, .iload 5, 2, 0, 0, 0, 0), (84, .imul, 1, 0, 0, 0, 0), (85, .invokestatic 510, 3, 207, 2, 14, 80186), (88, .if_icmp .gt 36, 3, 124, 0, 0, 0), (91, .iload 11, 2, 0, 0, 0, 0), (93, .iload 5, 2, 0, 0, 0, 0), (95, .imul, 1, 0, 0, 0, 0), (96, .iload 8, 2, 0, 0, 0, 0), (98, .iload 4, 2, 0, 0, 0, 0), (100, .imul, 1, 0, 0, 0, 0), (101, .invokestatic 510, 3, 207, 2, 14, 80186), (104, .iload 9, 2, 0, 0, 0, 0), (106, .iload 5, 2, 0, 0, 0, 0), (108, .imul, 1, 0, 0, 0, 0), (109, .iload 8, 2, 0, 0, 0, 0), (111, .iload 4, 2, 0, 0, 0, 0), (113, .imul, 1, 0, 0, 0, 0), (114, .invokestatic 510, 3, 207, 2, 14, 80186), (117, .if_icmp .gt 7, 3, 124, 0, 0, 0), (120, .iconst 1, 1, 0, 0, 0, 1), (121, .goto 4, 3, 125, 0, 0, 0), (124, .nop, 0, 3064, 0, 0, 0), (124, .iconst 0, 1, 0, 0, 0, 0), (125, .nop, 0, 3064, 0, 0, 0), (125, .istore 10, 2, 0, 0, 0, 0), (127, .iinc 11 1, 3, 0, 0, 0, 0), (130, .goto (-79), 3, 51, 0, 0, 0), (133, .iload 10, 2, 0, 0, 0, 0), (135, .ifCond .ne 6, 3, 141, 0, 0, 0), (138, .goto 21, 3, 159, 0, 0, 0), (141, .iload 6, 2, 0, 0, 0, 0), (143, .iload_n 3, 1, 0, 0, 0, 0), (144, .if_icmp .ne 12, 3, 156, 0, 0, 0), (147, .bipush 10, 2, 0, 0, 0, 10), (149, .iload 8, 2, 0, 0, 0, 0), (151, .imul, 1, 0, 0, 0, 0), (152, .iload 9, 2, 0, 0, 0, 0), (154, .iadd, 1, 0, 0, 0, 0), (155, .ireturn, 1, 0, 0, 0, 0), (156, .iinc 6 1, 3, 0, 0, 0, 0), (159, .nop, 0, 248, 0, 0, 0), (159, .iinc 7 1, 3, 0, 0, 0, 0), (162, .goto (-140), 3, 22, 0, 0, 0), (165, .iload_n 3, 1, 0, 0, 0, 0), (166, .ifCond .ge 8, 3, 174, 0, 0, 0), (169, .iload 6, 2, 0, 0, 0, 0), (171, .goto 5, 3, 176, 0, 0, 0), (174, .bipush (-2), 2, 0, 0, 0, (-2)), (176, .nop, 0, 0, 0, 0, 0), (176, .ireturn, 1, 0, 0, 0, 0)]
/-- 209: SpeakClockModel.rests(II)I -/
def cd_M_rests : List mE := [(0, .aload_n 0, 1, 0, 0, 0, 0), (1, .iconst 0, 1, 0, 0, 0, 0), (2, .putfield 157, 3, 14, 2, 0, 60018), (5, .aload_n 0, 1, 0, 0, 0, 0), (6, .iload_n 1, 1, 0, 0, 0, 0), (7, .iload_n 2, 1, 0, 0, 0, 0), (8, .invokevirtual 513, 3, 206, 3, 14, 80178), (11, .ifCond .eq 13, 3, 24, 0, 0, 0), (14, .aload_n 0, 1, 0, 0, 0, 0), (15, .iload_n 1, 1, 0, 0, 0, 0), (16, .iload_n 2, 1, 0, 0, 0, 0), (17, .iconst (-1), 1, 0, 0, 0, (-1)), (18, .invokevirtual 516, 3, 208, 4, 14, 80182), (21, .goto 4, 3, 25, 0, 0, 0), (24, .iconst (-1), 1, 0, 0, 0, (-1)), (25, .nop, 0, 0, 0, 0, 0), (25, .ireturn, 1, 0, 0, 0, 0)]
/-- 210: SpeakClock.rest(III)I -/
def cd_C_rest : List mE := [(0, .aload_n 0, 1, 0, 0, 0, 0), (1, .iload_n 1, 1, 0, 0, 0, 0), (2, .iload_n 2, 1, 0, 0, 0, 0), (3, .invokevirtual 256, 3, 202, 3, 13, 50011), (6, .ifCond .eq 7, 3, 13, 0, 0, 0), (9, .iload_n 3, 1, 0, 0, 0, 0), (10, .ifCond .ge 5, 3, 15, 0, 0, 0), (13, .nop, 0, 0, 0, 0, 0), (13, .iconst (-1), 1, 0, 0, 0, (-1)), (14, .ireturn, 1, 0, 0, 0, 0), (15, .iconst 0, 1, 0, 0, 0, 0), (16, .istore 4, 2, 0, 0, 0, 0), (18, .iconst 0, 1, 0, 0, 0, 0), (19, .istore 5, 2, 0, 0, 0, 0), (21, .nop, 0, 63, 0, 0, 0), (21, .iload 5, 2, 0, 0, 0, 0), (23, .bipush 16, 2, 0, 0, 0, 16), (25, .if_icmp .ge 46, 3, 71, 0, 0, 0), (28, .aload_n 0, 1, 0, 0, 0, 0), (29, .iload_n 1, 1, 0, 0, 0, 0), (30, .iload_n 2, 1, 0, 0, 0, 0), (31, .iload 5, 2, 0, 0, 0, 0), (33, .invokevirtual 260, 3, 204, 4, 13, 50015), (36, .ifCond .eq 29, 3, 65, 0, 0, 0), (39, .iload 4, 2, 0, 0, 0, 0), (41, .iload_n 3, 1, 0, 0, 0, 0), (42, .if_icmp .ne 20, 3, 62, 0, 0, 0), (45, .bipush 10, 2, 0, 0, 0, 10), (47, .iload 5, 2, 0, 0, 0, 0), (49, .iconst 4, 1, 0, 0, 0, 4), (50, .idiv, 1, 0, 0, 0, 0), (51, .iconst 1, 1, 0, 0, 0, 1), (52, .iadd, 1, 0, 0, 0, 0), (53, .imul, 1, 0, 0, 0, 0), (54, .iload 5, 2, 0, 0, 0, 0), (56, .iconst 4, 1, 0, 0, 0, 4), (57, .irem, 1, 0, 0, 0, 0), (58, .iadd, 1, 0, 0, 0, 0), (59, .iconst 1, 1, 0, 0, 0, 1), (60, .iadd, 1, 0, 0, 0, 0), (61, .ireturn, 1, 0, 0, 0, 0), (62, .iinc 4 1, 3, 0, 0, 0, 0), (65, .nop, 0, 63, 0, 0, 0), (65, .iinc 5 1, 3, 0, 0, 0, 0), (68, .goto (-47), 3, 21, 0, 0, 0), (71, .bipush (-2), 2, 0, 0, 0, (-2)), (73, .ireturn, 1, 0, 0, 0, 0)]
/-- 211: SpeakClockModel.rest(III)I -/
def cd_M_rest : List mE := [(0, .aload_n 0, 1, 0, 0, 0, 0), (1, .iconst 0, 1, 0, 0, 0, 0), (2, .putfield 157, 3, 14, 2, 0, 60018), (5, .aload_n 0, 1, 0, 0, 0, 0), (6, .iload_n 1, 1, 0, 0, 0, 0), (7, .iload_n 2, 1, 0, 0, 0, 0), (8, .invokevirtual 513, 3, 206, 3, 14, 80178), (11, .ifCond .eq 17, 3, 28, 0, 0, 0), (14, .iload_n 3, 1, 0, 0, 0, 0), (15, .ifCond .lt 13, 3, 28, 0, 0, 0), (18, .aload_n 0, 1, 0, 0, 0, 0), (19, .iload_n 1, 1, 0, 0, 0, 0), (20, .iload_n 2, 1, 0, 0, 0, 0), (21, .iload_n 3, 1, 0, 0, 0, 0), (22, .invokevirtual 516, 3, 208, 4, 14, 80182), (25, .goto 4, 3, 29, 0, 0, 0), (28, .nop, 0, 0, 0, 0, 0), (28, .iconst (-1), 1, 0, 0, 0, (-1)), (29, .nop, 0, 0, 0, 0, 0), (29, .ireturn, 1, 0, 0, 0, 0)]
/-- 212: SpeakClock.apart(II)I -/
def cd_C_apart : List mE := [(0, .aload_n 0, 1, 0, 0, 0, 0), (1, .iload_n 1, 1, 0, 0, 0, 0), (2, .invokevirtual 117, 3, 94, 2, 13, 40012), (5, .ifCond .eq 11, 3, 16, 0, 0, 0), (8, .aload_n 0, 1, 0, 0, 0, 0), (9, .iload_n 2, 1, 0, 0, 0, 0), (10, .invokevirtual 117, 3, 94, 2, 13, 40012), (13, .ifCond .ne 5, 3, 18, 0, 0, 0), (16, .nop, 0, 0, 0, 0, 0), (16, .iconst (-1), 1, 0, 0, 0, (-1)), (17, .ireturn, 1, 0, 0, 0, 0), (18, .aload_n 0, 1, 0, 0, 0, 0), (19, .getfield 32, 3, 13, 2, 2, 30021), (22, .getfield 134, 3, 4, 0, 2, 20089), (25, .iload_n 1, 1, 0, 0, 0, 0), (26, .iaload, 1, 0, 0, 0, 0), (27, .aload_n 0, 1, 0, 0, 0, 0), (28, .getfield 32, 3, 13, 2, 2, 30021), (31, .getfield 134, 3, 4, 0, 2, 20089), (34, .iload_n 2, 1, 0, 0, 0, 0), (35, .iaload, 1, 0, 0, 0, 0), (36, .isub, 1, 0, 0, 0, 0), (37, .invokestatic 264, 3, 1002, 1, 0, 50030), (40, .ireturn, 1, 0, 0, 0, 0)]
/-- 213: SpeakClockModel.apart(II)I -/
def cd_M_apart : List mE := [(0, .aload_n 0, 1, 0, 0, 0, 0), (1, .iconst 0, 1, 0, 0, 0, 0), (2, .putfield 157, 3, 14, 2, 0, 60018), (5, .aload_n 0, 1, 0, 0, 0, 0), (6, .iload_n 1, 1, 0, 0, 0, 0), (7, .invokevirtual 468, 3, 99, 2, 14, 70174), (10, .ifCond .eq 11, 3, 21, 0, 0, 0), (13, .aload_n 0, 1, 0, 0, 0, 0), (14, .iload_n 2, 1, 0, 0, 0, 0), (15, .invokevirtual 468, 3, 99, 2, 14, 70174), (18, .ifCond .ne 5, 3, 23, 0, 0, 0), (21, .nop, 0, 0, 0, 0, 0), (21, .iconst (-1), 1, 0, 0, 0, (-1)), (22, .ireturn, 1, 0, 0, 0, 0), (23, .aload_n 0, 1, 0, 0, 0, 0), (24, .getfield 100, 3, 14, 55, 2, 60071), (27, .iload_n 1, 1, 0, 0, 0, 0), (28, .iaload, 1, 0, 0, 0, 0), (29, .aload_n 0, 1, 0, 0, 0, 0), (30, .getfield 100, 3, 14, 55, 2, 60071), (33, .iload_n 2, 1, 0, 0, 0, 0), (34, .iaload, 1, 0, 0, 0, 0), (35, .if_icmp .le 19, 3, 54, 0, 0, 0), (38, .aload_n 0, 1, 0, 0, 0, 0), (39, .getfield 100, 3, 14, 55, 2, 60071), (42, .iload_n 1, 1, 0, 0, 0, 0), (43, .iaload, 1, 0, 0, 0, 0), (44, .aload_n 0, 1, 0, 0, 0, 0), (45, .getfield 100, 3, 14, 55, 2, 60071), (48, .iload_n 2, 1, 0, 0, 0, 0), (49, .iaload, 1, 0, 0, 0, 0), (50, .isub, 1, 0, 0, 0, 0), (51, .goto 16, 3, 67, 0, 0, 0), (54, .aload_n 0, 1, 0, 0, 0, 0), (55, .getfield 100, 3, 14, 55, 2, 60071), (58, .iload_n 2, 1, 0, 0, 0, 0), (59, .iaload, 1, 0, 0, 0, 0), (60, .aload_n 0, 1, 0, 0, 0, 0), (61, .getfield 100, 3, 14, 55, 2, 60071), (64, .iload_n 1, 1, 0, 0, 0, 0), (65, .iaload, 1, 0, 0, 0, 0), (66, .isub, 1, 0, 0, 0, 0), (67, .nop, 0, 0, 0, 0, 0), (67, .ireturn, 1, 0, 0, 0, 0)]
/-- 214: SpeakClock.quiet()I -/
def cd_C_quiet : List mE := [(0, .aload_n 0, 1, 0, 0, 0, 0), (1, .invokevirtual 220, 3, 166, 1, 13, 40164), (4, .iconst 0, 1, 0, 0, 0, 0), (5, .istore_n 1, 1, 0, 0, 0, 0), (6, .nop, 0, 3, 0, 0, 0), (6, .iload_n 1, 1, 0, 0, 0, 0), (7, .sipush 200, 3, 0, 0, 0, 200), (10, .if_icmp .gt 43, 3, 53, 0, 0, 0), (13, .aload_n 0, 1, 0, 0, 0, 0), (14, .getfield 39, 3, 13, 4, 2, 30023), (17, .getfield 190, 3, 4, 11, 0, 20120), (20, .ifCond .ne 16, 3, 36, 0, 0, 0), (23, .aload_n 0, 1, 0, 0, 0, 0), (24, .getfield 39, 3, 13, 4, 2, 30023), (27, .getfield 204, 3, 4, 12, 0, 20123), (30, .iconst (-1), 1, 0, 0, 0, (-1)), (31, .if_icmp .ne 5, 3, 36, 0, 0, 0), (34, .iload_n 1, 1, 0, 0, 0, 0), (35, .ireturn, 1, 0, 0, 0, 0), (36, .nop, 0, 3, 0, 0, 0), (36, .aload_n 0, 1, 0, 0, 0, 0), (37, .getfield 48, 3, 13, 6, 2, 30025), (40, .aload_n 0, 1, 0, 0, 0, 0), (41, .getfield 39, 3, 13, 4, 2, 30023), (44, .invokevirtual 216, 3, 151, 2, 12, 40091), (47, .iinc 1 1, 3, 0, 0, 0, 0), (50, .goto (-44), 3, 6, 0, 0, 0), (53, .bipush (-2), 2, 0, 0, 0, (-2)), (55, .ireturn, 1, 0, 0, 0, 0)]
/-- 215: SpeakClockModel.quiet()I -/
def cd_M_quiet : List mE := [(0, .aload_n 0, 1, 0, 0, 0, 0), (1, .iconst 0, 1, 0, 0, 0, 0), (2, .putfield 157, 3, 14, 2, 0, 60018), (5, .aload_n 0, 1, 0, 0, 0, 0), (6, .invokevirtual 489, 3, 170, 1, 14, 80088), (9, .iconst 0, 1, 0, 0, 0, 0), (10, .istore_n 1, 1, 0, 0, 0, 0), (11, .nop, 0, 3, 0, 0, 0), (11, .iload_n 1, 1, 0, 0, 0, 0), (12, .sipush 200, 3, 0, 0, 0, 200), (15, .if_icmp .gt 35, 3, 50, 0, 0, 0), (18, .aload_n 0, 1, 0, 0, 0, 0), (19, .getfield 109, 3, 14, 58, 2, 60074), (22, .iconst 1, 1, 0, 0, 0, 1), (23, .iaload, 1, 0, 0, 0, 0), (24, .ifCond .ne 15, 3, 39, 0, 0, 0), (27, .aload_n 0, 1, 0, 0, 0, 0), (28, .getfield 112, 3, 14, 59, 2, 60075), (31, .iconst 1, 1, 0, 0, 0, 1), (32, .iaload, 1, 0, 0, 0, 0), (33, .iconst (-1), 1, 0, 0, 0, (-1)), (34, .if_icmp .ne 5, 3, 39, 0, 0, 0), (37, .iload_n 1, 1, 0, 0, 0, 0), (38, .ireturn, 1, 0, 0, 0, 0), (39, .nop, 0, 3, 0, 0, 0), (39, .aload_n 0, 1, 0, 0, 0, 0), (40, .iconst 1, 1, 0, 0, 0, 1), (41, .invokevirtual 465, 3, 163, 2, 14, 80037), (44, .iinc 1 1, 3, 0, 0, 0, 0), (47, .goto (-36), 3, 11, 0, 0, 0), (50, .bipush (-2), 2, 0, 0, 0, (-2)), (52, .ireturn, 1, 0, 0, 0, 0)]
/-- 216: SpeakClock.firstMissed(I)I -/
def cd_C_firstMissed : List mE := [(0, .iload_n 1, 1, 0, 0, 0, 0), (1, .ifCond .lt 8, 3, 9, 0, 0, 0), (4, .iload_n 1, 1, 0, 0, 0, 0), (5, .iconst 1, 1, 0, 0, 0, 1), (6, .if_icmp .le 5, 3, 11, 0, 0, 0), (9, .nop, 0, 0, 0, 0, 0), (9, .iconst (-1), 1, 0, 0, 0, (-1)), (10, .ireturn, 1, 0, 0, 0, 0), (11, .aload_n 0, 1, 0, 0, 0, 0), (12, .invokevirtual 220, 3, 166, 1, 13, 40164), (15, .iconst 1, 1, 0, 0, 0, 1), (16, .istore_n 2, 1, 0, 0, 0, 0), (17, .nop, 0, 7, 0, 0, 0), (17, .iload_n 2, 1, 0, 0, 0, 0), (18, .sipush 200, 3, 0, 0, 0, 200), (21, .if_icmp .gt 75, 3, 96, 0, 0, 0), (24, .aload_n 0, 1, 0, 0, 0, 0), (25, .getfield 48, 3, 13, 6, 2, 30025), (28, .aload_n 0, 1, 0, 0, 0, 0), (29, .getfield 39, 3, 13, 4, 2, 30023), (32, .invokevirtual 216, 3, 151, 2, 12, 40091), (35, .iconst 0, 1, 0, 0, 0, 0), (36, .istore_n 3, 1, 0, 0, 0, 0), (37, .nop, 0, 15, 0, 0, 0), (37, .iload_n 3, 1, 0, 0, 0, 0), (38, .aload_n 0, 1, 0, 0, 0, 0), (39, .getfield 70, 3, 13, 9, 2, 30028), (42, .getfield 253, 3, 9, 15, 0, 10239), (45, .if_icmp .ge 45, 3, 90, 0, 0, 0), (48, .aload_n 0, 1, 0, 0, 0, 0), (49, .getfield 39, 3, 13, 4, 2, 30023), (52, .getfield 169, 3, 4, 7, 2, 20111), (55, .iload_n 3, 1, 0, 0, 0, 0), (56, .iaload, 1, 0, 0, 0, 0), (57, .iconst 2, 1, 0, 0, 0, 2), (58, .if_icmp .ne 26, 3, 84, 0, 0, 0), (61, .aload_n 0, 1, 0, 0, 0, 0), (62, .getfield 32, 3, 13, 2, 2, 30021), (65, .getfield 169, 3, 4, 7, 2, 20111), (68, .iload_n 3, 1, 0, 0, 0, 0), (69, .iaload, 1, 0, 0, 0, 0), (70, .iconst 2, 1, 0, 0, 0, 2), (71, .if_icmp .eq 13, 3, 84, 0, 0, 0), (74, .iload_n 1, 1, 0, 0, 0, 0), (75, .ifCond .ne 7, 3, 82, 0, 0, 0), (78, .iload_n 2, 1, 0, 0, 0, 0), (79, .goto 4, 3, 83, 0, 0, 0), (82, .iload_n 3, 1, 0, 0, 0, 0), (83, .nop, 0, 0, 0, 0, 0), (83, .ireturn, 1, 0, 0, 0, 0), (84, .nop, 0, 15, 0, 0, 0), (84, .iinc 3 1, 3, 0, 0, 0, 0), (87, .goto (-50), 3, 37, 0, 0, 0), (90, .iinc 2 1, 3, 0, 0, 0, 0), (93, .goto (-76), 3, 17, 0, 0, 0), (96, .bipush (-2), 2, 0, 0, 0, (-2)), (98, .ireturn, 1, 0, 0, 0, 0)]
/-- 217: SpeakClockModel.firstMissed(I)I -/
def cd_M_firstMissed : List mE := [(0, .aload_n 0, 1, 0, 0, 0, 0), (1, .iconst 0, 1, 0, 0, 0, 0), (2, .putfield 157, 3, 14, 2, 0, 60018), (5, .iload_n 1, 1, 0, 0, 0, 0), (6, .iconst 0, 1, 0, 0, 0, 0), (7, .iconst 1, 1, 0, 0, 0, 1), (8, .invokestatic 202, 3, 67, 3, 14, 70088), (11, .ifCond .ne 5, 3, 16, 0, 0, 0), (14, .iconst (-1), 1, 0, 0, 0, (-1)), (15, .ireturn, 1, 0, 0, 0, 0), (16, .aload_n 0, 1, 0, 0, 0, 0), (17, .invokevirtual 489, 3, 170, 1, 14, 80088), (20, .iconst 1, 1, 0, 0, 0, 1), (21, .istore_n 2, 1, 0, 0, 0, 0), (22, .nop, 0, 7, 0, 0, 0), (22, .iload_n 2, 1, 0, 0, 0, 0), (23, .sipush 200, 3, 0, 0, 0, 200), (26, .if_icmp .gt 63, 3, 89, 0, 0, 0), (29, .aload_n 0, 1, 0, 0, 0, 0), (30, .iconst 1, 1, 0, 0, 0, 1), (31, .invokevirtual 465, 3, 163, 2, 14, 80037), (34, .iconst 0, 1, 0, 0, 0, 0), (35, .istore_n 3, 1, 0, 0, 0, 0), (36, .nop, 0, 15, 0, 0, 0), (36, .iload_n 3, 1, 0, 0, 0, 0), (37, .aload_n 0, 1, 0, 0, 0, 0), (38, .getfield 243, 3, 14, 14, 0, 60030), (41, .if_icmp .ge 42, 3, 83, 0, 0, 0), (44, .aload_n 0, 1, 0, 0, 0, 0), (45, .getfield 124, 3, 14, 63, 2, 60079), (48, .bipush 6, 2, 0, 0, 0, 6), (50, .iload_n 3, 1, 0, 0, 0, 0), (51, .iadd, 1, 0, 0, 0, 0), (52, .iaload, 1, 0, 0, 0, 0), (53, .iconst 2, 1, 0, 0, 0, 2), (54, .if_icmp .ne 23, 3, 77, 0, 0, 0), (57, .aload_n 0, 1, 0, 0, 0, 0), (58, .getfield 124, 3, 14, 63, 2, 60079), (61, .iload_n 3, 1, 0, 0, 0, 0), (62, .iaload, 1, 0, 0, 0, 0), (63, .iconst 2, 1, 0, 0, 0, 2), (64, .if_icmp .eq 13, 3, 77, 0, 0, 0), (67, .iload_n 1, 1, 0, 0, 0, 0), (68, .ifCond .ne 7, 3, 75, 0, 0, 0), (71, .iload_n 2, 1, 0, 0, 0, 0), (72, .goto 4, 3, 76, 0, 0, 0), (75, .iload_n 3, 1, 0, 0, 0, 0), (76, .nop, 0, 0, 0, 0, 0), (76, .ireturn, 1, 0, 0, 0, 0), (77, .nop, 0, 15, 0, 0, 0), (77, .iinc 3 1, 3, 0, 0, 0, 0), (80, .goto (-44), 3, 36, 0, 0, 0), (83, .iinc 2 1, 3, 0, 0, 0, 0), (86, .goto (-64), 3, 22, 0, 0, 0), (89, .bipush (-2), 2, 0, 0, 0, (-2)), (91, .ireturn, 1, 0, 0, 0, 0)]
/-- 218: SpeakClock.longest(I)I -/
def cd_C_longest : List mE := [(0, .iload_n 1, 1, 0, 0, 0, 0), (1, .ifCond .lt 10, 3, 11, 0, 0, 0), (4, .iload_n 1, 1, 0, 0, 0, 0), (5, .sipush 200, 3, 0, 0, 0, 200), (8, .if_icmp .le 5, 3, 13, 0, 0, 0), (11, .nop, 0, 0, 0, 0, 0), (11, .iconst (-1), 1, 0, 0, 0, (-1)), (12, .ireturn, 1, 0, 0, 0, 0), (13, .aload_n 0, 1, 0, 0, 0, 0), (14, .invokevirtual 220, 3, 166, 1, 13, 40164), (17, .aload_n 0, 1, 0, 0, 0, 0), (18, .getfield 32, 3, 13, 2, 2, 30021), (21, .getfield 190, 3, 4, 11, 0, 20120), (24, .istore_n 2, 1, 0, 0, 0, 0), (25, .iconst 0, 1, 0, 0, 0, 0), (26, .istore_n 3, 1, 0, 0, 0, 0), (27, .nop, 0, 15, 0, 0, 0), (27, .iload_n 3, 1, 0, 0, 0, 0), (28, .iload_n 1, 1, 0, 0, 0, 0), (29, .if_icmp .ge 32, 3, 61, 0, 0, 0), (32, .aload_n 0, 1, 0, 0, 0, 0), (33, .getfield 48, 3, 13, 6, 2, 30025), (36, .aload_n 0, 1, 0, 0, 0, 0), (37, .getfield 39, 3, 13, 4, 2, 30023), (40, .invokevirtual 216, 3, 151, 2, 12, 40091), (43, .iload_n 2, 1, 0, 0, 0, 0), (44, .aload_n 0, 1, 0, 0, 0, 0), (45, .getfield 39, 3, 13, 4, 2, 30023), (48, .getfield 190, 3, 4, 11, 0, 20120), (51, .invokestatic 269, 3, 1000, 2, 0, 50043), (54, .istore_n 2, 1, 0, 0, 0, 0), (55, .iinc 3 1, 3, 0, 0, 0, 0), (58, .goto (-31), 3, 27, 0, 0, 0), (61, .iload_n 2, 1, 0, 0, 0, 0), (62, .ireturn, 1, 0, 0, 0, 0)]
/-- 219: SpeakClockModel.longest(I)I -/
def cd_M_longest : List mE := [(0, .aload_n 0, 1, 0, 0, 0, 0), (1, .iconst 0, 1, 0, 0, 0, 0), (2, .putfield 157, 3, 14, 2, 0, 60018), (5, .iload_n 1, 1, 0, 0, 0, 0), (6, .iconst 0, 1, 0, 0, 0, 0), (7, .sipush 200, 3, 0, 0, 0, 200), (10, .invokestatic 202, 3, 67, 3, 14, 70088), (13, .ifCond .ne 5, 3, 18, 0, 0, 0), (16, .iconst (-1), 1, 0, 0, 0, (-1)), (17, .ireturn, 1, 0, 0, 0, 0), (18, .aload_n 0, 1, 0, 0, 0, 0), (19, .invokevirtual 489, 3, 170, 1, 14, 80088), (22, .aload_n 0, 1, 0, 0, 0, 0), (23, .getfield 109, 3, 14, 58, 2, 60074), (26, .iconst 1, 1, 0, 0, 0, 1), (27, .iaload, 1, 0, 0, 0, 0), (28, .istore_n 2, 1, 0, 0, 0, 0), (29, .iconst 0, 1, 0, 0, 0, 0), (30, .istore_n 3, 1, 0, 0, 0, 0), (31, .nop, 0, 15, 0, 0, 0), (31, .iload_n 3, 1, 0, 0, 0, 0), (32, .iload_n 1, 1, 0, 0, 0, 0), (33, .if_icmp .ge 35, 3, 68, 0, 0, 0), (36, .aload_n 0, 1, 0, 0, 0, 0), (37, .iconst 1, 1, 0, 0, 0, 1), (38, .invokevirtual 465, 3, 163, 2, 14, 80037), (41, .aload_n 0, 1, 0, 0, 0, 0), (42, .getfield 109, 3, 14, 58, 2, 60074), (45, .iconst 1, 1, 0, 0, 0, 1), (46, .iaload, 1, 0, 0, 0, 0), (47, .iload_n 2, 1, 0, 0, 0, 0), (48, .if_icmp .le 12, 3, 60, 0, 0, 0), (51, .aload_n 0, 1, 0, 0, 0, 0), (52, .getfield 109, 3, 14, 58, 2, 60074), (55, .iconst 1, 1, 0, 0, 0, 1), (56, .iaload, 1, 0, 0, 0, 0), (57, .goto 4, 3, 61, 0, 0, 0), (60, .iload_n 2, 1, 0, 0, 0, 0), (61, .nop, 0, 11, 0, 0, 0), (61, .istore_n 2, 1, 0, 0, 0, 0), (62, .iinc 3 1, 3, 0, 0, 0, 0), (65, .goto (-34), 3, 31, 0, 0, 0), (68, .iload_n 2, 1, 0, 0, 0, 0), (69, .ireturn, 1, 0, 0, 0, 0)]
/-- 220: SpeakClock.queue(I)I -/
def cd_C_queue : List mE := [(0, .iload_n 1, 1, 0, 0, 0, 0), (1, .ifCond .lt 14, 3, 15, 0, 0, 0), (4, .iload_n 1, 1, 0, 0, 0, 0), (5, .aload_n 0, 1, 0, 0, 0, 0), (6, .getfield 32, 3, 13, 2, 2, 30021), (9, .getfield 190, 3, 4, 11, 0, 20120), (12, .if_icmp .lt 7, 3, 19, 0, 0, 0), (15, .nop, 0, 0, 0, 0, 0), (15, .iconst (-1), 1, 0, 0, 0, (-1)), (16, .goto 12, 3, 28, 0, 0, 0), (19, .aload_n 0, 1, 0, 0, 0, 0), (20, .getfield 32, 3, 13, 2, 2, 30021), (23, .getfield 273, 3, 4, 3, 2, 20099), (26, .iload_n 1, 1, 0, 0, 0, 0), (27, .iaload, 1, 0, 0, 0, 0), (28, .nop, 0, 0, 0, 0, 0), (28, .ireturn, 1, 0, 0, 0, 0)]
/-- 221: SpeakClockModel.queue(I)I -/
def cd_M_queue : List mE := [(0, .aload_n 0, 1, 0, 0, 0, 0), (1, .iconst 0, 1, 0, 0, 0, 0), (2, .putfield 157, 3, 14, 2, 0, 60018), (5, .iload_n 1, 1, 0, 0, 0, 0), (6, .ifCond .lt 13, 3, 19, 0, 0, 0), (9, .iload_n 1, 1, 0, 0, 0, 0), (10, .aload_n 0, 1, 0, 0, 0, 0), (11, .getfield 109, 3, 14, 58, 2, 60074), (14, .iconst 0, 1, 0, 0, 0, 0), (15, .iaload, 1, 0, 0, 0, 0), (16, .if_icmp .lt 5, 3, 21, 0, 0, 0), (19, .nop, 0, 0, 0, 0, 0), (19, .iconst (-1), 1, 0, 0, 0, (-1)), (20, .ireturn, 1, 0, 0, 0, 0), (21, .aload_n 0, 1, 0, 0, 0, 0), (22, .getfield 106, 3, 14, 57, 2, 60073), (25, .iload_n 1, 1, 0, 0, 0, 0), (26, .iaload, 1, 0, 0, 0, 0), (27, .bipush 6, 2, 0, 0, 0, 6), (29, .if_icmp .ne 8, 3, 37, 0, 0, 0), (32, .bipush (-2), 2, 0, 0, 0, (-2)), (34, .goto 9, 3, 43, 0, 0, 0), (37, .aload_n 0, 1, 0, 0, 0, 0), (38, .getfield 106, 3, 14, 57, 2, 60073), (41, .iload_n 1, 1, 0, 0, 0, 0), (42, .iaload, 1, 0, 0, 0, 0), (43, .nop, 0, 0, 0, 0, 0), (43, .ireturn, 1, 0, 0, 0, 0)]
/-- 222: SpeakClock.there(I)I -/
def cd_C_there : List mE := [(0, .aload_n 0, 1, 0, 0, 0, 0), (1, .iload_n 1, 1, 0, 0, 0, 0), (2, .invokevirtual 117, 3, 94, 2, 13, 40012), (5, .ifCond .ne 5, 3, 10, 0, 0, 0), (8, .iconst (-1), 1, 0, 0, 0, (-1)), (9, .ireturn, 1, 0, 0, 0, 0), (10, .iconst 0, 1, 0, 0, 0, 0), (11, .istore_n 2, 1, 0, 0, 0, 0), (12, .iconst 0, 1, 0, 0, 0, 0), (13, .istore_n 3, 1, 0, 0, 0, 0), (14, .nop, 0, 15, 0, 0, 0), (14, .iload_n 3, 1, 0, 0, 0, 0), (15, .aload_n 0, 1, 0, 0, 0, 0), (16, .getfield 70, 3, 13, 9, 2, 30028), (19, .getfield 253, 3, 9, 15, 0, 10239), (22, .if_icmp .ge 91, 3, 113, 0, 0, 0), (25, .aload_n 0, 1, 0, 0, 0, 0), (26, .getfield 70, 3, 13, 9, 2, 30028), (29, .getfield 160, 3, 9, 7, 2, 10206), (32, .iload_n 3, 1, 0, 0, 0, 0), (33, .iaload, 1, 0, 0, 0, 0), (34, .iload_n 1, 1, 0, 0, 0, 0), (35, .if_icmp .ne 20, 3, 55, 0, 0, 0), (38, .aload_n 0, 1, 0, 0, 0, 0), (39, .getfield 32, 3, 13, 2, 2, 30021), (42, .getfield 172, 3, 4, 5, 2, 20104), (45, .iload_n 3, 1, 0, 0, 0, 0), (46, .iaload, 1, 0, 0, 0, 0), (47, .iconst (-1), 1, 0, 0, 0, (-1)), (48, .if_icmp .eq 7, 3, 55, 0, 0, 0), (51, .iconst 1, 1, 0, 0, 0, 1), (52, .goto 4, 3, 56, 0, 0, 0), (55, .nop, 0, 15, 0, 0, 0), (55, .iconst 0, 1, 0, 0, 0, 0), (56, .nop, 0, 15, 0, 0, 0), (56, .istore 4, 2, 0, 0, 0, 0), (58, .aload_n 0, 1, 0, 0, 0, 0), (59, .getfield 70, 3, 13, 9, 2, 30028), (62, .getfield 163, 3, 9, 8, 2, 10210), (65, .iload_n 3, 1, 0, 0, 0, 0), (66, .iaload, 1, 0, 0, 0, 0), (67, .iload_n 1, 1, 0, 0, 0, 0), (68, .if_icmp .ne 20, 3, 88, 0, 0, 0), (71, .aload_n 0, 1, 0, 0, 0, 0), (72, .getfield 32, 3, 13, 2, 2, 30021), (75, .getfield 175, 3, 4, 6, 2, 20107), (78, .iload_n 3, 1, 0, 0, 0, 0), (79, .iaload, 1, 0, 0, 0, 0), (80, .iconst (-1), 1, 0, 0, 0, (-1)), (81, .if_icmp .eq 7, 3, 88, 0, 0, 0), (84, .iconst 1, 1, 0, 0, 0, 1), (85, .goto 4, 3, 89, 0, 0, 0), (88, .nop, 0, 31, 0, 0, 0), (88, .iconst 0, 1, 0, 0, 0, 0), (89, .nop, 0, 31, 0, 0, 0), (89, .istore 5, 2, 0, 0, 0, 0), (91, .iload 4, 2, 0, 0, 0, 0), (93, .ifCond .ne 8, 3, 101, 0, 0, 0), (96, .iload 5, 2, 0, 0, 0, 0), (98, .ifCond .eq 9, 3, 107, 0, 0, 0), (101, .nop, 0, 15, 0, 0, 0), (101, .iload_n 2, 1, 0, 0, 0, 0), (102, .iconst 1, 1, 0, 0, 0, 1), (103, .iload_n 3, 1, 0, 0, 0, 0), (104, .ishl, 1, 0, 0, 0, 0), (105, .ior, 1, 0, 0, 0, 0), (106, .istore_n 2, 1, 0, 0, 0, 0), (107, .nop, 0, 15, 0, 0, 0), (107, .iinc 3 1, 3, 0, 0, 0, 0), (110, .goto (-96), 3, 14, 0, 0, 0), (113, .iload_n 2, 1, 0, 0, 0, 0), (114, .ireturn, 1, 0, 0, 0, 0)]
/-- 223: SpeakClockModel.there(I)I -/
def cd_M_there : List mE := [(0, .aload_n 0, 1, 0, 0, 0, 0), (1, .iconst 0, 1, 0, 0, 0, 0), (2, .putfield 157, 3, 14, 2, 0, 60018), (5, .aload_n 0, 1, 0, 0, 0, 0), (6, .iload_n 1, 1, 0, 0, 0, 0), (7, .invokevirtual 468, 3, 99, 2, 14, 70174), (10, .ifCond .ne 5, 3, 15, 0, 0, 0), (13, .iconst (-1), 1, 0, 0, 0, (-1)), (14, .ireturn, 1, 0, 0, 0, 0), (15, .iconst 0, 1, 0, 0, 0, 0), (16, .istore_n 2, 1, 0, 0, 0, 0), (17, .iconst 0, 1, 0, 0, 0, 0), (18, .istore_n 3, 1, 0, 0, 0, 0), (19, .nop, 0, 15, 0, 0, 0), (19, .iload_n 3, 1, 0, 0, 0, 0), (20, .aload_n 0, 1, 0, 0, 0, 0), (21, .getfield 243, 3, 14, 14, 0, 60030), (24, .if_icmp .ge 63, 3, 87, 0, 0, 0), (27, .iload_n 2, 1, 0, 0, 0, 0), (28, .aload_n 0, 1, 0, 0, 0, 0), (29, .getfield 48, 3, 14, 31, 2, 60047), (32, .iload_n 3, 1, 0, 0, 0, 0), (33, .iaload, 1, 0, 0, 0, 0), (34, .iload_n 1, 1, 0, 0, 0, 0), (35, .if_icmp .ne 14, 3, 49, 0, 0, 0), (38, .aload_n 0, 1, 0, 0, 0, 0), (39, .getfield 121, 3, 14, 62, 2, 60078), (42, .iconst 2, 1, 0, 0, 0, 2), (43, .iload_n 3, 1, 0, 0, 0, 0), (44, .imul, 1, 0, 0, 0, 0), (45, .iaload, 1, 0, 0, 0, 0), (46, .ifCond .ge 26, 3, 72, 0, 0, 0), (49, .nop, 0, 11, 0, 0, 0), (49, .aload_n 0, 1, 0, 0, 0, 0), (50, .getfield 51, 3, 14, 32, 2, 60048), (53, .iload_n 3, 1, 0, 0, 0, 0), (54, .iaload, 1, 0, 0, 0, 0), (55, .iload_n 1, 1, 0, 0, 0, 0), (56, .if_icmp .ne 22, 3, 78, 0, 0, 0), (59, .aload_n 0, 1, 0, 0, 0, 0), (60, .getfield 121, 3, 14, 62, 2, 60078), (63, .iconst 2, 1, 0, 0, 0, 2), (64, .iload_n 3, 1, 0, 0, 0, 0), (65, .imul, 1, 0, 0, 0, 0), (66, .iconst 1, 1, 0, 0, 0, 1), (67, .iadd, 1, 0, 0, 0, 0), (68, .iaload, 1, 0, 0, 0, 0), (69, .ifCond .lt 9, 3, 78, 0, 0, 0), (72, .nop, 0, 11, 0, 0, 0), (72, .iconst 1, 1, 0, 0, 0, 1), (73, .iload_n 3, 1, 0, 0, 0, 0), (74, .ishl, 1, 0, 0, 0, 0), (75, .goto 4, 3, 79, 0, 0, 0), (78, .nop, 0, 11, 0, 0, 0), (78, .iconst 0, 1, 0, 0, 0, 0), (79, .nop, 0, 11, 0, 0, 0), (79, .ior, 1, 0, 0, 0, 0), (80, .istore_n 2, 1, 0, 0, 0, 0), (81, .iinc 3 1, 3, 0, 0, 0, 0), (84, .goto (-65), 3, 19, 0, 0, 0), (87, .iload_n 2, 1, 0, 0, 0, 0), (88, .ireturn, 1, 0, 0, 0, 0)]
/-- 224: SpeakClock$Seen.addSight(IIIZ)I -/
def cd_Seen_addSight : List mE := [(0, .aload_n 0, 1, 0, 0, 0, 0), (1, .getfield 31, 3, 10, 6, 0, 20214), (4, .bipush 24, 2, 0, 0, 0, 24), (6, .if_icmp .lt 5, 3, 11, 0, 0, 0), (9, .iconst (-1), 1, 0, 0, 0, (-1)), (10, .ireturn, 1, 0, 0, 0, 0), (11, .aload_n 0, 1, 0, 0, 0, 0), (12, .getfield 9, 3, 10, 0, 2, 20208), (15, .aload_n 0, 1, 0, 0, 0, 0), (16, .getfield 31, 3, 10, 6, 0, 20214), (19, .iload_n 1, 1, 0, 0, 0, 0), (20, .iastore, 1, 0, 0, 0, 0), (21, .aload_n 0, 1, 0, 0, 0, 0), (22, .getfield 15, 3, 10, 1, 2, 20209), (25, .aload_n 0, 1, 0, 0, 0, 0), (26, .getfield 31, 3, 10, 6, 0, 20214), (29, .iload_n 2, 1, 0, 0, 0, 0), (30, .iastore, 1, 0, 0, 0, 0), (31, .aload_n 0, 1, 0, 0, 0, 0), (32, .getfield 18, 3, 10, 2, 2, 20210), (35, .aload_n 0, 1, 0, 0, 0, 0), (36, .getfield 31, 3, 10, 6, 0, 20214), (39, .iload_n 3, 1, 0, 0, 0, 0), (40, .iastore, 1, 0, 0, 0, 0), (41, .aload_n 0, 1, 0, 0, 0, 0), (42, .getfield 24, 3, 10, 4, 2, 20212), (45, .aload_n 0, 1, 0, 0, 0, 0), (46, .getfield 31, 3, 10, 6, 0, 20214), (49, .iload 4, 2, 0, 0, 0, 0), (51, .bastore, 1, 0, 0, 0, 0), (52, .aload_n 0, 1, 0, 0, 0, 0), (53, .getfield 21, 3, 10, 3, 2, 20211), (56, .aload_n 0, 1, 0, 0, 0, 0), (57, .getfield 31, 3, 10, 6, 0, 20214), (60, .iconst (-1), 1, 0, 0, 0, (-1)), (61, .iastore, 1, 0, 0, 0, 0), (62, .aload_n 0, 1, 0, 0, 0, 0), (63, .dup, 1, 0, 0, 0, 0), (64, .getfield 31, 3, 10, 6, 0, 20214), (67, .iconst 1, 1, 0, 0, 0, 1), (68, .iadd, 1, 0, 0, 0, 0), (69, .putfield 31, 3, 10, 6, 0, 20214), (72, .aload_n 0, 1, 0, 0, 0, 0), (73, .getfield 31, 3, 10, 6, 0, 20214), (76, .iconst 1, 1, 0, 0, 0, 1), (77, .isub, 1, 0, 0, 0, 0), (78, .ireturn, 1, 0, 0, 0, 0)]
/-- 225: SpeakClock.see(IIIZ)I -/
def cd_C_see : List mE := [(0, .iload_n 1, 1, 0, 0, 0, 0), (1, .iconst 1, 1, 0, 0, 0, 1), (2, .if_icmp .lt 31, 3, 33, 0, 0, 0), (5, .iload_n 1, 1, 0, 0, 0, 0), (6, .bipush 99, 2, 0, 0, 0, 99), (8, .if_icmp .gt 25, 3, 33, 0, 0, 0), (11, .aload_n 0, 1, 0, 0, 0, 0), (12, .iload_n 2, 1, 0, 0, 0, 0), (13, .invokevirtual 117, 3, 94, 2, 13, 40012), (16, .ifCond .eq 17, 3, 33, 0, 0, 0), (19, .iload_n 3, 1, 0, 0, 0, 0), (20, .sipush (-200), 3, 0, 0, 0, (-200)), (23, .if_icmp .lt 10, 3, 33, 0, 0, 0), (26, .iload_n 3, 1, 0, 0, 0, 0), (27, .sipush 400, 3, 0, 0, 0, 400), (30, .if_icmp .le 5, 3, 35, 0, 0, 0), (33, .nop, 0, 0, 0, 0, 0), (33, .iconst (-1), 1, 0, 0, 0, (-1)), (34, .ireturn, 1, 0, 0, 0, 0), (35, .aload_n 0, 1, 0, 0, 0, 0), (36, .getfield 55, 3, 13, 7, 2, 30026), (39, .iload_n 1, 1, 0, 0, 0, 0), (40, .iload_n 2, 1, 0, 0, 0, 0), (41, .iload_n 3, 1, 0, 0, 0, 0), (42, .iload 4, 2, 0, 0, 0, 0), (44, .invokevirtual 276, 3, 224, 5, 10, 50056), (47, .ireturn, 1, 0, 0, 0, 0)]
/-- 226: SpeakClockModel.noted(IIII)I -/
def cd_M_noted : List mE := [(0, .aload_n 0, 1, 0, 0, 0, 0), (1, .getfield 136, 3, 14, 77, 2, 60093), (4, .iconst 4, 1, 0, 0, 0, 4), (5, .aload_n 0, 1, 0, 0, 0, 0), (6, .getfield 369, 3, 14, 75, 0, 60091), (9, .imul, 1, 0, 0, 0, 0), (10, .iload_n 1, 1, 0, 0, 0, 0), (11, .iastore, 1, 0, 0, 0, 0), (12, .aload_n 0, 1, 0, 0, 0, 0), (13, .getfield 136, 3, 14, 77, 2, 60093), (16, .iconst 4, 1, 0, 0, 0, 4), (17, .aload_n 0, 1, 0, 0, 0, 0), (18, .getfield 369, 3, 14, 75, 0, 60091), (21, .imul, 1, 0, 0, 0, 0), (22, .iconst 1, 1, 0, 0, 0, 1), (23, .iadd, 1, 0, 0, 0, 0), (24, .iload_n 2, 1, 0, 0, 0, 0), (25, .iastore, 1, 0, 0, 0, 0), (26, .aload_n 0, 1, 0, 0, 0, 0), (27, .getfield 136, 3, 14, 77, 2, 60093), (30, .iconst 4, 1, 0, 0, 0, 4), (31, .aload_n 0, 1, 0, 0, 0, 0), (32, .getfield 369, 3, 14, 75, 0, 60091), (35, .imul, 1, 0, 0, 0, 0), (36, .iconst 2, 1, 0, 0, 0, 2), (37, .iadd, 1, 0, 0, 0, 0), (38, .iload_n 3, 1, 0, 0, 0, 0), (39, .iastore, 1, 0, 0, 0, 0), (40, .aload_n 0, 1, 0, 0, 0, 0), (41, .getfield 136, 3, 14, 77, 2, 60093), (44, .iconst 4, 1, 0, 0, 0, 4), (45, .aload_n 0, 1, 0, 0, 0, 0), (46, .getfield 369, 3, 14, 75, 0, 60091), (49, .imul, 1, 0, 0, 0, 0), (50, .iconst 3, 1, 0, 0, 0, 3), (51, .iadd, 1, 0, 0, 0, 0), (52, .iload 4, 2, 0, 0, 0, 0), (54, .iastore, 1, 0, 0, 0, 0), (55, .aload_n 0, 1, 0, 0, 0, 0), (56, .dup, 1, 0, 0, 0, 0), (57, .getfield 369, 3, 14, 75, 0, 60091), (60, .iconst 1, 1, 0, 0, 0, 1), (61, .iadd, 1, 0, 0, 0, 0), (62, .putfield 369, 3, 14, 75, 0, 60091), (65, .aload_n 0, 1, 0, 0, 0, 0), (66, .getfield 369, 3, 14, 75, 0, 60091), (69, .iconst 1, 1, 0, 0, 0, 1), (70, .isub, 1, 0, 0, 0, 0), (71, .ireturn, 1, 0, 0, 0, 0)]
/-- 227: SpeakClockModel.see(IIIZ)I -/
def cd_M_see : List mE := [(0, .aload_n 0, 1, 0, 0, 0, 0), (1, .iconst 0, 1, 0, 0, 0, 0), (2, .putfield 157, 3, 14, 2, 0, 60018), (5, .aload_n 0, 1, 0, 0, 0, 0), (6, .getfield 369, 3, 14, 75, 0, 60091), (9, .bipush 24, 2, 0, 0, 0, 24), (11, .if_icmp .eq 34, 3, 45, 0, 0, 0), (14, .iload_n 1, 1, 0, 0, 0, 0), (15, .iconst 1, 1, 0, 0, 0, 1), (16, .bipush 99, 2, 0, 0, 0, 99), (18, .invokestatic 202, 3, 67, 3, 14, 70088), (21, .ifCond .eq 24, 3, 45, 0, 0, 0), (24, .aload_n 0, 1, 0, 0, 0, 0), (25, .iload_n 2, 1, 0, 0, 0, 0), (26, .invokevirtual 468, 3, 99, 2, 14, 70174), (29, .ifCond .eq 16, 3, 45, 0, 0, 0), (32, .iload_n 3, 1, 0, 0, 0, 0), (33, .sipush (-200), 3, 0, 0, 0, (-200)), (36, .sipush 400, 3, 0, 0, 0, 400), (39, .invokestatic 202, 3, 67, 3, 14, 70088), (42, .ifCond .ne 7, 3, 49, 0, 0, 0), (45, .nop, 0, 0, 0, 0, 0), (45, .iconst (-1), 1, 0, 0, 0, (-1)), (46, .goto 20, 3, 66, 0, 0, 0), (49, .aload_n 0, 1, 0, 0, 0, 0), (50, .iload_n 1, 1, 0, 0, 0, 0), (51, .iload_n 2, 1, 0, 0, 0, 0), (52, .iload_n 3, 1, 0, 0, 0, 0), (53, .iload 4, 2, 0, 0, 0, 0), (55, .ifCond .eq 7, 3, 62, 0, 0, 0), (58, .iconst 1, 1, 0, 0, 0, 1), (59, .goto 4, 3, 63, 0, 0, 0), (62, .iconst 0, 1, 0, 0, 0, 0), (63, .nop, 0, 0, 0, 0, 0), (63, .invokevirtual 519, 3, 226, 5, 14, 80197), (66, .nop, 0, 0, 0, 0, 0), (66, .ireturn, 1, 0, 0, 0, 0)]
/-- 228: SpeakClock$Seen.addStrike(I)I -/
def cd_Seen_addStrike : List mE := [(0, .aload_n 0, 1, 0, 0, 0, 0), (1, .getfield 31, 3, 10, 6, 0, 20214), (4, .bipush 24, 2, 0, 0, 0, 24), (6, .if_icmp .ge 15, 3, 21, 0, 0, 0), (9, .iload_n 1, 1, 0, 0, 0, 0), (10, .ifCond .lt 11, 3, 21, 0, 0, 0), (13, .iload_n 1, 1, 0, 0, 0, 0), (14, .aload_n 0, 1, 0, 0, 0, 0), (15, .getfield 31, 3, 10, 6, 0, 20214), (18, .if_icmp .lt 5, 3, 23, 0, 0, 0), (21, .nop, 0, 0, 0, 0, 0), (21, .iconst (-1), 1, 0, 0, 0, (-1)), (22, .ireturn, 1, 0, 0, 0, 0), (23, .aload_n 0, 1, 0, 0, 0, 0), (24, .getfield 21, 3, 10, 3, 2, 20211), (27, .aload_n 0, 1, 0, 0, 0, 0), (28, .getfield 31, 3, 10, 6, 0, 20214), (31, .iload_n 1, 1, 0, 0, 0, 0), (32, .iastore, 1, 0, 0, 0, 0), (33, .aload_n 0, 1, 0, 0, 0, 0), (34, .dup, 1, 0, 0, 0, 0), (35, .getfield 31, 3, 10, 6, 0, 20214), (38, .iconst 1, 1, 0, 0, 0, 1), (39, .iadd, 1, 0, 0, 0, 0), (40, .putfield 31, 3, 10, 6, 0, 20214), (43, .aload_n 0, 1, 0, 0, 0, 0), (44, .getfield 31, 3, 10, 6, 0, 20214), (47, .iconst 1, 1, 0, 0, 0, 1), (48, .isub, 1, 0, 0, 0, 0), (49, .ireturn, 1, 0, 0, 0, 0)]
/-- 229: SpeakClock.strike(I)I -/
def cd_C_strike : List mE := [(0, .aload_n 0, 1, 0, 0, 0, 0), (1, .getfield 55, 3, 13, 7, 2, 30026), (4, .iload_n 1, 1, 0, 0, 0, 0), (5, .invokevirtual 280, 3, 228, 2, 10, 50064), (8, .ireturn, 1, 0, 0, 0, 0)]
/-- 230: SpeakClockModel.strike(I)I -/
def cd_M_strike : List mE := [(0, .aload_n 0, 1, 0, 0, 0, 0), (1, .iconst 0, 1, 0, 0, 0, 0), (2, .putfield 157, 3, 14, 2, 0, 60018), (5, .aload_n 0, 1, 0, 0, 0, 0), (6, .getfield 369, 3, 14, 75, 0, 60091), (9, .bipush 24, 2, 0, 0, 0, 24), (11, .if_icmp .eq 15, 3, 26, 0, 0, 0), (14, .iload_n 1, 1, 0, 0, 0, 0), (15, .ifCond .lt 11, 3, 26, 0, 0, 0), (18, .iload_n 1, 1, 0, 0, 0, 0), (19, .aload_n 0, 1, 0, 0, 0, 0), (20, .getfield 369, 3, 14, 75, 0, 60091), (23, .if_icmp .lt 7, 3, 30, 0, 0, 0), (26, .nop, 0, 0, 0, 0, 0), (26, .iconst (-1), 1, 0, 0, 0, (-1)), (27, .goto 11, 3, 38, 0, 0, 0), (30, .aload_n 0, 1, 0, 0, 0, 0), (31, .iconst (-1), 1, 0, 0, 0, (-1)), (32, .iload_n 1, 1, 0, 0, 0, 0), (33, .iconst 0, 1, 0, 0, 0, 0), (34, .iconst 0, 1, 0, 0, 0, 0), (35, .invokevirtual 519, 3, 226, 5, 14, 80197), (38, .nop, 0, 0, 0, 0, 0), (38, .ireturn, 1, 0, 0, 0, 0)]
/-- 231: SpeakClock.known(I)Z -/
def cd_C_known : List mE := [(0, .iload_n 1, 1, 0, 0, 0, 0), (1, .iconst (-1), 1, 0, 0, 0, (-1)), (2, .if_icmp .lt 14, 3, 16, 0, 0, 0), (5, .iload_n 1, 1, 0, 0, 0, 0), (6, .aload_n 0, 1, 0, 0, 0, 0), (7, .getfield 55, 3, 13, 7, 2, 30026), (10, .getfield 283, 3, 10, 6, 0, 20215), (13, .if_icmp .le 5, 3, 18, 0, 0, 0), (16, .nop, 0, 0, 0, 0, 0), (16, .iconst 0, 1, 0, 0, 0, 0), (17, .ireturn, 1, 1, 0, 0, 0), (18, .aload_n 0, 1, 0, 0, 0, 0), (19, .getfield 55, 3, 13, 7, 2, 30026), (22, .iload_n 1, 1, 0, 0, 0, 0), (23, .putfield 284, 3, 10, 7, 0, 20217), (26, .iconst 1, 1, 0, 0, 0, 1), (27, .ireturn, 1, 1, 0, 0, 0)]
/-- 232: SpeakClockModel.known(I)Z -/
def cd_M_known : List mE := [(0, .aload_n 0, 1, 0, 0, 0, 0), (1, .iconst 0, 1, 0, 0, 0, 0), (2, .putfield 157, 3, 14, 2, 0, 60018), (5, .iload_n 1, 1, 0, 0, 0, 0), (6, .iconst (-1), 1, 0, 0, 0, (-1)), (7, .aload_n 0, 1, 0, 0, 0, 0), (8, .getfield 369, 3, 14, 75, 0, 60091), (11, .invokestatic 202, 3, 67, 3, 14, 70088), (14, .ifCond .ne 5, 3, 19, 0, 0, 0), (17, .iconst 0, 1, 0, 0, 0, 0), (18, .ireturn, 1, 1, 0, 0, 0), (19, .aload_n 0, 1, 0, 0, 0, 0), (20, .iload_n 1, 1, 0, 0, 0, 0), (21, .putfield 133, 3, 14, 76, 0, 60092), (24, .iconst 1, 1, 0, 0, 0, 1), (25, .ireturn, 1, 1, 0, 0, 0)]
/-- 233: SpeakClock$Seen.knownBy()I -/
def cd_Seen_knownBy : List mE := [(0, .aload_n 0, 1, 0, 0, 0, 0), (1, .getfield 35, 3, 10, 7, 0, 20216), (4, .iconst (-1), 1, 0, 0, 0, (-1)), (5, .if_icmp .ne 10, 3, 15, 0, 0, 0), (8, .aload_n 0, 1, 0, 0, 0, 0), (9, .getfield 31, 3, 10, 6, 0, 20214), (12, .goto 14, 3, 26, 0, 0, 0), (15, .aload_n 0, 1, 0, 0, 0, 0), (16, .getfield 35, 3, 10, 7, 0, 20216), (19, .aload_n 0, 1, 0, 0, 0, 0), (20, .getfield 31, 3, 10, 6, 0, 20214), (23, .invokestatic 38, 3, 1001, 2, 0, 50084), (26, .nop, 0, 0, 0, 0, 0), (26, .ireturn, 1, 0, 0, 0, 0)]
/-- 234: SpeakClock$Seen.judge()V -/
def cd_Seen_judge : List mE := [(0, .aload_n 0, 1, 0, 0, 0, 0), (1, .invokevirtual 44, 3, 233, 1, 10, 50080), (4, .istore_n 1, 1, 0, 0, 0, 0), (5, .iconst 0, 1, 0, 0, 0, 0), (6, .istore_n 2, 1, 0, 0, 0, 0), (7, .nop, 0, 7, 0, 0, 0), (7, .iload_n 2, 1, 0, 0, 0, 0), (8, .bipush 24, 2, 0, 0, 0, 24), (10, .if_icmp .ge 25, 3, 35, 0, 0, 0), (13, .aload_n 0, 1, 0, 0, 0, 0), (14, .getfield 28, 3, 10, 5, 2, 20213), (17, .iload_n 2, 1, 0, 0, 0, 0), (18, .iload_n 2, 1, 0, 0, 0, 0), (19, .iload_n 1, 1, 0, 0, 0, 0), (20, .if_icmp .ge 7, 3, 27, 0, 0, 0), (23, .iconst 1, 1, 0, 0, 0, 1), (24, .goto 4, 3, 28, 0, 0, 0), (27, .iconst 0, 1, 0, 0, 0, 0), (28, .nop, 0, 7, 0, 0, 0), (28, .bastore, 1, 0, 0, 0, 0), (29, .iinc 2 1, 3, 0, 0, 0, 0), (32, .goto (-25), 3, 7, 0, 0, 0), (35, .iload_n 1, 1, 0, 0, 0, 0), (36, .iconst 1, 1, 0, 0, 0, 1), (37, .isub, 1, 0, 0, 0, 0), (38, .istore_n 2, 1, 0, 0, 0, 0), (39, .nop, 0, 5, 0, 0, 0), (39, .iload_n 2, 1, 0, 0, 0, 0), (40, .ifCond .lt 47, 3, 87, 0, 0, 0), (43, .aload_n 0, 1, 0, 0, 0, 0), (44, .getfield 21, 3, 10, 3, 2, 20211), (47, .iload_n 2, 1, 0, 0, 0, 0), (48, .iaload, 1, 0, 0, 0, 0), (49, .iconst (-1), 1, 0, 0, 0, (-1)), (50, .if_icmp .eq 31, 3, 81, 0, 0, 0), (53, .aload_n 0, 1, 0, 0, 0, 0), (54, .getfield 28, 3, 10, 5, 2, 20213), (57, .iload_n 2, 1, 0, 0, 0, 0), (58, .baload, 1, 0, 0, 0, 0), (59, .ifCond .eq 15, 3, 74, 0, 0, 0), (62, .aload_n 0, 1, 0, 0, 0, 0), (63, .getfield 28, 3, 10, 5, 2, 20213), (66, .aload_n 0, 1, 0, 0, 0, 0), (67, .getfield 21, 3, 10, 3, 2, 20211), (70, .iload_n 2, 1, 0, 0, 0, 0), (71, .iaload, 1, 0, 0, 0, 0), (72, .iconst 0, 1, 0, 0, 0, 0), (73, .bastore, 1, 0, 0, 0, 0), (74, .nop, 0, 5, 0, 0, 0), (74, .aload_n 0, 1, 0, 0, 0, 0), (75, .getfield 28, 3, 10, 5, 2, 20213), (78, .iload_n 2, 1, 0, 0, 0, 0), (79, .iconst 0, 1, 0, 0, 0, 0), (80, .bastore, 1, 0, 0, 0, 0), (81, .nop, 0, 5, 0, 0, 0), (81, .iinc 2 (-1), 3, 0, 0, 0, 0), (84, .goto (-45), 3, 39, 0, 0, 0), (87, .return_, 1, 0, 0, 0, 0)]
/-- 235: SpeakClock$Seen.lastMinute()I -/
def cd_Seen_lastMinute : List mE := [(0, .iconst 0, 1, 0, 0, 0, 0), (1, .istore_n 1, 1, 0, 0, 0, 0), (2, .iconst 0, 1, 0, 0, 0, 0), (3, .istore_n 2, 1, 0, 0, 0, 0), (4, .nop, 0, 7, 0, 0, 0), (4, .iload_n 2, 1, 0, 0, 0, 0), (5, .aload_n 0, 1, 0, 0, 0, 0), (6, .getfield 31, 3, 10, 6, 0, 20214), (9, .if_icmp .ge 29, 3, 38, 0, 0, 0), (12, .aload_n 0, 1, 0, 0, 0, 0), (13, .getfield 28, 3, 10, 5, 2, 20213), (16, .iload_n 2, 1, 0, 0, 0, 0), (17, .baload, 1, 0, 0, 0, 0), (18, .ifCond .eq 14, 3, 32, 0, 0, 0), (21, .iload_n 1, 1, 0, 0, 0, 0), (22, .aload_n 0, 1, 0, 0, 0, 0), (23, .getfield 9, 3, 10, 0, 2, 20208), (26, .iload_n 2, 1, 0, 0, 0, 0), (27, .iaload, 1, 0, 0, 0, 0), (28, .invokestatic 48, 3, 1000, 2, 0, 50093), (31, .istore_n 1, 1, 0, 0, 0, 0), (32, .nop, 0, 7, 0, 0, 0), (32, .iinc 2 1, 3, 0, 0, 0, 0), (35, .goto (-31), 3, 4, 0, 0, 0), (38, .iload_n 1, 1, 0, 0, 0, 0), (39, .ireturn, 1, 0, 0, 0, 0)]
/-- 236: SpeakClock$Seen.isSo(LSpeakClock$Day;)Z -/
def cd_Seen_isSo : List mE := [(0, .iconst 0, 1, 0, 0, 0, 0), (1, .istore_n 2, 1, 0, 0, 0, 0), (2, .nop, 0, 7, 0, 0, 0), (2, .iload_n 2, 1, 0, 0, 0, 0), (3, .aload_n 0, 1, 0, 0, 0, 0), (4, .getfield 31, 3, 10, 6, 0, 20214), (7, .if_icmp .ge 72, 3, 79, 0, 0, 0), (10, .aload_n 0, 1, 0, 0, 0, 0), (11, .getfield 28, 3, 10, 5, 2, 20213), (14, .iload_n 2, 1, 0, 0, 0, 0), (15, .baload, 1, 0, 0, 0, 0), (16, .ifCond .eq 57, 3, 73, 0, 0, 0), (19, .aload_n 0, 1, 0, 0, 0, 0), (20, .getfield 9, 3, 10, 0, 2, 20208), (23, .iload_n 2, 1, 0, 0, 0, 0), (24, .iaload, 1, 0, 0, 0, 0), (25, .aload_n 1, 1, 0, 0, 0, 0), (26, .getfield 51, 3, 4, 10, 0, 20117), (29, .if_icmp .ne 44, 3, 73, 0, 0, 0), (32, .aload_n 1, 1, 0, 0, 0, 0), (33, .getfield 51, 3, 4, 10, 0, 20117), (36, .aload_n 1, 1, 0, 0, 0, 0), (37, .getfield 56, 3, 4, 0, 2, 20090), (40, .aload_n 0, 1, 0, 0, 0, 0), (41, .getfield 15, 3, 10, 1, 2, 20209), (44, .iload_n 2, 1, 0, 0, 0, 0), (45, .iaload, 1, 0, 0, 0, 0), (46, .iaload, 1, 0, 0, 0, 0), (47, .iadd, 1, 0, 0, 0, 0), (48, .aload_n 0, 1, 0, 0, 0, 0), (49, .getfield 18, 3, 10, 2, 2, 20210), (52, .iload_n 2, 1, 0, 0, 0, 0), (53, .iaload, 1, 0, 0, 0, 0), (54, .if_icmp .lt 7, 3, 61, 0, 0, 0), (57, .iconst 1, 1, 0, 0, 0, 1), (58, .goto 4, 3, 62, 0, 0, 0), (61, .iconst 0, 1, 0, 0, 0, 0), (62, .nop, 0, 7, 0, 0, 0), (62, .aload_n 0, 1, 0, 0, 0, 0), (63, .getfield 24, 3, 10, 4, 2, 20212), (66, .iload_n 2, 1, 0, 0, 0, 0), (67, .baload, 1, 0, 0, 0, 0), (68, .if_icmp .eq 5, 3, 73, 0, 0, 0), (71, .iconst 0, 1, 0, 0, 0, 0), (72, .ireturn, 1, 1, 0, 0, 0), (73, .nop, 0, 7, 0, 0, 0), (73, .iinc 2 1, 3, 0, 0, 0, 0), (76, .goto (-74), 3, 2, 0, 0, 0), (79, .iconst 1, 1, 0, 0, 0, 1), (80, .ireturn, 1, 1, 0, 0, 0)]
/-- 237: SpeakClock.isAllSeenSo()Z -/
def cd_C_isAllSeenSo : List mE := [(0, .aload_n 0, 1, 0, 0, 0, 0), (1, .getfield 39, 3, 13, 4, 2, 30023), (4, .aload_n 0, 1, 0, 0, 0, 0), (5, .getfield 70, 3, 13, 9, 2, 30028), (8, .invokevirtual 98, 3, 56, 2, 4, 30223), (11, .aload_n 0, 1, 0, 0, 0, 0), (12, .getfield 55, 3, 13, 7, 2, 30026), (15, .invokevirtual 336, 3, 235, 1, 10, 50089), (18, .istore_n 1, 1, 0, 0, 0, 0), (19, .iconst 0, 1, 0, 0, 0, 0), (20, .istore_n 2, 1, 0, 0, 0, 0), (21, .nop, 0, 7, 0, 0, 0), (21, .iload_n 2, 1, 0, 0, 0, 0), (22, .iload_n 1, 1, 0, 0, 0, 0), (23, .if_icmp .ge 36, 3, 59, 0, 0, 0), (26, .aload_n 0, 1, 0, 0, 0, 0), (27, .getfield 48, 3, 13, 6, 2, 30025), (30, .aload_n 0, 1, 0, 0, 0, 0), (31, .getfield 39, 3, 13, 4, 2, 30023), (34, .invokevirtual 216, 3, 151, 2, 12, 40091), (37, .aload_n 0, 1, 0, 0, 0, 0), (38, .getfield 55, 3, 13, 7, 2, 30026), (41, .aload_n 0, 1, 0, 0, 0, 0), (42, .getfield 39, 3, 13, 4, 2, 30023), (45, .invokevirtual 339, 3, 236, 2, 10, 50094), (48, .ifCond .ne 5, 3, 53, 0, 0, 0), (51, .iconst 0, 1, 0, 0, 0, 0), (52, .ireturn, 1, 1, 0, 0, 0), (53, .iinc 2 1, 3, 0, 0, 0, 0), (56, .goto (-35), 3, 21, 0, 0, 0), (59, .iconst 1, 1, 0, 0, 0, 1), (60, .ireturn, 1, 1, 0, 0, 0)]
/-- 238: SpeakClock.rates(I)I -/
def cd_C_rates : List mE := [(0, .aload_n 0, 1, 0, 0, 0, 0), (1, .iload_n 1, 1, 0, 0, 0, 0), (2, .invokevirtual 117, 3, 94, 2, 13, 40012), (5, .ifCond .ne 5, 3, 10, 0, 0, 0), (8, .iconst (-1), 1, 0, 0, 0, (-1)), (9, .ireturn, 1, 0, 0, 0, 0), (10, .aload_n 0, 1, 0, 0, 0, 0), (11, .getfield 55, 3, 13, 7, 2, 30026), (14, .invokevirtual 287, 3, 234, 1, 10, 50076), (17, .iconst 0, 1, 0, 0, 0, 0), (18, .istore_n 2, 1, 0, 0, 0, 0), (19, .iconst 0, 1, 0, 0, 0, 0), (20, .istore_n 3, 1, 0, 0, 0, 0), (21, .nop, 0, 15, 0, 0, 0), (21, .iload_n 3, 1, 0, 0, 0, 0), (22, .bipush 10, 2, 0, 0, 0, 10), (24, .if_icmp .ge 43, 3, 67, 0, 0, 0), (27, .aload_n 0, 1, 0, 0, 0, 0), (28, .getfield 48, 3, 13, 6, 2, 30025), (31, .iconst 0, 1, 0, 0, 0, 0), (32, .invokevirtual 186, 3, 110, 2, 12, 40022), (35, .aload_n 0, 1, 0, 0, 0, 0), (36, .getfield 48, 3, 13, 6, 2, 30025), (39, .getfield 290, 3, 12, 1, 2, 20174), (42, .iload_n 1, 1, 0, 0, 0, 0), (43, .bipush (-4), 2, 0, 0, 0, (-4)), (45, .iload_n 3, 1, 0, 0, 0, 0), (46, .iadd, 1, 0, 0, 0, 0), (47, .iastore, 1, 0, 0, 0, 0), (48, .aload_n 0, 1, 0, 0, 0, 0), (49, .invokevirtual 291, 3, 237, 1, 13, 50085), (52, .ifCond .eq 9, 3, 61, 0, 0, 0), (55, .iload_n 2, 1, 0, 0, 0, 0), (56, .iconst 1, 1, 0, 0, 0, 1), (57, .iload_n 3, 1, 0, 0, 0, 0), (58, .ishl, 1, 0, 0, 0, 0), (59, .ior, 1, 0, 0, 0, 0), (60, .istore_n 2, 1, 0, 0, 0, 0), (61, .nop, 0, 15, 0, 0, 0), (61, .iinc 3 1, 3, 0, 0, 0, 0), (64, .goto (-43), 3, 21, 0, 0, 0), (67, .iload_n 2, 1, 0, 0, 0, 0), (68, .ireturn, 1, 0, 0, 0, 0)]
/-- 239: SpeakClockModel.knownBy()I -/
def cd_M_knownBy : List mE := [(0, .aload_n 0, 1, 0, 0, 0, 0), (1, .getfield 133, 3, 14, 76, 0, 60092), (4, .ifCond .ge 10, 3, 14, 0, 0, 0), (7, .aload_n 0, 1, 0, 0, 0, 0), (8, .getfield 369, 3, 14, 75, 0, 60091), (11, .goto 7, 3, 18, 0, 0, 0), (14, .aload_n 0, 1, 0, 0, 0, 0), (15, .getfield 133, 3, 14, 76, 0, 60092), (18, .nop, 0, 0, 0, 0, 0), (18, .ireturn, 1, 0, 0, 0, 0)]
/-- 240: SpeakClockModel.isSo(I)Z -/
def cd_M_isSo : List mE := [(0, .iconst 0, 1, 0, 0, 0, 0), (1, .istore_n 2, 1, 0, 0, 0, 0), (2, .nop, 0, 7, 0, 0, 0), (2, .iload_n 2, 1, 0, 0, 0, 0), (3, .aload_n 0, 1, 0, 0, 0, 0), (4, .invokevirtual 522, 3, 239, 1, 14, 80213), (7, .if_icmp .ge 97, 3, 104, 0, 0, 0), (10, .aload_n 0, 1, 0, 0, 0, 0), (11, .getfield 139, 3, 14, 78, 2, 60094), (14, .iload_n 2, 1, 0, 0, 0, 0), (15, .baload, 1, 0, 0, 0, 0), (16, .ifCond .eq 82, 3, 98, 0, 0, 0), (19, .aload_n 0, 1, 0, 0, 0, 0), (20, .getfield 136, 3, 14, 77, 2, 60093), (23, .iconst 4, 1, 0, 0, 0, 4), (24, .iload_n 2, 1, 0, 0, 0, 0), (25, .imul, 1, 0, 0, 0, 0), (26, .iaload, 1, 0, 0, 0, 0), (27, .iload_n 1, 1, 0, 0, 0, 0), (28, .if_icmp .eq 6, 3, 34, 0, 0, 0), (31, .goto 67, 3, 98, 0, 0, 0), (34, .iload_n 1, 1, 0, 0, 0, 0), (35, .aload_n 0, 1, 0, 0, 0, 0), (36, .getfield 100, 3, 14, 55, 2, 60071), (39, .bipush 6, 2, 0, 0, 0, 6), (41, .aload_n 0, 1, 0, 0, 0, 0), (42, .getfield 136, 3, 14, 77, 2, 60093), (45, .iconst 4, 1, 0, 0, 0, 4), (46, .iload_n 2, 1, 0, 0, 0, 0), (47, .imul, 1, 0, 0, 0, 0), (48, .iconst 1, 1, 0, 0, 0, 1), (49, .iadd, 1, 0, 0, 0, 0), (50, .iaload, 1, 0, 0, 0, 0), (51, .iadd, 1, 0, 0, 0, 0), (52, .iaload, 1, 0, 0, 0, 0), (53, .iadd, 1, 0, 0, 0, 0), (54, .aload_n 0, 1, 0, 0, 0, 0), (55, .getfield 136, 3, 14, 77, 2, 60093), (58, .iconst 4, 1, 0, 0, 0, 4), (59, .iload_n 2, 1, 0, 0, 0, 0), (60, .imul, 1, 0, 0, 0, 0), (61, .iconst 2, 1, 0, 0, 0, 2), (62, .iadd, 1, 0, 0, 0, 0), (63, .iaload, 1, 0, 0, 0, 0), (64, .if_icmp .lt 7, 3, 71, 0, 0, 0), (67, .iconst 1, 1, 0, 0, 0, 1), (68, .goto 4, 3, 72, 0, 0, 0), (71, .iconst 0, 1, 0, 0, 0, 0), (72, .nop, 0, 7, 0, 0, 0), (72, .istore_n 3, 1, 0, 0, 0, 0), (73, .iload_n 3, 1, 0, 0, 0, 0), (74, .aload_n 0, 1, 0, 0, 0, 0), (75, .getfield 136, 3, 14, 77, 2, 60093), (78, .iconst 4, 1, 0, 0, 0, 4), (79, .iload_n 2, 1, 0, 0, 0, 0), (80, .imul, 1, 0, 0, 0, 0), (81, .iconst 3, 1, 0, 0, 0, 3), (82, .iadd, 1, 0, 0, 0, 0), (83, .iaload, 1, 0, 0, 0, 0), (84, .iconst 1, 1, 0, 0, 0, 1), (85, .if_icmp .ne 7, 3, 92, 0, 0, 0), (88, .iconst 1, 1, 0, 0, 0, 1), (89, .goto 4, 3, 93, 0, 0, 0), (92, .iconst 0, 1, 0, 0, 0, 0), (93, .nop, 0, 7, 0, 0, 0), (93, .if_icmp .eq 5, 3, 98, 0, 0, 0), (96, .iconst 0, 1, 0, 0, 0, 0), (97, .ireturn, 1, 1, 0, 0, 0), (98, .nop, 0, 7, 0, 0, 0), (98, .iinc 2 1, 3, 0, 0, 0, 0), (101, .goto (-99), 3, 2, 0, 0, 0), (104, .iconst 1, 1, 0, 0, 0, 1), (105, .ireturn, 1, 1, 0, 0, 0)]
/-- 241: SpeakClockModel.fits(II)Z -/
def cd_M_fits : List mE := [(0, .aload_n 0, 1, 0, 0, 0, 0), (1, .iconst 1, 1, 0, 0, 0, 1), (2, .invokevirtual 359, 3, 12, 2, 14, 60008), (5, .aload_n 0, 1, 0, 0, 0, 0), (6, .invokevirtual 366, 3, 13, 1, 14, 60012), (9, .aload_n 0, 1, 0, 0, 0, 0), (10, .iload_n 1, 1, 0, 0, 0, 0), (11, .putfield 396, 3, 14, 73, 0, 60089), (14, .aload_n 0, 1, 0, 0, 0, 0), (15, .iload_n 2, 1, 0, 0, 0, 0), (16, .putfield 399, 3, 14, 74, 0, 60090), (19, .iconst 1, 1, 0, 0, 0, 1), (20, .istore_n 3, 1, 0, 0, 0, 0), (21, .nop, 0, 9, 0, 0, 0), (21, .iload_n 3, 1, 0, 0, 0, 0), (22, .bipush 99, 2, 0, 0, 0, 99), (24, .if_icmp .gt 24, 3, 48, 0, 0, 0), (27, .aload_n 0, 1, 0, 0, 0, 0), (28, .iconst 1, 1, 0, 0, 0, 1), (29, .invokevirtual 465, 3, 163, 2, 14, 80037), (32, .aload_n 0, 1, 0, 0, 0, 0), (33, .iload_n 3, 1, 0, 0, 0, 0), (34, .invokevirtual 525, 3, 240, 2, 14, 80221), (37, .ifCond .ne 5, 3, 42, 0, 0, 0), (40, .iconst 0, 1, 0, 0, 0, 0), (41, .ireturn, 1, 1, 0, 0, 0), (42, .iinc 3 1, 3, 0, 0, 0, 0), (45, .goto (-24), 3, 21, 0, 0, 0), (48, .iconst 1, 1, 0, 0, 0, 1), (49, .ireturn, 1, 1, 0, 0, 0)]
/-- 242: SpeakClockModel.rates(I)I -/
def cd_M_rates : List mE := [(0, .aload_n 0, 1, 0, 0, 0, 0), (1, .iconst 0, 1, 0, 0, 0, 0), (2, .putfield 157, 3, 14, 2, 0, 60018), (5, .aload_n 0, 1, 0, 0, 0, 0), (6, .iload_n 1, 1, 0, 0, 0, 0), (7, .invokevirtual 468, 3, 99, 2, 14, 70174), (10, .ifCond .ne 5, 3, 15, 0, 0, 0), (13, .iconst (-1), 1, 0, 0, 0, (-1)), (14, .ireturn, 1, 0, 0, 0, 0), (15, .iconst 0, 1, 0, 0, 0, 0), (16, .istore_n 2, 1, 0, 0, 0, 0), (17, .nop, 0, 7, 0, 0, 0), (17, .iload_n 2, 1, 0, 0, 0, 0), (18, .aload_n 0, 1, 0, 0, 0, 0), (19, .invokevirtual 522, 3, 239, 1, 14, 80213), (22, .if_icmp .ge 16, 3, 38, 0, 0, 0), (25, .aload_n 0, 1, 0, 0, 0, 0), (26, .getfield 139, 3, 14, 78, 2, 60094), (29, .iload_n 2, 1, 0, 0, 0, 0), (30, .iconst 1, 1, 0, 0, 0, 1), (31, .bastore, 1, 0, 0, 0, 0), (32, .iinc 2 1, 3, 0, 0, 0, 0), (35, .goto (-18), 3, 17, 0, 0, 0), (38, .aload_n 0, 1, 0, 0, 0, 0), (39, .invokevirtual 522, 3, 239, 1, 14, 80213), (42, .iconst 1, 1, 0, 0, 0, 1), (43, .isub, 1, 0, 0, 0, 0), (44, .istore_n 2, 1, 0, 0, 0, 0), (45, .nop, 0, 7, 0, 0, 0), (45, .iload_n 2, 1, 0, 0, 0, 0), (46, .ifCond .lt 45, 3, 91, 0, 0, 0), (49, .aload_n 0, 1, 0, 0, 0, 0), (50, .getfield 139, 3, 14, 78, 2, 60094), (53, .iload_n 2, 1, 0, 0, 0, 0), (54, .baload, 1, 0, 0, 0, 0), (55, .ifCond .eq 30, 3, 85, 0, 0, 0), (58, .aload_n 0, 1, 0, 0, 0, 0), (59, .getfield 136, 3, 14, 77, 2, 60093), (62, .iconst 4, 1, 0, 0, 0, 4), (63, .iload_n 2, 1, 0, 0, 0, 0), (64, .imul, 1, 0, 0, 0, 0), (65, .iaload, 1, 0, 0, 0, 0), (66, .ifCond .ge 19, 3, 85, 0, 0, 0), (69, .aload_n 0, 1, 0, 0, 0, 0), (70, .getfield 139, 3, 14, 78, 2, 60094), (73, .aload_n 0, 1, 0, 0, 0, 0), (74, .getfield 136, 3, 14, 77, 2, 60093), (77, .iconst 4, 1, 0, 0, 0, 4), (78, .iload_n 2, 1, 0, 0, 0, 0), (79, .imul, 1, 0, 0, 0, 0), (80, .iconst 1, 1, 0, 0, 0, 1), (81, .iadd, 1, 0, 0, 0, 0), (82, .iaload, 1, 0, 0, 0, 0), (83, .iconst 0, 1, 0, 0, 0, 0), (84, .bastore, 1, 0, 0, 0, 0), (85, .nop, 0, 7, 0, 0, 0), (85, .iinc 2 (-1), 3, 0, 0, 0, 0), (88, .goto (-43), 3, 45, 0, 0, 0), (91, .iconst 0, 1, 0, 0, 0, 0), (92, .istore_n 2, 1, 0, 0, 0, 0), (93, .iconst 0, 1, 0, 0, 0, 0), (94, .istore_n 3, 1, 0, 0, 0, 0), (95, .nop, 0, 15, 0, 0, 0), (95, .iload_n 3, 1, 0, 0, 0, 0), (96, .bipush 10, 2, 0, 0, 0, 10), (98, .if_icmp .ge 30, 3, 128, 0, 0, 0), (101, .iload_n 2, 1, 0, 0, 0, 0), (102, .aload_n 0, 1, 0, 0, 0, 0), (103, .iload_n 1, 1, 0, 0, 0, 0), (104, .iload_n 3, 1, 0, 0, 0, 0), (105, .iconst 4, 1, 0, 0, 0, 4), (106, .isub, 1, 0, 0, 0, 0), (107, .invokevirtual 528, 3, 241, 3, 14, 80217), (110, .ifCond .eq 9, 3, 119, 0, 0, 0), (113, .iconst 1, 1, 0, 0, 0, 1), (114, .iload_n 3, 1, 0, 0, 0, 0), (115, .ishl, 1, 0, 0, 0, 0), (116, .goto 4, 3, 120, 0, 0, 0), (119, .iconst 0, 1, 0, 0, 0, 0), (120, .nop, 0, 11, 0, 0, 0), (120, .ior, 1, 0, 0, 0, 0), (121, .istore_n 2, 1, 0, 0, 0, 0), (122, .iinc 3 1, 3, 0, 0, 0, 0), (125, .goto (-30), 3, 95, 0, 0, 0), (128, .aload_n 0, 1, 0, 0, 0, 0), (129, .invokevirtual 366, 3, 13, 1, 14, 60012), (132, .iload_n 2, 1, 0, 0, 0, 0), (133, .ireturn, 1, 0, 0, 0, 0)]
/-- 243: SpeakClock.chance(III)I -/
def cd_C_chance : List mE := [(0, .iload_n 1, 1, 0, 0, 0, 0), (1, .ifCond .lt 23, 3, 24, 0, 0, 0), (4, .iload_n 2, 1, 0, 0, 0, 0), (5, .iconst 1, 1, 0, 0, 0, 1), (6, .if_icmp .lt 18, 3, 24, 0, 0, 0), (9, .iload_n 2, 1, 0, 0, 0, 0), (10, .sipush 200, 3, 0, 0, 0, 200), (13, .if_icmp .gt 11, 3, 24, 0, 0, 0), (16, .aload_n 0, 1, 0, 0, 0, 0), (17, .iload_n 3, 1, 0, 0, 0, 0), (18, .invokevirtual 157, 3, 104, 2, 13, 40004), (21, .ifCond .ne 5, 3, 26, 0, 0, 0), (24, .nop, 0, 0, 0, 0, 0), (24, .iconst (-1), 1, 0, 0, 0, (-1)), (25, .ireturn, 1, 0, 0, 0, 0), (26, .aload_n 0, 1, 0, 0, 0, 0), (27, .getfield 48, 3, 13, 6, 2, 30025), (30, .iconst 1, 1, 0, 0, 0, 1), (31, .invokevirtual 186, 3, 110, 2, 12, 40022), (34, .iload_n 1, 1, 0, 0, 0, 0), (35, .istore 4, 2, 0, 0, 0, 0), (37, .iconst 0, 1, 0, 0, 0, 0), (38, .istore 5, 2, 0, 0, 0, 0), (40, .iconst 0, 1, 0, 0, 0, 0), (41, .istore 6, 2, 0, 0, 0, 0), (43, .nop, 0, 125, 0, 0, 0), (43, .iload 6, 2, 0, 0, 0, 0), (45, .bipush 10, 2, 0, 0, 0, 10), (47, .if_icmp .ge 59, 3, 106, 0, 0, 0), (50, .aload_n 0, 1, 0, 0, 0, 0), (51, .getfield 39, 3, 13, 4, 2, 30023), (54, .aload_n 0, 1, 0, 0, 0, 0), (55, .getfield 32, 3, 13, 2, 2, 30021), (58, .invokevirtual 232, 3, 165, 2, 4, 40168), (61, .aload_n 0, 1, 0, 0, 0, 0), (62, .getfield 39, 3, 13, 4, 2, 30023), (65, .iload 4, 2, 0, 0, 0, 0), (67, .putfield 295, 3, 4, 14, 0, 20128), (70, .aload_n 0, 1, 0, 0, 0, 0), (71, .iload_n 2, 1, 0, 0, 0, 0), (72, .invokevirtual 223, 3, 167, 2, 13, 40173), (75, .aload_n 0, 1, 0, 0, 0, 0), (76, .getfield 39, 3, 13, 4, 2, 30023), (79, .getfield 295, 3, 4, 14, 0, 20128), (82, .istore 4, 2, 0, 0, 0, 0), (84, .aload_n 0, 1, 0, 0, 0, 0), (85, .getfield 39, 3, 13, 4, 2, 30023), (88, .getfield 169, 3, 4, 7, 2, 20111), (91, .iload_n 3, 1, 0, 0, 0, 0), (92, .iaload, 1, 0, 0, 0, 0), (93, .iconst 1, 1, 0, 0, 0, 1), (94, .if_icmp .ne 6, 3, 100, 0, 0, 0), (97, .iinc 5 1, 3, 0, 0, 0, 0), (100, .nop, 0, 125, 0, 0, 0), (100, .iinc 6 1, 3, 0, 0, 0, 0), (103, .goto (-60), 3, 43, 0, 0, 0), (106, .iload 5, 2, 0, 0, 0, 0), (108, .ireturn, 1, 0, 0, 0, 0)]
/-- 244: SpeakClockModel.chance(III)I -/
def cd_M_chance : List mE := [(0, .aload_n 0, 1, 0, 0, 0, 0), (1, .iconst 0, 1, 0, 0, 0, 0), (2, .putfield 157, 3, 14, 2, 0, 60018), (5, .iload_n 1, 1, 0, 0, 0, 0), (6, .ifCond .lt 22, 3, 28, 0, 0, 0), (9, .iload_n 2, 1, 0, 0, 0, 0), (10, .iconst 1, 1, 0, 0, 0, 1), (11, .sipush 200, 3, 0, 0, 0, 200), (14, .invokestatic 202, 3, 67, 3, 14, 70088), (17, .ifCond .eq 11, 3, 28, 0, 0, 0), (20, .aload_n 0, 1, 0, 0, 0, 0), (21, .iload_n 3, 1, 0, 0, 0, 0), (22, .invokevirtual 477, 3, 106, 2, 14, 70190), (25, .ifCond .ne 5, 3, 30, 0, 0, 0), (28, .nop, 0, 0, 0, 0, 0), (28, .iconst (-1), 1, 0, 0, 0, (-1)), (29, .ireturn, 1, 0, 0, 0, 0), (30, .aload_n 0, 1, 0, 0, 0, 0), (31, .getfield 362, 3, 14, 66, 1, 60082), (34, .lstore 4, 2, 0, 0, 0, 0), (36, .aload_n 0, 1, 0, 0, 0, 0), (37, .iload_n 1, 1, 0, 0, 0, 0), (38, .i2l, 1, 0, 0, 0, 0), (39, .putfield 362, 3, 14, 66, 1, 60082), (42, .iconst 0, 1, 0, 0, 0, 0), (43, .istore 6, 2, 0, 0, 0, 0), (45, .iconst 0, 1, 0, 0, 0, 0), (46, .istore 7, 2, 0, 0, 0, 0), (48, .nop, 0, 221, 0, 0, 0), (48, .iload 7, 2, 0, 0, 0, 0), (50, .bipush 10, 2, 0, 0, 0, 10), (52, .if_icmp .ge 46, 3, 98, 0, 0, 0), (55, .aload_n 0, 1, 0, 0, 0, 0), (56, .invokevirtual 489, 3, 170, 1, 14, 80088), (59, .aload_n 0, 1, 0, 0, 0, 0), (60, .iconst 1, 1, 0, 0, 0, 1), (61, .putfield 378, 3, 14, 67, 3, 60083), (64, .aload_n 0, 1, 0, 0, 0, 0), (65, .iload_n 2, 1, 0, 0, 0, 0), (66, .invokevirtual 492, 3, 171, 2, 14, 80092), (69, .iload 6, 2, 0, 0, 0, 0), (71, .aload_n 0, 1, 0, 0, 0, 0), (72, .getfield 124, 3, 14, 63, 2, 60079), (75, .bipush 6, 2, 0, 0, 0, 6), (77, .iload_n 3, 1, 0, 0, 0, 0), (78, .iadd, 1, 0, 0, 0, 0), (79, .iaload, 1, 0, 0, 0, 0), (80, .iconst 1, 1, 0, 0, 0, 1), (81, .if_icmp .ne 7, 3, 88, 0, 0, 0), (84, .iconst 1, 1, 0, 0, 0, 1), (85, .goto 4, 3, 89, 0, 0, 0), (88, .iconst 0, 1, 0, 0, 0, 0), (89, .nop, 0, 157, 0, 0, 0), (89, .iadd, 1, 0, 0, 0, 0), (90, .istore 6, 2, 0, 0, 0, 0), (92, .iinc 7 1, 3, 0, 0, 0, 0), (95, .goto (-47), 3, 48, 0, 0, 0), (98, .aload_n 0, 1, 0, 0, 0, 0), (99, .iconst 0, 1, 0, 0, 0, 0), (100, .putfield 378, 3, 14, 67, 3, 60083), (103, .aload_n 0, 1, 0, 0, 0, 0), (104, .lload 4, 2, 0, 0, 0, 0), (106, .putfield 362, 3, 14, 66, 1, 60082), (109, .iload 6, 2, 0, 0, 0, 0), (111, .ireturn, 1, 0, 0, 0, 0)]
/-- 245: SpeakClock$Way.change(II)V -/
def cd_Way_change : List mE := [(0, .iload_n 1, 1, 0, 0, 0, 0), (1, .tableswitch 63 0 3 #[31, 39, 47, 55], 31, 64, 13, 0, 0), (32, .aload_n 0, 1, 0, 0, 0, 0), (33, .iconst 0, 1, 0, 0, 0, 0), (34, .putfield 29, 3, 12, 4, 0, 20178), (37, .goto 49, 3, 86, 0, 0, 0), (40, .aload_n 0, 1, 0, 0, 0, 0), (41, .iconst 0, 1, 0, 0, 0, 0), (42, .putfield 33, 3, 12, 5, 0, 20179), (45, .goto 41, 3, 86, 0, 0, 0), (48, .aload_n 0, 1, 0, 0, 0, 0), (49, .iload_n 2, 1, 0, 0, 0, 0), (50, .putfield 36, 3, 12, 6, 0, 20180), (53, .goto 33, 3, 86, 0, 0, 0), (56, .aload_n 0, 1, 0, 0, 0, 0), (57, .iconst 0, 1, 0, 0, 0, 0), (58, .putfield 39, 3, 12, 7, 3, 20181), (61, .goto 25, 3, 86, 0, 0, 0), (64, .iconst 0, 1, 0, 0, 0, 0), (65, .istore_n 3, 1, 0, 0, 0, 0), (66, .nop, 0, 9, 0, 0, 0), (66, .iload_n 3, 1, 0, 0, 0, 0), (67, .bipush 6, 2, 0, 0, 0, 6), (69, .if_icmp .ge 17, 3, 86, 0, 0, 0), (72, .aload_n 0, 1, 0, 0, 0, 0), (73, .getfield 9, 3, 12, 0, 2, 20172), (76, .iload_n 3, 1, 0, 0, 0, 0), (77, .bipush 30, 2, 0, 0, 0, 30), (79, .iastore, 1, 0, 0, 0, 0), (80, .iinc 3 1, 3, 0, 0, 0, 0), (83, .goto (-17), 3, 66, 0, 0, 0), (86, .nop, 0, 0, 0, 0, 0), (86, .return_, 1, 0, 0, 0, 0)]
/-- 246: SpeakClock.tried(III)I -/
def cd_C_tried : List mE := [(0, .iload_n 1, 1, 0, 0, 0, 0), (1, .ifCond .lt 19, 3, 20, 0, 0, 0), (4, .iload_n 1, 1, 0, 0, 0, 0), (5, .iconst 4, 1, 0, 0, 0, 4), (6, .if_icmp .gt 14, 3, 20, 0, 0, 0), (9, .iload_n 3, 1, 0, 0, 0, 0), (10, .ifCond .lt 10, 3, 20, 0, 0, 0), (13, .iload_n 3, 1, 0, 0, 0, 0), (14, .sipush 200, 3, 0, 0, 0, 200), (17, .if_icmp .le 5, 3, 22, 0, 0, 0), (20, .nop, 0, 0, 0, 0, 0), (20, .iconst (-1), 1, 0, 0, 0, (-1)), (21, .ireturn, 1, 0, 0, 0, 0), (22, .iload_n 1, 1, 0, 0, 0, 0), (23, .iconst 2, 1, 0, 0, 0, 2), (24, .if_icmp .ne 14, 3, 38, 0, 0, 0), (27, .aload_n 0, 1, 0, 0, 0, 0), (28, .iload_n 2, 1, 0, 0, 0, 0), (29, .invokevirtual 117, 3, 94, 2, 13, 40012), (32, .ifCond .ne 12, 3, 44, 0, 0, 0), (35, .goto 7, 3, 42, 0, 0, 0), (38, .iload_n 2, 1, 0, 0, 0, 0), (39, .ifCond .eq 5, 3, 44, 0, 0, 0), (42, .nop, 0, 0, 0, 0, 0), (42, .iconst (-1), 1, 0, 0, 0, (-1)), (43, .ireturn, 1, 0, 0, 0, 0), (44, .nop, 0, 15, 0, 0, 0), (44, .aload_n 0, 1, 0, 0, 0, 0), (45, .invokevirtual 220, 3, 166, 1, 13, 40164), (48, .aload_n 0, 1, 0, 0, 0, 0), (49, .getfield 48, 3, 13, 6, 2, 30025), (52, .iload_n 1, 1, 0, 0, 0, 0), (53, .iload_n 2, 1, 0, 0, 0, 0), (54, .invokevirtual 298, 3, 245, 3, 12, 50106), (57, .aload_n 0, 1, 0, 0, 0, 0), (58, .iload_n 3, 1, 0, 0, 0, 0), (59, .invokevirtual 223, 3, 167, 2, 13, 40173), (62, .aload_n 0, 1, 0, 0, 0, 0), (63, .getfield 39, 3, 13, 4, 2, 30023), (66, .iconst 1, 1, 0, 0, 0, 1), (67, .invokevirtual 226, 3, 168, 2, 4, 40177), (70, .aload_n 0, 1, 0, 0, 0, 0), (71, .getfield 32, 3, 13, 2, 2, 30021), (74, .iconst 1, 1, 0, 0, 0, 1), (75, .invokevirtual 226, 3, 168, 2, 4, 40177), (78, .isub, 1, 0, 0, 0, 0), (79, .ireturn, 1, 0, 0, 0, 0)]
/-- 247: SpeakClockModel.tried(III)I -/
def cd_M_tried : List mE := [(0, .aload_n 0, 1, 0, 0, 0, 0), (1, .iconst 0, 1, 0, 0, 0, 0), (2, .putfield 157, 3, 14, 2, 0, 60018), (5, .iload_n 1, 1, 0, 0, 0, 0), (6, .iconst 0, 1, 0, 0, 0, 0), (7, .iconst 4, 1, 0, 0, 0, 4), (8, .invokestatic 202, 3, 67, 3, 14, 70088), (11, .ifCond .eq 34, 3, 45, 0, 0, 0), (14, .iload_n 3, 1, 0, 0, 0, 0), (15, .iconst 0, 1, 0, 0, 0, 0), (16, .sipush 200, 3, 0, 0, 0, 200), (19, .invokestatic 202, 3, 67, 3, 14, 70088), (22, .ifCond .eq 23, 3, 45, 0, 0, 0), (25, .iload_n 1, 1, 0, 0, 0, 0), (26, .iconst 2, 1, 0, 0, 0, 2), (27, .if_icmp .ne 14, 3, 41, 0, 0, 0), (30, .aload_n 0, 1, 0, 0, 0, 0), (31, .iload_n 2, 1, 0, 0, 0, 0), (32, .invokevirtual 468, 3, 99, 2, 14, 70174), (35, .ifCond .ne 12, 3, 47, 0, 0, 0), (38, .goto 7, 3, 45, 0, 0, 0), (41, .iload_n 2, 1, 0, 0, 0, 0), (42, .ifCond .eq 5, 3, 47, 0, 0, 0), (45, .nop, 0, 0, 0, 0, 0), (45, .iconst (-1), 1, 0, 0, 0, (-1)), (46, .ireturn, 1, 0, 0, 0, 0), (47, .nop, 0, 15, 0, 0, 0), (47, .aload_n 0, 1, 0, 0, 0, 0), (48, .invokevirtual 489, 3, 170, 1, 14, 80088), (51, .aload_n 0, 1, 0, 0, 0, 0), (52, .iload_n 1, 1, 0, 0, 0, 0), (53, .ifCond .ne 7, 3, 60, 0, 0, 0), (56, .iconst 1, 1, 0, 0, 0, 1), (57, .goto 4, 3, 61, 0, 0, 0), (60, .iconst 0, 1, 0, 0, 0, 0), (61, .nop, 0, 15, 0, 0, 0), (61, .putfield 381, 3, 14, 68, 3, 60084), (64, .aload_n 0, 1, 0, 0, 0, 0), (65, .iload_n 1, 1, 0, 0, 0, 0), (66, .iconst 1, 1, 0, 0, 0, 1), (67, .if_icmp .ne 7, 3, 74, 0, 0, 0), (70, .iconst 1, 1, 0, 0, 0, 1), (71, .goto 4, 3, 75, 0, 0, 0), (74, .iconst 0, 1, 0, 0, 0, 0), (75, .nop, 0, 15, 0, 0, 0), (75, .putfield 384, 3, 14, 69, 3, 60085), (78, .aload_n 0, 1, 0, 0, 0, 0), (79, .iload_n 1, 1, 0, 0, 0, 0), (80, .iconst 2, 1, 0, 0, 0, 2), (81, .if_icmp .ne 7, 3, 88, 0, 0, 0), (84, .iload_n 2, 1, 0, 0, 0, 0), (85, .goto 4, 3, 89, 0, 0, 0), (88, .iconst (-1), 1, 0, 0, 0, (-1)), (89, .nop, 0, 11, 0, 0, 0), (89, .putfield 393, 3, 14, 72, 0, 60088), (92, .aload_n 0, 1, 0, 0, 0, 0), (93, .iload_n 1, 1, 0, 0, 0, 0), (94, .iconst 3, 1, 0, 0, 0, 3), (95, .if_icmp .ne 7, 3, 102, 0, 0, 0), (98, .iconst 1, 1, 0, 0, 0, 1), (99, .goto 4, 3, 103, 0, 0, 0), (102, .iconst 0, 1, 0, 0, 0, 0), (103, .nop, 0, 11, 0, 0, 0), (103, .putfield 387, 3, 14, 70, 3, 60086), (106, .aload_n 0, 1, 0, 0, 0, 0), (107, .iload_n 1, 1, 0, 0, 0, 0), (108, .iconst 4, 1, 0, 0, 0, 4), (109, .if_icmp .ne 7, 3, 116, 0, 0, 0), (112, .iconst 1, 1, 0, 0, 0, 1), (113, .goto 4, 3, 117, 0, 0, 0), (116, .iconst 0, 1, 0, 0, 0, 0), (117, .nop, 0, 9, 0, 0, 0), (117, .putfield 390, 3, 14, 71, 3, 60087), (120, .aload_n 0, 1, 0, 0, 0, 0), (121, .iload_n 3, 1, 0, 0, 0, 0), (122, .invokevirtual 492, 3, 171, 2, 14, 80092), (125, .aload_n 0, 1, 0, 0, 0, 0), (126, .invokevirtual 366, 3, 13, 1, 14, 60012), (129, .aload_n 0, 1, 0, 0, 0, 0), (130, .iconst 1, 1, 0, 0, 0, 1), (131, .iconst 1, 1, 0, 0, 0, 1), (132, .invokevirtual 495, 3, 172, 3, 14, 80096), (135, .aload_n 0, 1, 0, 0, 0, 0), (136, .iconst 0, 1, 0, 0, 0, 0), (137, .iconst 1, 1, 0, 0, 0, 1), (138, .invokevirtual 495, 3, 172, 3, 14, 80096), (141, .isub, 1, 0, 0, 0, 0), (142, .ireturn, 1, 0, 0, 0, 0)]
/-- 248: SpeakClock$Day.putIn(II)V -/
def cd_Day_putIn : List mE := [(0, .iload_n 1, 1, 0, 0, 0, 0), (1, .ifCond .lt 20, 3, 21, 0, 0, 0), (4, .iload_n 1, 1, 0, 0, 0, 0), (5, .aload_n 0, 1, 0, 0, 0, 0), (6, .getfield 46, 3, 4, 11, 0, 20118), (9, .if_icmp .gt 12, 3, 21, 0, 0, 0), (12, .aload_n 0, 1, 0, 0, 0, 0), (13, .getfield 46, 3, 4, 11, 0, 20118), (16, .bipush 20, 2, 0, 0, 0, 20), (18, .if_icmp .lt 4, 3, 22, 0, 0, 0), (21, .nop, 0, 0, 0, 0, 0), (21, .return_, 1, 0, 0, 0, 0), (22, .aload_n 0, 1, 0, 0, 0, 0), (23, .getfield 46, 3, 4, 11, 0, 20118), (26, .istore_n 3, 1, 0, 0, 0, 0), (27, .nop, 0, 15, 0, 0, 0), (27, .iload_n 3, 1, 0, 0, 0, 0), (28, .iload_n 1, 1, 0, 0, 0, 0), (29, .if_icmp .le 23, 3, 52, 0, 0, 0), (32, .aload_n 0, 1, 0, 0, 0, 0), (33, .getfield 21, 3, 4, 3, 2, 20097), (36, .iload_n 3, 1, 0, 0, 0, 0), (37, .aload_n 0, 1, 0, 0, 0, 0), (38, .getfield 21, 3, 4, 3, 2, 20097), (41, .iload_n 3, 1, 0, 0, 0, 0), (42, .iconst 1, 1, 0, 0, 0, 1), (43, .isub, 1, 0, 0, 0, 0), (44, .iaload, 1, 0, 0, 0, 0), (45, .iastore, 1, 0, 0, 0, 0), (46, .iinc 3 (-1), 3, 0, 0, 0, 0), (49, .goto (-22), 3, 27, 0, 0, 0), (52, .aload_n 0, 1, 0, 0, 0, 0), (53, .getfield 21, 3, 4, 3, 2, 20097), (56, .iload_n 1, 1, 0, 0, 0, 0), (57, .iload_n 2, 1, 0, 0, 0, 0), (58, .iastore, 1, 0, 0, 0, 0), (59, .aload_n 0, 1, 0, 0, 0, 0), (60, .dup, 1, 0, 0, 0, 0), (61, .getfield 46, 3, 4, 11, 0, 20118), (64, .iconst 1, 1, 0, 0, 0, 1), (65, .iadd, 1, 0, 0, 0, 0), (66, .putfield 46, 3, 4, 11, 0, 20118), (69, .return_, 1, 0, 0, 0, 0)]
/-- 249: SpeakClock.undo()I -/
def cd_C_undo : List mE := [(0, .aload_n 0, 1, 0, 0, 0, 0), (1, .getfield 62, 3, 13, 8, 2, 30027), (4, .getfield 105, 3, 8, 3, 0, 30009), (7, .ifCond .gt 5, 3, 12, 0, 0, 0), (10, .iconst (-1), 1, 0, 0, 0, (-1)), (11, .ireturn, 1, 0, 0, 0, 0), (12, .aload_n 0, 1, 0, 0, 0, 0), (13, .getfield 62, 3, 13, 8, 2, 30027), (16, .dup, 1, 0, 0, 0, 0), (17, .getfield 105, 3, 8, 3, 0, 30009), (20, .iconst 1, 1, 0, 0, 0, 1), (21, .isub, 1, 0, 0, 0, 0), (22, .putfield 105, 3, 8, 3, 0, 30009), (25, .aload_n 0, 1, 0, 0, 0, 0), (26, .getfield 62, 3, 13, 8, 2, 30027), (29, .getfield 302, 3, 8, 1, 2, 30005), (32, .aload_n 0, 1, 0, 0, 0, 0), (33, .getfield 62, 3, 13, 8, 2, 30027), (36, .getfield 105, 3, 8, 3, 0, 30009), (39, .iaload, 1, 0, 0, 0, 0), (40, .istore_n 1, 1, 0, 0, 0, 0), (41, .aload_n 0, 1, 0, 0, 0, 0), (42, .getfield 62, 3, 13, 8, 2, 30027), (45, .getfield 305, 3, 8, 2, 2, 30007), (48, .aload_n 0, 1, 0, 0, 0, 0), (49, .getfield 62, 3, 13, 8, 2, 30027), (52, .getfield 105, 3, 8, 3, 0, 30009), (55, .iaload, 1, 0, 0, 0, 0), (56, .istore_n 2, 1, 0, 0, 0, 0), (57, .aload_n 0, 1, 0, 0, 0, 0), (58, .getfield 62, 3, 13, 8, 2, 30027), (61, .getfield 308, 3, 8, 0, 2, 30003), (64, .aload_n 0, 1, 0, 0, 0, 0), (65, .getfield 62, 3, 13, 8, 2, 30027), (68, .getfield 105, 3, 8, 3, 0, 30009), (71, .iaload, 1, 0, 0, 0, 0), (72, .tableswitch 104 0 3 #[32, 60, 72, 91], 32, 176, 14, 0, 0), (104, .aload_n 0, 1, 0, 0, 0, 0), (105, .getfield 32, 3, 13, 2, 2, 30021), (108, .aload_n 0, 1, 0, 0, 0, 0), (109, .getfield 32, 3, 13, 2, 2, 30021), (112, .iload_n 1, 1, 0, 0, 0, 0), (113, .invokevirtual 149, 3, 95, 2, 4, 40070), (116, .invokevirtual 210, 3, 131, 2, 4, 40071), (119, .aload_n 0, 1, 0, 0, 0, 0), (120, .getfield 32, 3, 13, 2, 2, 30021), (123, .getfield 143, 3, 4, 1, 2, 20092), (126, .iload_n 1, 1, 0, 0, 0, 0), (127, .iload_n 2, 1, 0, 0, 0, 0), (128, .iastore, 1, 0, 0, 0, 0), (129, .goto 57, 3, 186, 0, 0, 0), (132, .aload_n 0, 1, 0, 0, 0, 0), (133, .getfield 32, 3, 13, 2, 2, 30021), (136, .iload_n 2, 1, 0, 0, 0, 0), (137, .iload_n 1, 1, 0, 0, 0, 0), (138, .invokevirtual 311, 3, 248, 3, 4, 50114), (141, .goto 45, 3, 186, 0, 0, 0), (144, .aload_n 0, 1, 0, 0, 0, 0), (145, .getfield 32, 3, 13, 2, 2, 30021), (148, .iload_n 1, 1, 0, 0, 0, 0), (149, .putfield 204, 3, 4, 12, 0, 20123), (152, .aload_n 0, 1, 0, 0, 0, 0), (153, .getfield 32, 3, 13, 2, 2, 30021), (156, .iload_n 2, 1, 0, 0, 0, 0), (157, .putfield 207, 3, 4, 13, 0, 20126), (160, .goto 26, 3, 186, 0, 0, 0), (163, .aload_n 0, 1, 0, 0, 0, 0), (164, .getfield 32, 3, 13, 2, 2, 30021), (167, .getfield 134, 3, 4, 0, 2, 20089), (170, .iload_n 1, 1, 0, 0, 0, 0), (171, .iload_n 2, 1, 0, 0, 0, 0), (172, .iastore, 1, 0, 0, 0, 0), (173, .goto 13, 3, 186, 0, 0, 0), (176, .aload_n 0, 1, 0, 0, 0, 0), (177, .getfield 32, 3, 13, 2, 2, 30021), (180, .getfield 166, 3, 4, 4, 2, 20101), (183, .iload_n 1, 1, 0, 0, 0, 0), (184, .iload_n 2, 1, 0, 0, 0, 0), (185, .iastore, 1, 0, 0, 0, 0), (186, .nop, 0, 1, 0, 0, 0), (186, .aload_n 0, 1, 0, 0, 0, 0), (187, .getfield 62, 3, 13, 8, 2, 30027), (190, .getfield 105, 3, 8, 3, 0, 30009), (193, .ireturn, 1, 0, 0, 0, 0)]
/-- 250: SpeakClockModel.take([II)V -/
def cd_M_take : List mE := [(0, .iconst 0, 1, 0, 0, 0, 0), (1, .istore_n 3, 1, 0, 0, 0, 0), (2, .nop, 0, 15, 0, 0, 0), (2, .iload_n 3, 1, 0, 0, 0, 0), (3, .bipush 6, 2, 0, 0, 0, 6), (5, .if_icmp .ge 62, 3, 67, 0, 0, 0), (8, .aload_n 0, 1, 0, 0, 0, 0), (9, .getfield 94, 3, 14, 53, 2, 60069), (12, .iload_n 3, 1, 0, 0, 0, 0), (13, .aload_n 1, 1, 0, 0, 0, 0), (14, .iload_n 2, 1, 0, 0, 0, 0), (15, .iload_n 3, 1, 0, 0, 0, 0), (16, .iadd, 1, 0, 0, 0, 0), (17, .iaload, 1, 0, 0, 0, 0), (18, .iastore, 1, 0, 0, 0, 0), (19, .aload_n 0, 1, 0, 0, 0, 0), (20, .getfield 97, 3, 14, 54, 2, 60070), (23, .iload_n 3, 1, 0, 0, 0, 0), (24, .aload_n 1, 1, 0, 0, 0, 0), (25, .iload_n 2, 1, 0, 0, 0, 0), (26, .bipush 6, 2, 0, 0, 0, 6), (28, .iadd, 1, 0, 0, 0, 0), (29, .iload_n 3, 1, 0, 0, 0, 0), (30, .iadd, 1, 0, 0, 0, 0), (31, .iaload, 1, 0, 0, 0, 0), (32, .iastore, 1, 0, 0, 0, 0), (33, .aload_n 0, 1, 0, 0, 0, 0), (34, .getfield 100, 3, 14, 55, 2, 60071), (37, .iload_n 3, 1, 0, 0, 0, 0), (38, .aload_n 1, 1, 0, 0, 0, 0), (39, .iload_n 2, 1, 0, 0, 0, 0), (40, .bipush 12, 2, 0, 0, 0, 12), (42, .iadd, 1, 0, 0, 0, 0), (43, .iload_n 3, 1, 0, 0, 0, 0), (44, .iadd, 1, 0, 0, 0, 0), (45, .iaload, 1, 0, 0, 0, 0), (46, .iastore, 1, 0, 0, 0, 0), (47, .aload_n 0, 1, 0, 0, 0, 0), (48, .getfield 118, 3, 14, 61, 2, 60077), (51, .iload_n 3, 1, 0, 0, 0, 0), (52, .aload_n 1, 1, 0, 0, 0, 0), (53, .iload_n 2, 1, 0, 0, 0, 0), (54, .bipush 18, 2, 0, 0, 0, 18), (56, .iadd, 1, 0, 0, 0, 0), (57, .iload_n 3, 1, 0, 0, 0, 0), (58, .iadd, 1, 0, 0, 0, 0), (59, .iaload, 1, 0, 0, 0, 0), (60, .iastore, 1, 0, 0, 0, 0), (61, .iinc 3 1, 3, 0, 0, 0, 0), (64, .goto (-62), 3, 2, 0, 0, 0), (67, .iconst 0, 1, 0, 0, 0, 0), (68, .istore_n 3, 1, 0, 0, 0, 0), (69, .nop, 0, 15, 0, 0, 0), (69, .iload_n 3, 1, 0, 0, 0, 0), (70, .bipush 20, 2, 0, 0, 0, 20), (72, .if_icmp .ge 23, 3, 95, 0, 0, 0), (75, .aload_n 0, 1, 0, 0, 0, 0), (76, .getfield 106, 3, 14, 57, 2, 60073), (79, .iload_n 3, 1, 0, 0, 0, 0), (80, .aload_n 1, 1, 0, 0, 0, 0), (81, .iload_n 2, 1, 0, 0, 0, 0), (82, .bipush 24, 2, 0, 0, 0, 24), (84, .iadd, 1, 0, 0, 0, 0), (85, .iload_n 3, 1, 0, 0, 0, 0), (86, .iadd, 1, 0, 0, 0, 0), (87, .iaload, 1, 0, 0, 0, 0), (88, .iastore, 1, 0, 0, 0, 0), (89, .iinc 3 1, 3, 0, 0, 0, 0), (92, .goto (-23), 3, 69, 0, 0, 0), (95, .aload_n 0, 1, 0, 0, 0, 0), (96, .getfield 109, 3, 14, 58, 2, 60074), (99, .iconst 0, 1, 0, 0, 0, 0), (100, .aload_n 1, 1, 0, 0, 0, 0), (101, .iload_n 2, 1, 0, 0, 0, 0), (102, .bipush 44, 2, 0, 0, 0, 44), (104, .iadd, 1, 0, 0, 0, 0), (105, .iaload, 1, 0, 0, 0, 0), (106, .iastore, 1, 0, 0, 0, 0), (107, .aload_n 0, 1, 0, 0, 0, 0), (108, .getfield 112, 3, 14, 59, 2, 60075), (111, .iconst 0, 1, 0, 0, 0, 0), (112, .aload_n 1, 1, 0, 0, 0, 0), (113, .iload_n 2, 1, 0, 0, 0, 0), (114, .bipush 45, 2, 0, 0, 0, 45), (116, .iadd, 1, 0, 0, 0, 0), (117, .iaload, 1, 0, 0, 0, 0), (118, .iastore, 1, 0, 0, 0, 0), (119, .aload_n 0, 1, 0, 0, 0, 0), (120, .getfield 115, 3, 14, 60, 2, 60076), (123, .iconst 0, 1, 0, 0, 0, 0), (124, .aload_n 1, 1, 0, 0, 0, 0), (125, .iload_n 2, 1, 0, 0, 0, 0), (126, .bipush 46, 2, 0, 0, 0, 46), (128, .iadd, 1, 0, 0, 0, 0), (129, .iaload, 1, 0, 0, 0, 0), (130, .iastore, 1, 0, 0, 0, 0), (131, .return_, 1, 0, 0, 0, 0)]
/-- 251: SpeakClockModel.undo()I -/
def cd_M_undo : List mE := [(0, .aload_n 0, 1, 0, 0, 0, 0), (1, .iconst 0, 1, 0, 0, 0, 0), (2, .putfield 157, 3, 14, 2, 0, 60018), (5, .aload_n 0, 1, 0, 0, 0, 0), (6, .getfield 372, 3, 14, 79, 0, 60095), (9, .ifCond .ne 5, 3, 14, 0, 0, 0), (12, .iconst (-1), 1, 0, 0, 0, (-1)), (13, .ireturn, 1, 0, 0, 0, 0), (14, .aload_n 0, 1, 0, 0, 0, 0), (15, .dup, 1, 0, 0, 0, 0), (16, .getfield 372, 3, 14, 79, 0, 60095), (19, .iconst 1, 1, 0, 0, 0, 1), (20, .isub, 1, 0, 0, 0, 0), (21, .putfield 372, 3, 14, 79, 0, 60095), (24, .aload_n 0, 1, 0, 0, 0, 0), (25, .aload_n 0, 1, 0, 0, 0, 0), (26, .getfield 142, 3, 14, 80, 2, 60096), (29, .bipush 47, 2, 0, 0, 0, 47), (31, .aload_n 0, 1, 0, 0, 0, 0), (32, .getfield 372, 3, 14, 79, 0, 60095), (35, .imul, 1, 0, 0, 0, 0), (36, .invokevirtual 534, 3, 250, 3, 14, 80237), (39, .aload_n 0, 1, 0, 0, 0, 0), (40, .getfield 372, 3, 14, 79, 0, 60095), (43, .ireturn, 1, 0, 0, 0, 0)]
/-- 252: SpeakClock.keep()I -/
def cd_C_keep : List mE := [(0, .aload_n 0, 1, 0, 0, 0, 0), (1, .getfield 36, 3, 13, 3, 2, 30022), (4, .aload_n 0, 1, 0, 0, 0, 0), (5, .getfield 32, 3, 13, 2, 2, 30021), (8, .invokevirtual 232, 3, 165, 2, 4, 40168), (11, .aload_n 0, 1, 0, 0, 0, 0), (12, .iconst 1, 1, 0, 0, 0, 1), (13, .putfield 81, 3, 13, 13, 3, 30032), (16, .aload_n 0, 1, 0, 0, 0, 0), (17, .getfield 32, 3, 13, 2, 2, 30021), (20, .getfield 178, 3, 4, 10, 0, 20116), (23, .ireturn, 1, 0, 0, 0, 0)]
/-- 253: SpeakClockModel.keep()I -/
def cd_M_keep : List mE := [(0, .aload_n 0, 1, 0, 0, 0, 0), (1, .iconst 0, 1, 0, 0, 0, 0), (2, .putfield 157, 3, 14, 2, 0, 60018), (5, .aload_n 0, 1, 0, 0, 0, 0), (6, .iconst 1, 1, 0, 0, 0, 1), (7, .putfield 375, 3, 14, 81, 3, 60097), (10, .aload_n 0, 1, 0, 0, 0, 0), (11, .aload_n 0, 1, 0, 0, 0, 0), (12, .getfield 145, 3, 14, 82, 2, 60098), (15, .iconst 0, 1, 0, 0, 0, 0), (16, .invokevirtual 531, 3, 127, 3, 14, 80005), (19, .iconst 0, 1, 0, 0, 0, 0), (20, .istore_n 1, 1, 0, 0, 0, 0), (21, .nop, 0, 3, 0, 0, 0), (21, .iload_n 1, 1, 0, 0, 0, 0), (22, .bipush 6, 2, 0, 0, 0, 6), (24, .if_icmp .ge 78, 3, 102, 0, 0, 0), (27, .aload_n 0, 1, 0, 0, 0, 0), (28, .getfield 148, 3, 14, 83, 2, 60099), (31, .iload_n 1, 1, 0, 0, 0, 0), (32, .aload_n 0, 1, 0, 0, 0, 0), (33, .getfield 103, 3, 14, 56, 2, 60072), (36, .iload_n 1, 1, 0, 0, 0, 0), (37, .iaload, 1, 0, 0, 0, 0), (38, .iastore, 1, 0, 0, 0, 0), (39, .aload_n 0, 1, 0, 0, 0, 0), (40, .getfield 148, 3, 14, 83, 2, 60099), (43, .bipush 6, 2, 0, 0, 0, 6), (45, .iload_n 1, 1, 0, 0, 0, 0), (46, .iadd, 1, 0, 0, 0, 0), (47, .aload_n 0, 1, 0, 0, 0, 0), (48, .getfield 124, 3, 14, 63, 2, 60079), (51, .iload_n 1, 1, 0, 0, 0, 0), (52, .iaload, 1, 0, 0, 0, 0), (53, .iastore, 1, 0, 0, 0, 0), (54, .aload_n 0, 1, 0, 0, 0, 0), (55, .getfield 148, 3, 14, 83, 2, 60099), (58, .bipush 12, 2, 0, 0, 0, 12), (60, .iconst 2, 1, 0, 0, 0, 2), (61, .iload_n 1, 1, 0, 0, 0, 0), (62, .imul, 1, 0, 0, 0, 0), (63, .iadd, 1, 0, 0, 0, 0), (64, .aload_n 0, 1, 0, 0, 0, 0), (65, .getfield 121, 3, 14, 62, 2, 60078), (68, .iconst 2, 1, 0, 0, 0, 2), (69, .iload_n 1, 1, 0, 0, 0, 0), (70, .imul, 1, 0, 0, 0, 0), (71, .iaload, 1, 0, 0, 0, 0), (72, .iastore, 1, 0, 0, 0, 0), (73, .aload_n 0, 1, 0, 0, 0, 0), (74, .getfield 148, 3, 14, 83, 2, 60099), (77, .bipush 12, 2, 0, 0, 0, 12), (79, .iconst 2, 1, 0, 0, 0, 2), (80, .iload_n 1, 1, 0, 0, 0, 0), (81, .imul, 1, 0, 0, 0, 0), (82, .iadd, 1, 0, 0, 0, 0), (83, .iconst 1, 1, 0, 0, 0, 1), (84, .iadd, 1, 0, 0, 0, 0), (85, .aload_n 0, 1, 0, 0, 0, 0), (86, .getfield 121, 3, 14, 62, 2, 60078), (89, .iconst 2, 1, 0, 0, 0, 2), (90, .iload_n 1, 1, 0, 0, 0, 0), (91, .imul, 1, 0, 0, 0, 0), (92, .iconst 1, 1, 0, 0, 0, 1), (93, .iadd, 1, 0, 0, 0, 0), (94, .iaload, 1, 0, 0, 0, 0), (95, .iastore, 1, 0, 0, 0, 0), (96, .iinc 1 1, 3, 0, 0, 0, 0), (99, .goto (-78), 3, 21, 0, 0, 0), (102, .aload_n 0, 1, 0, 0, 0, 0), (103, .getfield 148, 3, 14, 83, 2, 60099), (106, .bipush 24, 2, 0, 0, 0, 24), (108, .aload_n 0, 1, 0, 0, 0, 0), (109, .getfield 127, 3, 14, 64, 2, 60080), (112, .iconst 0, 1, 0, 0, 0, 0), (113, .iaload, 1, 0, 0, 0, 0), (114, .iastore, 1, 0, 0, 0, 0), (115, .aload_n 0, 1, 0, 0, 0, 0), (116, .getfield 148, 3, 14, 83, 2, 60099), (119, .bipush 25, 2, 0, 0, 0, 25), (121, .aload_n 0, 1, 0, 0, 0, 0), (122, .getfield 130, 3, 14, 65, 2, 60081), (125, .iconst 0, 1, 0, 0, 0, 0), (126, .iaload, 1, 0, 0, 0, 0), (127, .iastore, 1, 0, 0, 0, 0), (128, .aload_n 0, 1, 0, 0, 0, 0), (129, .aload_n 0, 1, 0, 0, 0, 0), (130, .getfield 362, 3, 14, 66, 1, 60082), (133, .putfield 537, 3, 14, 84, 1, 60100), (136, .aload_n 0, 1, 0, 0, 0, 0), (137, .getfield 127, 3, 14, 64, 2, 60080), (140, .iconst 0, 1, 0, 0, 0, 0), (141, .iaload, 1, 0, 0, 0, 0), (142, .ireturn, 1, 0, 0, 0, 0)]
/-- 254: SpeakClock.back()I -/
def cd_C_back : List mE := [(0, .aload_n 0, 1, 0, 0, 0, 0), (1, .getfield 81, 3, 13, 13, 3, 30032), (4, .ifCond .ne 5, 3, 9, 0, 0, 0), (7, .iconst (-1), 1, 0, 0, 0, (-1)), (8, .ireturn, 1, 0, 0, 0, 0), (9, .aload_n 0, 1, 0, 0, 0, 0), (10, .getfield 32, 3, 13, 2, 2, 30021), (13, .aload_n 0, 1, 0, 0, 0, 0), (14, .getfield 36, 3, 13, 3, 2, 30022), (17, .invokevirtual 232, 3, 165, 2, 4, 40168), (20, .aload_n 0, 1, 0, 0, 0, 0), (21, .getfield 62, 3, 13, 8, 2, 30027), (24, .iconst 0, 1, 0, 0, 0, 0), (25, .putfield 105, 3, 8, 3, 0, 30009), (28, .aload_n 0, 1, 0, 0, 0, 0), (29, .getfield 32, 3, 13, 2, 2, 30021), (32, .getfield 178, 3, 4, 10, 0, 20116), (35, .ireturn, 1, 0, 0, 0, 0)]
/-- 255: SpeakClockModel.back()I -/
def cd_M_back : List mE := [(0, .aload_n 0, 1, 0, 0, 0, 0), (1, .iconst 0, 1, 0, 0, 0, 0), (2, .putfield 157, 3, 14, 2, 0, 60018), (5, .aload_n 0, 1, 0, 0, 0, 0), (6, .getfield 375, 3, 14, 81, 3, 60097), (9, .ifCond .ne 5, 3, 14, 0, 0, 0), (12, .iconst (-1), 1, 0, 0, 0, (-1)), (13, .ireturn, 1, 0, 0, 0, 0), (14, .aload_n 0, 1, 0, 0, 0, 0), (15, .aload_n 0, 1, 0, 0, 0, 0), (16, .getfield 145, 3, 14, 82, 2, 60098), (19, .iconst 0, 1, 0, 0, 0, 0), (20, .invokevirtual 534, 3, 250, 3, 14, 80237), (23, .iconst 0, 1, 0, 0, 0, 0), (24, .istore_n 1, 1, 0, 0, 0, 0), (25, .nop, 0, 3, 0, 0, 0), (25, .iload_n 1, 1, 0, 0, 0, 0), (26, .bipush 6, 2, 0, 0, 0, 6), (28, .if_icmp .ge 78, 3, 106, 0, 0, 0), (31, .aload_n 0, 1, 0, 0, 0, 0), (32, .getfield 103, 3, 14, 56, 2, 60072), (35, .iload_n 1, 1, 0, 0, 0, 0), (36, .aload_n 0, 1, 0, 0, 0, 0), (37, .getfield 148, 3, 14, 83, 2, 60099), (40, .iload_n 1, 1, 0, 0, 0, 0), (41, .iaload, 1, 0, 0, 0, 0), (42, .iastore, 1, 0, 0, 0, 0), (43, .aload_n 0, 1, 0, 0, 0, 0), (44, .getfield 124, 3, 14, 63, 2, 60079), (47, .iload_n 1, 1, 0, 0, 0, 0), (48, .aload_n 0, 1, 0, 0, 0, 0), (49, .getfield 148, 3, 14, 83, 2, 60099), (52, .bipush 6, 2, 0, 0, 0, 6), (54, .iload_n 1, 1, 0, 0, 0, 0), (55, .iadd, 1, 0, 0, 0, 0), (56, .iaload, 1, 0, 0, 0, 0), (57, .iastore, 1, 0, 0, 0, 0), (58, .aload_n 0, 1, 0, 0, 0, 0), (59, .getfield 121, 3, 14, 62, 2, 60078), (62, .iconst 2, 1, 0, 0, 0, 2), (63, .iload_n 1, 1, 0, 0, 0, 0), (64, .imul, 1, 0, 0, 0, 0), (65, .aload_n 0, 1, 0, 0, 0, 0), (66, .getfield 148, 3, 14, 83, 2, 60099), (69, .bipush 12, 2, 0, 0, 0, 12), (71, .iconst 2, 1, 0, 0, 0, 2), (72, .iload_n 1, 1, 0, 0, 0, 0), (73, .imul, 1, 0, 0, 0, 0), (74, .iadd, 1, 0, 0, 0, 0), (75, .iaload, 1, 0, 0, 0, 0), (76, .iastore, 1, 0, 0, 0, 0), (77, .aload_n 0, 1, 0, 0, 0, 0), (78, .getfield 121, 3, 14, 62, 2, 60078), (81, .iconst 2, 1, 0, 0, 0, 2), (82, .iload_n 1, 1, 0, 0, 0, 0), (83, .imul, 1, 0, 0, 0, 0), (84, .iconst 1, 1, 0, 0, 0, 1), (85, .iadd, 1, 0, 0, 0, 0), (86, .aload_n 0, 1, 0, 0, 0, 0), (87, .getfield 148, 3, 14, 83, 2, 60099), (90, .bipush 12, 2, 0, 0, 0, 12), (92, .iconst 2, 1, 0, 0, 0, 2), (93, .iload_n 1, 1, 0, 0, 0, 0), (94, .imul, 1, 0, 0, 0, 0), (95, .iadd, 1, 0, 0, 0, 0), (96, .iconst 1, 1, 0, 0, 0, 1), (97, .iadd, 1, 0, 0, 0, 0), (98, .iaload, 1, 0, 0, 0, 0), (99, .iastore, 1, 0, 0, 0, 0), (100, .iinc 1 1, 3, 0, 0, 0, 0), (103, .goto (-78), 3, 25, 0, 0, 0), (106, .aload_n 0, 1, 0, 0, 0, 0), (107, .getfield 127, 3, 14, 64, 2, 60080), (110, .iconst 0, 1, 0, 0, 0, 0), (111, .aload_n 0, 1, 0, 0, 0, 0), (112, .getfield 148, 3, 14, 83, 2, 60099), (115, .bipush 24, 2, 0, 0, 0, 24), (117, .iaload, 1, 0, 0, 0, 0), (118, .iastore, 1, 0, 0, 0, 0), (119, .aload_n 0, 1, 0, 0, 0, 0), (120, .getfield 130, 3, 14, 65, 2, 60081), (123, .iconst 0, 1, 0, 0, 0, 0), (124, .aload_n 0, 1, 0, 0, 0, 0), (125, .getfield 148, 3, 14, 83, 2, 60099), (128, .bipush 25, 2, 0, 0, 0, 25), (130, .iaload, 1, 0, 0, 0, 0), (131, .iastore, 1, 0, 0, 0, 0), (132, .aload_n 0, 1, 0, 0, 0, 0), (133, .aload_n 0, 1, 0, 0, 0, 0), (134, .getfield 537, 3, 14, 84, 1, 60100), (137, .putfield 362, 3, 14, 66, 1, 60082), (140, .aload_n 0, 1, 0, 0, 0, 0), (141, .iconst 0, 1, 0, 0, 0, 0), (142, .putfield 372, 3, 14, 79, 0, 60095), (145, .aload_n 0, 1, 0, 0, 0, 0), (146, .getfield 127, 3, 14, 64, 2, 60080), (149, .iconst 0, 1, 0, 0, 0, 0), (150, .iaload, 1, 0, 0, 0, 0), (151, .ireturn, 1, 0, 0, 0, 0)]
/-- 256: SpeakClock$Day.toldInAll()I -/
def cd_Day_toldInAll : List mE := [(0, .iconst 0, 1, 0, 0, 0, 0), (1, .istore_n 1, 1, 0, 0, 0, 0), (2, .iconst 0, 1, 0, 0, 0, 0), (3, .istore_n 2, 1, 0, 0, 0, 0), (4, .nop, 0, 7, 0, 0, 0), (4, .iload_n 2, 1, 0, 0, 0, 0), (5, .aload_n 0, 1, 0, 0, 0, 0), (6, .getfield 36, 3, 4, 8, 0, 20112), (9, .if_icmp .ge 18, 3, 27, 0, 0, 0), (12, .iload_n 1, 1, 0, 0, 0, 0), (13, .aload_n 0, 1, 0, 0, 0, 0), (14, .getfield 18, 3, 4, 2, 2, 20094), (17, .iload_n 2, 1, 0, 0, 0, 0), (18, .iaload, 1, 0, 0, 0, 0), (19, .iadd, 1, 0, 0, 0, 0), (20, .istore_n 1, 1, 0, 0, 0, 0), (21, .iinc 2 1, 3, 0, 0, 0, 0), (24, .goto (-20), 3, 4, 0, 0, 0), (27, .iload_n 1, 1, 0, 0, 0, 0), (28, .ireturn, 1, 0, 0, 0, 0)]
/-- 257: SpeakClock.count(I)I -/
def cd_C_count : List mE := [(0, .iload_n 1, 1, 0, 0, 0, 0), (1, .tableswitch 197 0 13 #[71, 79, 87, 95, 106, 114, 122, 139, 147, 156, 165, 173, 181, 189], 71, 198, 15, 0, 0), (72, .aload_n 0, 1, 0, 0, 0, 0), (73, .getfield 70, 3, 13, 9, 2, 30028), (76, .getfield 235, 3, 9, 13, 0, 10230), (79, .ireturn, 1, 0, 0, 0, 0), (80, .aload_n 0, 1, 0, 0, 0, 0), (81, .getfield 70, 3, 13, 9, 2, 30028), (84, .getfield 314, 3, 9, 14, 0, 10234), (87, .ireturn, 1, 0, 0, 0, 0), (88, .aload_n 0, 1, 0, 0, 0, 0), (89, .getfield 70, 3, 13, 9, 2, 30028), (92, .getfield 253, 3, 9, 15, 0, 10239), (95, .ireturn, 1, 0, 0, 0, 0), (96, .aload_n 0, 1, 0, 0, 0, 0), (97, .getfield 70, 3, 13, 9, 2, 30028), (100, .getfield 317, 3, 9, 12, 2, 10225), (103, .getfield 321, 3, 6, 6, 0, 10165), (106, .ireturn, 1, 0, 0, 0, 0), (107, .aload_n 0, 1, 0, 0, 0, 0), (108, .getfield 32, 3, 13, 2, 2, 30021), (111, .getfield 178, 3, 4, 10, 0, 20116), (114, .ireturn, 1, 0, 0, 0, 0), (115, .aload_n 0, 1, 0, 0, 0, 0), (116, .getfield 32, 3, 13, 2, 2, 30021), (119, .getfield 190, 3, 4, 11, 0, 20120), (122, .ireturn, 1, 0, 0, 0, 0), (123, .aload_n 0, 1, 0, 0, 0, 0), (124, .getfield 32, 3, 13, 2, 2, 30021), (127, .getfield 204, 3, 4, 12, 0, 20123), (130, .iconst (-1), 1, 0, 0, 0, (-1)), (131, .if_icmp .ne 7, 3, 138, 0, 0, 0), (134, .iconst 0, 1, 0, 0, 0, 0), (135, .goto 4, 3, 139, 0, 0, 0), (138, .iconst 1, 1, 0, 0, 0, 1), (139, .nop, 0, 0, 0, 0, 0), (139, .ireturn, 1, 0, 0, 0, 0), (140, .aload_n 0, 1, 0, 0, 0, 0), (141, .getfield 32, 3, 13, 2, 2, 30021), (144, .invokevirtual 326, 3, 256, 1, 4, 50130), (147, .ireturn, 1, 0, 0, 0, 0), (148, .aload_n 0, 1, 0, 0, 0, 0), (149, .getfield 32, 3, 13, 2, 2, 30021), (152, .iconst 1, 1, 0, 0, 0, 1), (153, .invokevirtual 226, 3, 168, 2, 4, 40177), (156, .ireturn, 1, 0, 0, 0, 0), (157, .aload_n 0, 1, 0, 0, 0, 0), (158, .getfield 32, 3, 13, 2, 2, 30021), (161, .iconst 2, 1, 0, 0, 0, 2), (162, .invokevirtual 226, 3, 168, 2, 4, 40177), (165, .ireturn, 1, 0, 0, 0, 0), (166, .aload_n 0, 1, 0, 0, 0, 0), (167, .getfield 32, 3, 13, 2, 2, 30021), (170, .getfield 330, 3, 4, 15, 0, 20130), (173, .ireturn, 1, 0, 0, 0, 0), (174, .aload_n 0, 1, 0, 0, 0, 0), (175, .getfield 55, 3, 13, 7, 2, 30026), (178, .getfield 283, 3, 10, 6, 0, 20215), (181, .ireturn, 1, 0, 0, 0, 0), (182, .aload_n 0, 1, 0, 0, 0, 0), (183, .getfield 55, 3, 13, 7, 2, 30026), (186, .invokevirtual 333, 3, 233, 1, 10, 50134), (189, .ireturn, 1, 0, 0, 0, 0), (190, .aload_n 0, 1, 0, 0, 0, 0), (191, .getfield 62, 3, 13, 8, 2, 30027), (194, .getfield 105, 3, 8, 3, 0, 30009), (197, .ireturn, 1, 0, 0, 0, 0), (198, .iconst (-1), 1, 0, 0, 0, (-1)), (199, .ireturn, 1, 0, 0, 0, 0)]
/-- 258: SpeakClockModel.count(I)I -/
def cd_M_count : List mE := [(0, .aload_n 0, 1, 0, 0, 0, 0), (1, .iconst 0, 1, 0, 0, 0, 0), (2, .putfield 157, 3, 14, 2, 0, 60018), (5, .iconst 0, 1, 0, 0, 0, 0), (6, .istore_n 2, 1, 0, 0, 0, 0), (7, .iload_n 1, 1, 0, 0, 0, 0), (8, .tableswitch 185 0 13 #[72, 77, 82, 87, 92, 99, 106, 122, 149, 156, 163, 170, 175, 180], 72, 193, 16, 0, 0), (80, .aload_n 0, 1, 0, 0, 0, 0), (81, .getfield 237, 3, 14, 12, 0, 60028), (84, .ireturn, 1, 0, 0, 0, 0), (85, .aload_n 0, 1, 0, 0, 0, 0), (86, .getfield 240, 3, 14, 13, 0, 60029), (89, .ireturn, 1, 0, 0, 0, 0), (90, .aload_n 0, 1, 0, 0, 0, 0), (91, .getfield 243, 3, 14, 14, 0, 60030), (94, .ireturn, 1, 0, 0, 0, 0), (95, .aload_n 0, 1, 0, 0, 0, 0), (96, .getfield 249, 3, 14, 16, 0, 60032), (99, .ireturn, 1, 0, 0, 0, 0), (100, .aload_n 0, 1, 0, 0, 0, 0), (101, .getfield 127, 3, 14, 64, 2, 60080), (104, .iconst 0, 1, 0, 0, 0, 0), (105, .iaload, 1, 0, 0, 0, 0), (106, .ireturn, 1, 0, 0, 0, 0), (107, .aload_n 0, 1, 0, 0, 0, 0), (108, .getfield 109, 3, 14, 58, 2, 60074), (111, .iconst 0, 1, 0, 0, 0, 0), (112, .iaload, 1, 0, 0, 0, 0), (113, .ireturn, 1, 0, 0, 0, 0), (114, .aload_n 0, 1, 0, 0, 0, 0), (115, .getfield 112, 3, 14, 59, 2, 60075), (118, .iconst 0, 1, 0, 0, 0, 0), (119, .iaload, 1, 0, 0, 0, 0), (120, .iconst (-1), 1, 0, 0, 0, (-1)), (121, .if_icmp .ne 7, 3, 128, 0, 0, 0), (124, .iconst 0, 1, 0, 0, 0, 0), (125, .goto 4, 3, 129, 0, 0, 0), (128, .iconst 1, 1, 0, 0, 0, 1), (129, .nop, 0, 0, 0, 0, 0), (129, .ireturn, 1, 0, 0, 0, 0), (130, .iconst 0, 1, 0, 0, 0, 0), (131, .istore_n 3, 1, 0, 0, 0, 0), (132, .nop, 0, 13, 0, 0, 0), (132, .iload_n 3, 1, 0, 0, 0, 0), (133, .aload_n 0, 1, 0, 0, 0, 0), (134, .getfield 237, 3, 14, 12, 0, 60028), (137, .if_icmp .ge 18, 3, 155, 0, 0, 0), (140, .iload_n 2, 1, 0, 0, 0, 0), (141, .aload_n 0, 1, 0, 0, 0, 0), (142, .getfield 103, 3, 14, 56, 2, 60072), (145, .iload_n 3, 1, 0, 0, 0, 0), (146, .iaload, 1, 0, 0, 0, 0), (147, .iadd, 1, 0, 0, 0, 0), (148, .istore_n 2, 1, 0, 0, 0, 0), (149, .iinc 3 1, 3, 0, 0, 0, 0), (152, .goto (-20), 3, 132, 0, 0, 0), (155, .iload_n 2, 1, 0, 0, 0, 0), (156, .ireturn, 1, 0, 0, 0, 0), (157, .aload_n 0, 1, 0, 0, 0, 0), (158, .iconst 0, 1, 0, 0, 0, 0), (159, .iconst 1, 1, 0, 0, 0, 1), (160, .invokevirtual 495, 3, 172, 3, 14, 80096), (163, .ireturn, 1, 0, 0, 0, 0), (164, .aload_n 0, 1, 0, 0, 0, 0), (165, .iconst 0, 1, 0, 0, 0, 0), (166, .iconst 2, 1, 0, 0, 0, 2), (167, .invokevirtual 495, 3, 172, 3, 14, 80096), (170, .ireturn, 1, 0, 0, 0, 0), (171, .aload_n 0, 1, 0, 0, 0, 0), (172, .getfield 130, 3, 14, 65, 2, 60081), (175, .iconst 0, 1, 0, 0, 0, 0), (176, .iaload, 1, 0, 0, 0, 0), (177, .ireturn, 1, 0, 0, 0, 0), (178, .aload_n 0, 1, 0, 0, 0, 0), (179, .getfield 369, 3, 14, 75, 0, 60091), (182, .ireturn, 1, 0, 0, 0, 0), (183, .aload_n 0, 1, 0, 0, 0, 0), (184, .invokevirtual 522, 3, 239, 1, 14, 80213), (187, .ireturn, 1, 0, 0, 0, 0), (188, .aload_n 0, 1, 0, 0, 0, 0), (189, .getfield 372, 3, 14, 79, 0, 60095), (192, .ireturn, 1, 0, 0, 0, 0), (193, .iconst (-1), 1, 0, 0, 0, (-1)), (194, .ireturn, 1, 0, 0, 0, 0)]
/-- 259: SpeakClockLaw.law([I)Z -/
def cd_L_law : List mE := [(0, .new 8, 3, 13, 14, 0, 10024), (3, .dup, 1, 0, 0, 0, 0), (4, .invokespecial 17, 3, 9, 1, 13, 10026), (7, .astore_n 1, 1, 0, 0, 0, 0), (8, .new 18, 3, 14, 85, 0, 50227), (11, .dup, 1, 0, 0, 0, 0), (12, .invokespecial 20, 3, 16, 1, 14, 50229), (15, .astore_n 2, 1, 0, 0, 0, 0), (16, .iconst 1, 1, 0, 0, 0, 1), (17, .newarray .long, 2, 1, 0, 0, 10181), (19, .astore_n 3, 1, 0, 0, 0, 0), (20, .iconst 0, 1, 0, 0, 0, 0), (21, .istore 4, 2, 0, 0, 0, 0), (23, .nop, 0, 31, 0, 0, 0), (23, .iload 4, 2, 0, 0, 0, 0), (25, .aload_n 0, 1, 0, 0, 0, 0), (26, .arraylength, 1, 0, 0, 0, 0), (27, .bipush 6, 2, 0, 0, 0, 6), (29, .isub, 1, 0, 0, 0, 0), (30, .if_icmp .gt 1473, 3, 1503, 0, 0, 0), (33, .aload_n 0, 1, 0, 0, 0, 0), (34, .iload 4, 2, 0, 0, 0, 0), (36, .iaload, 1, 0, 0, 0, 0), (37, .bipush 63, 2, 0, 0, 0, 63), (39, .iand, 1, 0, 0, 0, 0), (40, .tableswitch 1457 0 40 #[180, 253, 278, 303, 328, 396, 433, 458, 496, 521, 546, 583, 620, 645, 694, 719, 768, 793, 818, 831, 856, 881, 894, 907, 944, 993, 1030, 1043, 1068, 1093, 1118, 1143, 1220, 1245, 1270, 1295, 1344, 1393, 1406, 1419, 1432], 180, 1497, 17, 0, 0), (220, .aload_n 1, 1, 0, 0, 0, 0), (221, .aload_n 0, 1, 0, 0, 0, 0), (222, .iload 4, 2, 0, 0, 0, 0), (224, .iconst 1, 1, 0, 0, 0, 1), (225, .iadd, 1, 0, 0, 0, 0), (226, .iaload, 1, 0, 0, 0, 0), (227, .aload_n 0, 1, 0, 0, 0, 0), (228, .iload 4, 2, 0, 0, 0, 0), (230, .iconst 2, 1, 0, 0, 0, 2), (231, .iadd, 1, 0, 0, 0, 0), (232, .iaload, 1, 0, 0, 0, 0), (233, .aload_n 0, 1, 0, 0, 0, 0), (234, .iload 4, 2, 0, 0, 0, 0), (236, .iconst 3, 1, 0, 0, 0, 3), (237, .iadd, 1, 0, 0, 0, 0), (238, .iaload, 1, 0, 0, 0, 0), (239, .aload_n 0, 1, 0, 0, 0, 0), (240, .iload 4, 2, 0, 0, 0, 0), (242, .iconst 4, 1, 0, 0, 0, 4), (243, .iadd, 1, 0, 0, 0, 0), (244, .iaload, 1, 0, 0, 0, 0), (245, .aload_n 0, 1, 0, 0, 0, 0), (246, .iload 4, 2, 0, 0, 0, 0), (248, .iconst 5, 1, 0, 0, 0, 5), (249, .iadd, 1, 0, 0, 0, 0), (250, .iaload, 1, 0, 0, 0, 0), (251, .invokevirtual 21, 3, 18, 6, 13, 30062), (254, .aload_n 2, 1, 0, 0, 0, 0), (255, .aload_n 0, 1, 0, 0, 0, 0), (256, .iload 4, 2, 0, 0, 0, 0), (258, .iconst 1, 1, 0, 0, 0, 1), (259, .iadd, 1, 0, 0, 0, 0), (260, .iaload, 1, 0, 0, 0, 0), (261, .aload_n 0, 1, 0, 0, 0, 0), (262, .iload 4, 2, 0, 0, 0, 0), (264, .iconst 2, 1, 0, 0, 0, 2), (265, .iadd, 1, 0, 0, 0, 0), (266, .iaload, 1, 0, 0, 0, 0), (267, .aload_n 0, 1, 0, 0, 0, 0), (268, .iload 4, 2, 0, 0, 0, 0), (270, .iconst 3, 1, 0, 0, 0, 3), (271, .iadd, 1, 0, 0, 0, 0), (272, .iaload, 1, 0, 0, 0, 0), (273, .aload_n 0, 1, 0, 0, 0, 0), (274, .iload 4, 2, 0, 0, 0, 0), (276, .iconst 4, 1, 0, 0, 0, 4), (277, .iadd, 1, 0, 0, 0, 0), (278, .iaload, 1, 0, 0, 0, 0), (279, .aload_n 0, 1, 0, 0, 0, 0), (280, .iload 4, 2, 0, 0, 0, 0), (282, .iconst 5, 1, 0, 0, 0, 5), (283, .iadd, 1, 0, 0, 0, 0), (284, .iaload, 1, 0, 0, 0, 0), (285, .invokevirtual 25, 3, 19, 6, 14, 70036), (288, .if_icmp .eq 1209, 3, 1497, 0, 0, 0), (291, .iconst 0, 1, 0, 0, 0, 0), (292, .ireturn, 1, 1, 0, 0, 0), (293, .aload_n 1, 1, 0, 0, 0, 0), (294, .aload_n 0, 1, 0, 0, 0, 0), (295, .iload 4, 2, 0, 0, 0, 0), (297, .iconst 1, 1, 0, 0, 0, 1), (298, .iadd, 1, 0, 0, 0, 0), (299, .iaload, 1, 0, 0, 0, 0), (300, .invokevirtual 26, 3, 58, 2, 13, 30070), (303, .aload_n 2, 1, 0, 0, 0, 0), (304, .aload_n 0, 1, 0, 0, 0, 0), (305, .iload 4, 2, 0, 0, 0, 0), (307, .iconst 1, 1, 0, 0, 0, 1), (308, .iadd, 1, 0, 0, 0, 0), (309, .iaload, 1, 0, 0, 0, 0), (310, .invokevirtual 30, 3, 89, 2, 14, 70040), (313, .if_icmp .eq 1184, 3, 1497, 0, 0, 0), (316, .iconst 0, 1, 0, 0, 0, 0), (317, .ireturn, 1, 1, 0, 0, 0), (318, .aload_n 1, 1, 0, 0, 0, 0), (319, .aload_n 0, 1, 0, 0, 0, 0), (320, .iload 4, 2, 0, 0, 0, 0), (322, .iconst 1, 1, 0, 0, 0, 1), (323, .iadd, 1, 0, 0, 0, 0), (324, .iaload, 1, 0, 0, 0, 0), (325, .invokevirtual 31, 3, 90, 2, 13, 30231), (328, .aload_n 2, 1, 0, 0, 0, 0), (329, .aload_n 0, 1, 0, 0, 0, 0), (330, .iload 4, 2, 0, 0, 0, 0), (332, .iconst 1, 1, 0, 0, 0, 1), (333, .iadd, 1, 0, 0, 0, 0), (334, .iaload, 1, 0, 0, 0, 0), (335, .invokevirtual 34, 3, 91, 2, 14, 70162), (338, .if_icmp .eq 1159, 3, 1497, 0, 0, 0), (341, .iconst 0, 1, 0, 0, 0, 0), (342, .ireturn, 1, 1, 0, 0, 0), (343, .aload_n 1, 1, 0, 0, 0, 0), (344, .aload_n 0, 1, 0, 0, 0, 0), (345, .iload 4, 2, 0, 0, 0, 0), (347, .iconst 1, 1, 0, 0, 0, 1), (348, .iadd, 1, 0, 0, 0, 0), (349, .iaload, 1, 0, 0, 0, 0), (350, .invokevirtual 35, 3, 92, 2, 13, 30235), (353, .aload_n 2, 1, 0, 0, 0, 0), (354, .aload_n 0, 1, 0, 0, 0, 0), (355, .iload 4, 2, 0, 0, 0, 0), (357, .iconst 1, 1, 0, 0, 0, 1), (358, .iadd, 1, 0, 0, 0, 0), (359, .iaload, 1, 0, 0, 0, 0), (360, .invokevirtual 38, 3, 93, 2, 14, 70166), (363, .if_icmp .eq 1134, 3, 1497, 0, 0, 0), (366, .iconst 0, 1, 0, 0, 0, 0), (367, .ireturn, 1, 1, 0, 0, 0), (368, .aload_n 1, 1, 0, 0, 0, 0), (369, .aload_n 0, 1, 0, 0, 0, 0), (370, .iload 4, 2, 0, 0, 0, 0), (372, .iconst 1, 1, 0, 0, 0, 1), (373, .iadd, 1, 0, 0, 0, 0), (374, .iaload, 1, 0, 0, 0, 0), (375, .aload_n 0, 1, 0, 0, 0, 0), (376, .iload 4, 2, 0, 0, 0, 0), (378, .iconst 2, 1, 0, 0, 0, 2), (379, .iadd, 1, 0, 0, 0, 0), (380, .iaload, 1, 0, 0, 0, 0), (381, .aload_n 3, 1, 0, 0, 0, 0), (382, .invokestatic 39, 3, 98, 4, 0, 50135), (385, .istore 5, 2, 0, 0, 0, 0), (387, .aload_n 2, 1, 0, 0, 0, 0), (388, .aload_n 0, 1, 0, 0, 0, 0), (389, .iload 4, 2, 0, 0, 0, 0), (391, .iconst 1, 1, 0, 0, 0, 1), (392, .iadd, 1, 0, 0, 0, 0), (393, .iaload, 1, 0, 0, 0, 0), (394, .aload_n 0, 1, 0, 0, 0, 0), (395, .iload 4, 2, 0, 0, 0, 0), (397, .iconst 2, 1, 0, 0, 0, 2), (398, .iadd, 1, 0, 0, 0, 0), (399, .iaload, 1, 0, 0, 0, 0), (400, .invokevirtual 44, 3, 102, 3, 14, 70170), (403, .istore 6, 2, 0, 0, 0, 0), (405, .aload_n 2, 1, 0, 0, 0, 0), (406, .invokevirtual 45, 3, 103, 1, 14, 70032), (409, .iload 5, 2, 0, 0, 0, 0), (411, .if_icmp .eq 5, 3, 416, 0, 0, 0), (414, .iconst 0, 1, 0, 0, 0, 0), (415, .ireturn, 1, 1, 0, 0, 0), (416, .iload 5, 2, 0, 0, 0, 0), (418, .ifCond .ne 15, 3, 433, 0, 0, 0), (421, .aload_n 3, 1, 0, 0, 0, 0), (422, .iconst 0, 1, 0, 0, 0, 0), (423, .laload, 1, 0, 0, 0, 0), (424, .iload 6, 2, 0, 0, 0, 0), (426, .i2l, 1, 0, 0, 0, 0), (427, .lcmp, 1, 0, 0, 0, 0), (428, .ifCond .eq 5, 3, 433, 0, 0, 0), (431, .iconst 0, 1, 0, 0, 0, 0), (432, .ireturn, 1, 1, 0, 0, 0), (433, .nop, 0, 31, 0, 0, 0), (433, .goto 1064, 3, 1497, 0, 0, 0), (436, .aload_n 1, 1, 0, 0, 0, 0), (437, .aload_n 0, 1, 0, 0, 0, 0), (438, .iload 4, 2, 0, 0, 0, 0), (440, .iconst 1, 1, 0, 0, 0, 1), (441, .iadd, 1, 0, 0, 0, 0), (442, .iaload, 1, 0, 0, 0, 0), (443, .aload_n 0, 1, 0, 0, 0, 0), (444, .iload 4, 2, 0, 0, 0, 0), (446, .iconst 2, 1, 0, 0, 0, 2), (447, .iadd, 1, 0, 0, 0, 0), (448, .iaload, 1, 0, 0, 0, 0), (449, .invokevirtual 49, 3, 105, 3, 13, 40000), (452, .aload_n 2, 1, 0, 0, 0, 0), (453, .aload_n 0, 1, 0, 0, 0, 0), (454, .iload 4, 2, 0, 0, 0, 0), (456, .iconst 1, 1, 0, 0, 0, 1), (457, .iadd, 1, 0, 0, 0, 0), (458, .iaload, 1, 0, 0, 0, 0), (459, .aload_n 0, 1, 0, 0, 0, 0), (460, .iload 4, 2, 0, 0, 0, 0), (462, .iconst 2, 1, 0, 0, 0, 2), (463, .iadd, 1, 0, 0, 0, 0), (464, .iaload, 1, 0, 0, 0, 0), (465, .invokevirtual 52, 3, 107, 3, 14, 70186), (468, .if_icmp .eq 1029, 3, 1497, 0, 0, 0), (471, .iconst 0, 1, 0, 0, 0, 0), (472, .ireturn, 1, 1, 0, 0, 0), (473, .aload_n 1, 1, 0, 0, 0, 0), (474, .aload_n 0, 1, 0, 0, 0, 0), (475, .iload 4, 2, 0, 0, 0, 0), (477, .iconst 1, 1, 0, 0, 0, 1), (478, .iadd, 1, 0, 0, 0, 0), (479, .iaload, 1, 0, 0, 0, 0), (480, .invokevirtual 53, 3, 108, 2, 13, 40008), (483, .aload_n 2, 1, 0, 0, 0, 0), (484, .aload_n 0, 1, 0, 0, 0, 0), (485, .iload 4, 2, 0, 0, 0, 0), (487, .iconst 1, 1, 0, 0, 0, 1), (488, .iadd, 1, 0, 0, 0, 0), (489, .iaload, 1, 0, 0, 0, 0), (490, .invokevirtual 56, 3, 109, 2, 14, 70194), (493, .if_icmp .eq 1004, 3, 1497, 0, 0, 0), (496, .iconst 0, 1, 0, 0, 0, 0), (497, .ireturn, 1, 1, 0, 0, 0), (498, .aload_n 1, 1, 0, 0, 0, 0), (499, .aload_n 0, 1, 0, 0, 0, 0), (500, .iload 4, 2, 0, 0, 0, 0), (502, .iconst 1, 1, 0, 0, 0, 1), (503, .iadd, 1, 0, 0, 0, 0), (504, .iaload, 1, 0, 0, 0, 0), (505, .aload_n 0, 1, 0, 0, 0, 0), (506, .iload 4, 2, 0, 0, 0, 0), (508, .iconst 2, 1, 0, 0, 0, 2), (509, .iadd, 1, 0, 0, 0, 0), (510, .iaload, 1, 0, 0, 0, 0), (511, .invokevirtual 57, 3, 114, 3, 13, 40017), (514, .aload_n 2, 1, 0, 0, 0, 0), (515, .aload_n 0, 1, 0, 0, 0, 0), (516, .iload 4, 2, 0, 0, 0, 0), (518, .iconst 1, 1, 0, 0, 0, 1), (519, .iadd, 1, 0, 0, 0, 0), (520, .iaload, 1, 0, 0, 0, 0), (521, .aload_n 0, 1, 0, 0, 0, 0), (522, .iload 4, 2, 0, 0, 0, 0), (524, .iconst 2, 1, 0, 0, 0, 2), (525, .iadd, 1, 0, 0, 0, 0), (526, .iaload, 1, 0, 0, 0, 0), (527, .invokevirtual 61, 3, 123, 3, 14, 70199), (530, .lcmp, 1, 0, 0, 0, 0), (531, .ifCond .eq 966, 3, 1497, 0, 0, 0), (534, .iconst 0, 1, 0, 0, 0, 0), (535, .ireturn, 1, 1, 0, 0, 0), (536, .aload_n 1, 1, 0, 0, 0, 0), (537, .aload_n 0, 1, 0, 0, 0, 0), (538, .iload 4, 2, 0, 0, 0, 0), (540, .iconst 1, 1, 0, 0, 0, 1), (541, .iadd, 1, 0, 0, 0, 0), (542, .iaload, 1, 0, 0, 0, 0), (543, .invokevirtual 62, 3, 126, 2, 13, 40046), (546, .aload_n 2, 1, 0, 0, 0, 0), (547, .aload_n 0, 1, 0, 0, 0, 0), (548, .iload 4, 2, 0, 0, 0, 0), (550, .iconst 1, 1, 0, 0, 0, 1), (551, .iadd, 1, 0, 0, 0, 0), (552, .iaload, 1, 0, 0, 0, 0), (553, .invokevirtual 65, 3, 130, 2, 14, 70237), (556, .if_icmp .eq 941, 3, 1497, 0, 0, 0), (559, .iconst 0, 1, 0, 0, 0, 0), (560, .ireturn, 1, 1, 0, 0, 0), (561, .aload_n 1, 1, 0, 0, 0, 0), (562, .aload_n 0, 1, 0, 0, 0, 0), (563, .iload 4, 2, 0, 0, 0, 0), (565, .iconst 1, 1, 0, 0, 0, 1), (566, .iadd, 1, 0, 0, 0, 0), (567, .iaload, 1, 0, 0, 0, 0), (568, .invokevirtual 66, 3, 132, 2, 13, 40066), (571, .aload_n 2, 1, 0, 0, 0, 0), (572, .aload_n 0, 1, 0, 0, 0, 0), (573, .iload 4, 2, 0, 0, 0, 0), (575, .iconst 1, 1, 0, 0, 0, 1), (576, .iadd, 1, 0, 0, 0, 0), (577, .iaload, 1, 0, 0, 0, 0), (578, .invokevirtual 70, 3, 134, 2, 14, 80013), (581, .if_icmp .eq 916, 3, 1497, 0, 0, 0), (584, .iconst 0, 1, 0, 0, 0, 0), (585, .ireturn, 1, 1, 0, 0, 0), (586, .aload_n 1, 1, 0, 0, 0, 0), (587, .aload_n 0, 1, 0, 0, 0, 0), (588, .iload 4, 2, 0, 0, 0, 0), (590, .iconst 1, 1, 0, 0, 0, 1), (591, .iadd, 1, 0, 0, 0, 0), (592, .iaload, 1, 0, 0, 0, 0), (593, .aload_n 0, 1, 0, 0, 0, 0), (594, .iload 4, 2, 0, 0, 0, 0), (596, .iconst 2, 1, 0, 0, 0, 2), (597, .iadd, 1, 0, 0, 0, 0), (598, .iaload, 1, 0, 0, 0, 0), (599, .invokevirtual 71, 3, 135, 3, 13, 40075), (602, .aload_n 2, 1, 0, 0, 0, 0), (603, .aload_n 0, 1, 0, 0, 0, 0), (604, .iload 4, 2, 0, 0, 0, 0), (606, .iconst 1, 1, 0, 0, 0, 1), (607, .iadd, 1, 0, 0, 0, 0), (608, .iaload, 1, 0, 0, 0, 0), (609, .aload_n 0, 1, 0, 0, 0, 0), (610, .iload 4, 2, 0, 0, 0, 0), (612, .iconst 2, 1, 0, 0, 0, 2), (613, .iadd, 1, 0, 0, 0, 0), (614, .iaload, 1, 0, 0, 0, 0), (615, .invokevirtual 75, 3, 136, 3, 14, 80021), (618, .if_icmp .eq 879, 3, 1497, 0, 0, 0), (621, .iconst 0, 1, 0, 0, 0, 0), (622, .ireturn, 1, 1, 0, 0, 0), (623, .aload_n 1, 1, 0, 0, 0, 0), (624, .aload_n 0, 1, 0, 0, 0, 0), (625, .iload 4, 2, 0, 0, 0, 0), (627, .iconst 1, 1, 0, 0, 0, 1), (628, .iadd, 1, 0, 0, 0, 0), (629, .iaload, 1, 0, 0, 0, 0), (630, .aload_n 0, 1, 0, 0, 0, 0), (631, .iload 4, 2, 0, 0, 0, 0), (633, .iconst 2, 1, 0, 0, 0, 2), (634, .iadd, 1, 0, 0, 0, 0), (635, .iaload, 1, 0, 0, 0, 0), (636, .invokevirtual 76, 3, 138, 3, 13, 40079), (639, .aload_n 2, 1, 0, 0, 0, 0), (640, .aload_n 0, 1, 0, 0, 0, 0), (641, .iload 4, 2, 0, 0, 0, 0), (643, .iconst 1, 1, 0, 0, 0, 1), (644, .iadd, 1, 0, 0, 0, 0), (645, .iaload, 1, 0, 0, 0, 0), (646, .aload_n 0, 1, 0, 0, 0, 0), (647, .iload 4, 2, 0, 0, 0, 0), (649, .iconst 2, 1, 0, 0, 0, 2), (650, .iadd, 1, 0, 0, 0, 0), (651, .iaload, 1, 0, 0, 0, 0), (652, .invokevirtual 79, 3, 140, 3, 14, 80025), (655, .if_icmp .eq 842, 3, 1497, 0, 0, 0), (658, .iconst 0, 1, 0, 0, 0, 0), (659, .ireturn, 1, 1, 0, 0, 0), (660, .aload_n 1, 1, 0, 0, 0, 0), (661, .aload_n 0, 1, 0, 0, 0, 0), (662, .iload 4, 2, 0, 0, 0, 0), (664, .iconst 1, 1, 0, 0, 0, 1), (665, .iadd, 1, 0, 0, 0, 0), (666, .iaload, 1, 0, 0, 0, 0), (667, .invokevirtual 80, 3, 152, 2, 13, 40087), (670, .aload_n 2, 1, 0, 0, 0, 0), (671, .aload_n 0, 1, 0, 0, 0, 0), (672, .iload 4, 2, 0, 0, 0, 0), (674, .iconst 1, 1, 0, 0, 0, 1), (675, .iadd, 1, 0, 0, 0, 0), (676, .iaload, 1, 0, 0, 0, 0), (677, .invokevirtual 83, 3, 164, 2, 14, 80033), (680, .if_icmp .eq 817, 3, 1497, 0, 0, 0), (683, .iconst 0, 1, 0, 0, 0, 0), (684, .ireturn, 1, 1, 0, 0, 0), (685, .aload_n 1, 1, 0, 0, 0, 0), (686, .aload_n 0, 1, 0, 0, 0, 0), (687, .iload 4, 2, 0, 0, 0, 0), (689, .iconst 1, 1, 0, 0, 0, 1), (690, .iadd, 1, 0, 0, 0, 0), (691, .iaload, 1, 0, 0, 0, 0), (692, .aload_n 0, 1, 0, 0, 0, 0), (693, .iload 4, 2, 0, 0, 0, 0), (695, .iconst 2, 1, 0, 0, 0, 2), (696, .iadd, 1, 0, 0, 0, 0), (697, .iaload, 1, 0, 0, 0, 0), (698, .aload_n 0, 1, 0, 0, 0, 0), (699, .iload 4, 2, 0, 0, 0, 0), (701, .iconst 3, 1, 0, 0, 0, 3), (702, .iadd, 1, 0, 0, 0, 0), (703, .iaload, 1, 0, 0, 0, 0), (704, .invokevirtual 84, 3, 169, 4, 13, 40160), (707, .aload_n 2, 1, 0, 0, 0, 0), (708, .aload_n 0, 1, 0, 0, 0, 0), (709, .iload 4, 2, 0, 0, 0, 0), (711, .iconst 1, 1, 0, 0, 0, 1), (712, .iadd, 1, 0, 0, 0, 0), (713, .iaload, 1, 0, 0, 0, 0), (714, .aload_n 0, 1, 0, 0, 0, 0), (715, .iload 4, 2, 0, 0, 0, 0), (717, .iconst 2, 1, 0, 0, 0, 2), (718, .iadd, 1, 0, 0, 0, 0), (719, .iaload, 1, 0, 0, 0, 0), (720, .aload_n 0, 1, 0, 0, 0, 0), (721, .iload 4, 2, 0, 0, 0, 0), (723, .iconst 3, 1, 0, 0, 0, 3), (724, .iadd, 1, 0, 0, 0, 0), (725, .iaload, 1, 0, 0, 0, 0), (726, .invokevirtual 88, 3, 173, 4, 14, 80084), (729, .if_icmp .eq 768, 3, 1497, 0, 0, 0), (732, .iconst 0, 1, 0, 0, 0, 0), (733, .ireturn, 1, 1, 0, 0, 0), (734, .aload_n 1, 1, 0, 0, 0, 0), (735, .aload_n 0, 1, 0, 0, 0, 0), (736, .iload 4, 2, 0, 0, 0, 0), (738, .iconst 1, 1, 0, 0, 0, 1), (739, .iadd, 1, 0, 0, 0, 0), (740, .iaload, 1, 0, 0, 0, 0), (741, .invokevirtual 89, 3, 175, 2, 13, 40181), (744, .aload_n 2, 1, 0, 0, 0, 0), (745, .aload_n 0, 1, 0, 0, 0, 0), (746, .iload 4, 2, 0, 0, 0, 0), (748, .iconst 1, 1, 0, 0, 0, 1), (749, .iadd, 1, 0, 0, 0, 0), (750, .iaload, 1, 0, 0, 0, 0), (751, .invokevirtual 92, 3, 177, 2, 14, 80100), (754, .if_icmp .eq 743, 3, 1497, 0, 0, 0), (757, .iconst 0, 1, 0, 0, 0, 0), (758, .ireturn, 1, 1, 0, 0, 0), (759, .aload_n 1, 1, 0, 0, 0, 0), (760, .aload_n 0, 1, 0, 0, 0, 0), (761, .iload 4, 2, 0, 0, 0, 0), (763, .iconst 1, 1, 0, 0, 0, 1), (764, .iadd, 1, 0, 0, 0, 0), (765, .iaload, 1, 0, 0, 0, 0), (766, .aload_n 0, 1, 0, 0, 0, 0), (767, .iload 4, 2, 0, 0, 0, 0), (769, .iconst 2, 1, 0, 0, 0, 2), (770, .iadd, 1, 0, 0, 0, 0), (771, .iaload, 1, 0, 0, 0, 0), (772, .aload_n 0, 1, 0, 0, 0, 0), (773, .iload 4, 2, 0, 0, 0, 0), (775, .iconst 3, 1, 0, 0, 0, 3), (776, .iadd, 1, 0, 0, 0, 0), (777, .iaload, 1, 0, 0, 0, 0), (778, .invokevirtual 93, 3, 178, 4, 13, 40189), (781, .aload_n 2, 1, 0, 0, 0, 0), (782, .aload_n 0, 1, 0, 0, 0, 0), (783, .iload 4, 2, 0, 0, 0, 0), (785, .iconst 1, 1, 0, 0, 0, 1), (786, .iadd, 1, 0, 0, 0, 0), (787, .iaload, 1, 0, 0, 0, 0), (788, .aload_n 0, 1, 0, 0, 0, 0), (789, .iload 4, 2, 0, 0, 0, 0), (791, .iconst 2, 1, 0, 0, 0, 2), (792, .iadd, 1, 0, 0, 0, 0), (793, .iaload, 1, 0, 0, 0, 0), (794, .aload_n 0, 1, 0, 0, 0, 0), (795, .iload 4, 2, 0, 0, 0, 0), (797, .iconst 3, 1, 0, 0, 0, 3), (798, .iadd, 1, 0, 0, 0, 0), (799, .iaload, 1, 0, 0, 0, 0), (800, .invokevirtual 96, 3, 179, 4, 14, 80108), (803, .if_icmp .eq 694, 3, 1497, 0, 0, 0), (806, .iconst 0, 1, 0, 0, 0, 0), (807, .ireturn, 1, 1, 0, 0, 0), (808, .aload_n 1, 1, 0, 0, 0, 0), (809, .aload_n 0, 1, 0, 0, 0, 0), (810, .iload 4, 2, 0, 0, 0, 0), (812, .iconst 1, 1, 0, 0, 0, 1), (813, .iadd, 1, 0, 0, 0, 0), (814, .iaload, 1, 0, 0, 0, 0), (815, .invokevirtual 97, 3, 183, 2, 13, 40193), (818, .aload_n 2, 1, 0, 0, 0, 0), (819, .aload_n 0, 1, 0, 0, 0, 0), (820, .iload 4, 2, 0, 0, 0, 0), (822, .iconst 1, 1, 0, 0, 0, 1), (823, .iadd, 1, 0, 0, 0, 0), (824, .iaload, 1, 0, 0, 0, 0), (825, .invokevirtual 100, 3, 187, 2, 14, 80112), (828, .if_icmp .eq 669, 3, 1497, 0, 0, 0), (831, .iconst 0, 1, 0, 0, 0, 0), (832, .ireturn, 1, 1, 0, 0, 0), (833, .aload_n 1, 1, 0, 0, 0, 0), (834, .aload_n 0, 1, 0, 0, 0, 0), (835, .iload 4, 2, 0, 0, 0, 0), (837, .iconst 1, 1, 0, 0, 0, 1), (838, .iadd, 1, 0, 0, 0, 0), (839, .iaload, 1, 0, 0, 0, 0), (840, .invokevirtual 101, 3, 188, 2, 13, 40215), (843, .aload_n 2, 1, 0, 0, 0, 0), (844, .aload_n 0, 1, 0, 0, 0, 0), (845, .iload 4, 2, 0, 0, 0, 0), (847, .iconst 1, 1, 0, 0, 0, 1), (848, .iadd, 1, 0, 0, 0, 0), (849, .iaload, 1, 0, 0, 0, 0), (850, .invokevirtual 104, 3, 189, 2, 14, 80126), (853, .if_icmp .eq 644, 3, 1497, 0, 0, 0), (856, .iconst 0, 1, 0, 0, 0, 0), (857, .ireturn, 1, 1, 0, 0, 0), (858, .aload_n 1, 1, 0, 0, 0, 0), (859, .invokevirtual 105, 3, 191, 1, 13, 40219), (862, .aload_n 2, 1, 0, 0, 0, 0), (863, .invokevirtual 108, 3, 192, 1, 14, 80130), (866, .if_icmp .eq 631, 3, 1497, 0, 0, 0), (869, .iconst 0, 1, 0, 0, 0, 0), (870, .ireturn, 1, 1, 0, 0, 0), (871, .aload_n 1, 1, 0, 0, 0, 0), (872, .aload_n 0, 1, 0, 0, 0, 0), (873, .iload 4, 2, 0, 0, 0, 0), (875, .iconst 1, 1, 0, 0, 0, 1), (876, .iadd, 1, 0, 0, 0, 0), (877, .iaload, 1, 0, 0, 0, 0), (878, .invokevirtual 109, 3, 193, 2, 13, 40227), (881, .aload_n 2, 1, 0, 0, 0, 0), (882, .aload_n 0, 1, 0, 0, 0, 0), (883, .iload 4, 2, 0, 0, 0, 0), (885, .iconst 1, 1, 0, 0, 0, 1), (886, .iadd, 1, 0, 0, 0, 0), (887, .iaload, 1, 0, 0, 0, 0), (888, .invokevirtual 112, 3, 194, 2, 14, 80134), (891, .if_icmp .eq 606, 3, 1497, 0, 0, 0), (894, .iconst 0, 1, 0, 0, 0, 0), (895, .ireturn, 1, 1, 0, 0, 0), (896, .aload_n 1, 1, 0, 0, 0, 0), (897, .aload_n 0, 1, 0, 0, 0, 0), (898, .iload 4, 2, 0, 0, 0, 0), (900, .iconst 1, 1, 0, 0, 0, 1), (901, .iadd, 1, 0, 0, 0, 0), (902, .iaload, 1, 0, 0, 0, 0), (903, .invokevirtual 113, 3, 196, 2, 13, 40231), (906, .aload_n 2, 1, 0, 0, 0, 0), (907, .aload_n 0, 1, 0, 0, 0, 0), (908, .iload 4, 2, 0, 0, 0, 0), (910, .iconst 1, 1, 0, 0, 0, 1), (911, .iadd, 1, 0, 0, 0, 0), (912, .iaload, 1, 0, 0, 0, 0), (913, .invokevirtual 116, 3, 197, 2, 14, 80138), (916, .if_icmp .eq 581, 3, 1497, 0, 0, 0), (919, .iconst 0, 1, 0, 0, 0, 0), (920, .ireturn, 1, 1, 0, 0, 0), (921, .aload_n 1, 1, 0, 0, 0, 0), (922, .invokevirtual 117, 3, 198, 1, 13, 40239), (925, .aload_n 2, 1, 0, 0, 0, 0), (926, .invokevirtual 120, 3, 199, 1, 14, 80142), (929, .if_icmp .eq 568, 3, 1497, 0, 0, 0), (932, .iconst 0, 1, 0, 0, 0, 0), (933, .ireturn, 1, 1, 0, 0, 0), (934, .aload_n 1, 1, 0, 0, 0, 0), (935, .invokevirtual 121, 3, 200, 1, 13, 50003), (938, .aload_n 2, 1, 0, 0, 0, 0), (939, .invokevirtual 124, 3, 201, 1, 14, 80146), (942, .if_icmp .eq 555, 3, 1497, 0, 0, 0), (945, .iconst 0, 1, 0, 0, 0, 0), (946, .ireturn, 1, 1, 0, 0, 0), (947, .aload_n 1, 1, 0, 0, 0, 0), (948, .aload_n 0, 1, 0, 0, 0, 0), (949, .iload 4, 2, 0, 0, 0, 0), (951, .iconst 1, 1, 0, 0, 0, 1), (952, .iadd, 1, 0, 0, 0, 0), (953, .iaload, 1, 0, 0, 0, 0), (954, .aload_n 0, 1, 0, 0, 0, 0), (955, .iload 4, 2, 0, 0, 0, 0), (957, .iconst 2, 1, 0, 0, 0, 2), (958, .iadd, 1, 0, 0, 0, 0), (959, .iaload, 1, 0, 0, 0, 0), (960, .invokevirtual 125, 3, 205, 3, 13, 50007), (963, .aload_n 2, 1, 0, 0, 0, 0), (964, .aload_n 0, 1, 0, 0, 0, 0), (965, .iload 4, 2, 0, 0, 0, 0), (967, .iconst 1, 1, 0, 0, 0, 1), (968, .iadd, 1, 0, 0, 0, 0), (969, .iaload, 1, 0, 0, 0, 0), (970, .aload_n 0, 1, 0, 0, 0, 0), (971, .iload 4, 2, 0, 0, 0, 0), (973, .iconst 2, 1, 0, 0, 0, 2), (974, .iadd, 1, 0, 0, 0, 0), (975, .iaload, 1, 0, 0, 0, 0), (976, .invokevirtual 128, 3, 209, 3, 14, 80174), (979, .if_icmp .eq 518, 3, 1497, 0, 0, 0), (982, .iconst 0, 1, 0, 0, 0, 0), (983, .ireturn, 1, 1, 0, 0, 0), (984, .aload_n 1, 1, 0, 0, 0, 0), (985, .aload_n 0, 1, 0, 0, 0, 0), (986, .iload 4, 2, 0, 0, 0, 0), (988, .iconst 1, 1, 0, 0, 0, 1), (989, .iadd, 1, 0, 0, 0, 0), (990, .iaload, 1, 0, 0, 0, 0), (991, .aload_n 0, 1, 0, 0, 0, 0), (992, .iload 4, 2, 0, 0, 0, 0), (994, .iconst 2, 1, 0, 0, 0, 2), (995, .iadd, 1, 0, 0, 0, 0), (996, .iaload, 1, 0, 0, 0, 0), (997, .aload_n 0, 1, 0, 0, 0, 0), (998, .iload 4, 2, 0, 0, 0, 0), (1000, .iconst 3, 1, 0, 0, 0, 3), (1001, .iadd, 1, 0, 0, 0, 0), (1002, .iaload, 1, 0, 0, 0, 0), (1003, .invokevirtual 129, 3, 210, 4, 13, 50022), (1006, .aload_n 2, 1, 0, 0, 0, 0), (1007, .aload_n 0, 1, 0, 0, 0, 0), (1008, .iload 4, 2, 0, 0, 0, 0), (1010, .iconst 1, 1, 0, 0, 0, 1), (1011, .iadd, 1, 0, 0, 0, 0), (1012, .iaload, 1, 0, 0, 0, 0), (1013, .aload_n 0, 1, 0, 0, 0, 0), (1014, .iload 4, 2, 0, 0, 0, 0), (1016, .iconst 2, 1, 0, 0, 0, 2), (1017, .iadd, 1, 0, 0, 0, 0), (1018, .iaload, 1, 0, 0, 0, 0), (1019, .aload_n 0, 1, 0, 0, 0, 0), (1020, .iload 4, 2, 0, 0, 0, 0), (1022, .iconst 3, 1, 0, 0, 0, 3), (1023, .iadd, 1, 0, 0, 0, 0), (1024, .iaload, 1, 0, 0, 0, 0), (1025, .invokevirtual 132, 3, 211, 4, 14, 80189), (1028, .if_icmp .eq 469, 3, 1497, 0, 0, 0), (1031, .iconst 0, 1, 0, 0, 0, 0), (1032, .ireturn, 1, 1, 0, 0, 0), (1033, .aload_n 1, 1, 0, 0, 0, 0), (1034, .aload_n 0, 1, 0, 0, 0, 0), (1035, .iload 4, 2, 0, 0, 0, 0), (1037, .iconst 1, 1, 0, 0, 0, 1), (1038, .iadd, 1, 0, 0, 0, 0), (1039, .iaload, 1, 0, 0, 0, 0), (1040, .aload_n 0, 1, 0, 0, 0, 0), (1041, .iload 4, 2, 0, 0, 0, 0), (1043, .iconst 2, 1, 0, 0, 0, 2), (1044, .iadd, 1, 0, 0, 0, 0), (1045, .iaload, 1, 0, 0, 0, 0), (1046, .invokevirtual 133, 3, 212, 3, 13, 50026), (1049, .aload_n 2, 1, 0, 0, 0, 0), (1050, .aload_n 0, 1, 0, 0, 0, 0), (1051, .iload 4, 2, 0, 0, 0, 0), (1053, .iconst 1, 1, 0, 0, 0, 1), (1054, .iadd, 1, 0, 0, 0, 0), (1055, .iaload, 1, 0, 0, 0, 0), (1056, .aload_n 0, 1, 0, 0, 0, 0), (1057, .iload 4, 2, 0, 0, 0, 0), (1059, .iconst 2, 1, 0, 0, 0, 2), (1060, .iadd, 1, 0, 0, 0, 0), (1061, .iaload, 1, 0, 0, 0, 0), (1062, .invokevirtual 136, 3, 213, 3, 14, 80150), (1065, .if_icmp .eq 432, 3, 1497, 0, 0, 0), (1068, .iconst 0, 1, 0, 0, 0, 0), (1069, .ireturn, 1, 1, 0, 0, 0), (1070, .aload_n 1, 1, 0, 0, 0, 0), (1071, .invokevirtual 137, 3, 214, 1, 13, 50031), (1074, .aload_n 2, 1, 0, 0, 0, 0), (1075, .invokevirtual 140, 3, 215, 1, 14, 80154), (1078, .if_icmp .eq 419, 3, 1497, 0, 0, 0), (1081, .iconst 0, 1, 0, 0, 0, 0), (1082, .ireturn, 1, 1, 0, 0, 0), (1083, .aload_n 1, 1, 0, 0, 0, 0), (1084, .aload_n 0, 1, 0, 0, 0, 0), (1085, .iload 4, 2, 0, 0, 0, 0), (1087, .iconst 1, 1, 0, 0, 0, 1), (1088, .iadd, 1, 0, 0, 0, 0), (1089, .iaload, 1, 0, 0, 0, 0), (1090, .invokevirtual 141, 3, 216, 2, 13, 50035), (1093, .aload_n 2, 1, 0, 0, 0, 0), (1094, .aload_n 0, 1, 0, 0, 0, 0), (1095, .iload 4, 2, 0, 0, 0, 0), (1097, .iconst 1, 1, 0, 0, 0, 1), (1098, .iadd, 1, 0, 0, 0, 0), (1099, .iaload, 1, 0, 0, 0, 0), (1100, .invokevirtual 144, 3, 217, 2, 14, 80158), (1103, .if_icmp .eq 394, 3, 1497, 0, 0, 0), (1106, .iconst 0, 1, 0, 0, 0, 0), (1107, .ireturn, 1, 1, 0, 0, 0), (1108, .aload_n 1, 1, 0, 0, 0, 0), (1109, .aload_n 0, 1, 0, 0, 0, 0), (1110, .iload 4, 2, 0, 0, 0, 0), (1112, .iconst 1, 1, 0, 0, 0, 1), (1113, .iadd, 1, 0, 0, 0, 0), (1114, .iaload, 1, 0, 0, 0, 0), (1115, .invokevirtual 145, 3, 218, 2, 13, 50039), (1118, .aload_n 2, 1, 0, 0, 0, 0), (1119, .aload_n 0, 1, 0, 0, 0, 0), (1120, .iload 4, 2, 0, 0, 0, 0), (1122, .iconst 1, 1, 0, 0, 0, 1), (1123, .iadd, 1, 0, 0, 0, 0), (1124, .iaload, 1, 0, 0, 0, 0), (1125, .invokevirtual 148, 3, 219, 2, 14, 80162), (1128, .if_icmp .eq 369, 3, 1497, 0, 0, 0), (1131, .iconst 0, 1, 0, 0, 0, 0), (1132, .ireturn, 1, 1, 0, 0, 0), (1133, .aload_n 1, 1, 0, 0, 0, 0), (1134, .aload_n 0, 1, 0, 0, 0, 0), (1135, .iload 4, 2, 0, 0, 0, 0), (1137, .iconst 1, 1, 0, 0, 0, 1), (1138, .iadd, 1, 0, 0, 0, 0), (1139, .iaload, 1, 0, 0, 0, 0), (1140, .invokevirtual 149, 3, 220, 2, 13, 50044), (1143, .aload_n 2, 1, 0, 0, 0, 0), (1144, .aload_n 0, 1, 0, 0, 0, 0), (1145, .iload 4, 2, 0, 0, 0, 0), (1147, .iconst 1, 1, 0, 0, 0, 1), (1148, .iadd, 1, 0, 0, 0, 0), (1149, .iaload, 1, 0, 0, 0, 0), (1150, .invokevirtual 152, 3, 221, 2, 14, 80166), (1153, .if_icmp .eq 344, 3, 1497, 0, 0, 0), (1156, .iconst 0, 1, 0, 0, 0, 0), (1157, .ireturn, 1, 1, 0, 0, 0), (1158, .aload_n 1, 1, 0, 0, 0, 0), (1159, .aload_n 0, 1, 0, 0, 0, 0), (1160, .iload 4, 2, 0, 0, 0, 0), (1162, .iconst 1, 1, 0, 0, 0, 1), (1163, .iadd, 1, 0, 0, 0, 0), (1164, .iaload, 1, 0, 0, 0, 0), (1165, .invokevirtual 153, 3, 222, 2, 13, 50048), (1168, .aload_n 2, 1, 0, 0, 0, 0), (1169, .aload_n 0, 1, 0, 0, 0, 0), (1170, .iload 4, 2, 0, 0, 0, 0), (1172, .iconst 1, 1, 0, 0, 0, 1), (1173, .iadd, 1, 0, 0, 0, 0), (1174, .iaload, 1, 0, 0, 0, 0), (1175, .invokevirtual 156, 3, 223, 2, 14, 80170), (1178, .if_icmp .eq 319, 3, 1497, 0, 0, 0), (1181, .iconst 0, 1, 0, 0, 0, 0), (1182, .ireturn, 1, 1, 0, 0, 0), (1183, .aload_n 1, 1, 0, 0, 0, 0), (1184, .aload_n 0, 1, 0, 0, 0, 0), (1185, .iload 4, 2, 0, 0, 0, 0), (1187, .iconst 1, 1, 0, 0, 0, 1), (1188, .iadd, 1, 0, 0, 0, 0), (1189, .iaload, 1, 0, 0, 0, 0), (1190, .aload_n 0, 1, 0, 0, 0, 0), (1191, .iload 4, 2, 0, 0, 0, 0), (1193, .iconst 2, 1, 0, 0, 0, 2), (1194, .iadd, 1, 0, 0, 0, 0), (1195, .iaload, 1, 0, 0, 0, 0), (1196, .aload_n 0, 1, 0, 0, 0, 0), (1197, .iload 4, 2, 0, 0, 0, 0), (1199, .iconst 3, 1, 0, 0, 0, 3), (1200, .iadd, 1, 0, 0, 0, 0), (1201, .iaload, 1, 0, 0, 0, 0), (1202, .aload_n 0, 1, 0, 0, 0, 0), (1203, .iload 4, 2, 0, 0, 0, 0), (1205, .iconst 4, 1, 0, 0, 0, 4), (1206, .iadd, 1, 0, 0, 0, 0), (1207, .iaload, 1, 0, 0, 0, 0), (1208, .ifCond .eq 7, 3, 1215, 0, 0, 0), (1211, .iconst 1, 1, 0, 0, 0, 1), (1212, .goto 4, 3, 1216, 0, 0, 0), (1215, .iconst 0, 1, 0, 0, 0, 0), (1216, .nop, 0, 31, 0, 0, 0), (1216, .invokevirtual 157, 3, 225, 5, 13, 50052), (1219, .aload_n 2, 1, 0, 0, 0, 0), (1220, .aload_n 0, 1, 0, 0, 0, 0), (1221, .iload 4, 2, 0, 0, 0, 0), (1223, .iconst 1, 1, 0, 0, 0, 1), (1224, .iadd, 1, 0, 0, 0, 0), (1225, .iaload, 1, 0, 0, 0, 0), (1226, .aload_n 0, 1, 0, 0, 0, 0), (1227, .iload 4, 2, 0, 0, 0, 0), (1229, .iconst 2, 1, 0, 0, 0, 2), (1230, .iadd, 1, 0, 0, 0, 0), (1231, .iaload, 1, 0, 0, 0, 0), (1232, .aload_n 0, 1, 0, 0, 0, 0), (1233, .iload 4, 2, 0, 0, 0, 0), (1235, .iconst 3, 1, 0, 0, 0, 3), (1236, .iadd, 1, 0, 0, 0, 0), (1237, .iaload, 1, 0, 0, 0, 0), (1238, .aload_n 0, 1, 0, 0, 0, 0), (1239, .iload 4, 2, 0, 0, 0, 0), (1241, .iconst 4, 1, 0, 0, 0, 4), (1242, .iadd, 1, 0, 0, 0, 0), (1243, .iaload, 1, 0, 0, 0, 0), (1244, .ifCond .eq 7, 3, 1251, 0, 0, 0), (1247, .iconst 1, 1, 0, 0, 0, 1), (1248, .goto 4, 3, 1252, 0, 0, 0), (1251, .iconst 0, 1, 0, 0, 0, 0), (1252, .nop, 0, 31, 0, 0, 0), (1252, .invokevirtual 161, 3, 227, 5, 14, 80193), (1255, .if_icmp .eq 242, 3, 1497, 0, 0, 0), (1258, .iconst 0, 1, 0, 0, 0, 0), (1259, .ireturn, 1, 1, 0, 0, 0), (1260, .aload_n 1, 1, 0, 0, 0, 0), (1261, .aload_n 0, 1, 0, 0, 0, 0), (1262, .iload 4, 2, 0, 0, 0, 0), (1264, .iconst 1, 1, 0, 0, 0, 1), (1265, .iadd, 1, 0, 0, 0, 0), (1266, .iaload, 1, 0, 0, 0, 0), (1267, .invokevirtual 162, 3, 229, 2, 13, 50060), (1270, .aload_n 2, 1, 0, 0, 0, 0), (1271, .aload_n 0, 1, 0, 0, 0, 0), (1272, .iload 4, 2, 0, 0, 0, 0), (1274, .iconst 1, 1, 0, 0, 0, 1), (1275, .iadd, 1, 0, 0, 0, 0), (1276, .iaload, 1, 0, 0, 0, 0), (1277, .invokevirtual 165, 3, 230, 2, 14, 80201), (1280, .if_icmp .eq 217, 3, 1497, 0, 0, 0), (1283, .iconst 0, 1, 0, 0, 0, 0), (1284, .ireturn, 1, 1, 0, 0, 0), (1285, .aload_n 1, 1, 0, 0, 0, 0), (1286, .aload_n 0, 1, 0, 0, 0, 0), (1287, .iload 4, 2, 0, 0, 0, 0), (1289, .iconst 1, 1, 0, 0, 0, 1), (1290, .iadd, 1, 0, 0, 0, 0), (1291, .iaload, 1, 0, 0, 0, 0), (1292, .invokevirtual 166, 3, 231, 2, 13, 50068), (1295, .aload_n 2, 1, 0, 0, 0, 0), (1296, .aload_n 0, 1, 0, 0, 0, 0), (1297, .iload 4, 2, 0, 0, 0, 0), (1299, .iconst 1, 1, 0, 0, 0, 1), (1300, .iadd, 1, 0, 0, 0, 0), (1301, .iaload, 1, 0, 0, 0, 0), (1302, .invokevirtual 169, 3, 232, 2, 14, 80205), (1305, .if_icmp .eq 192, 3, 1497, 0, 0, 0), (1308, .iconst 0, 1, 0, 0, 0, 0), (1309, .ireturn, 1, 1, 0, 0, 0), (1310, .aload_n 1, 1, 0, 0, 0, 0), (1311, .aload_n 0, 1, 0, 0, 0, 0), (1312, .iload 4, 2, 0, 0, 0, 0), (1314, .iconst 1, 1, 0, 0, 0, 1), (1315, .iadd, 1, 0, 0, 0, 0), (1316, .iaload, 1, 0, 0, 0, 0), (1317, .invokevirtual 170, 3, 238, 2, 13, 50072), (1320, .aload_n 2, 1, 0, 0, 0, 0), (1321, .aload_n 0, 1, 0, 0, 0, 0), (1322, .iload 4, 2, 0, 0, 0, 0), (1324, .iconst 1, 1, 0, 0, 0, 1), (1325, .iadd, 1, 0, 0, 0, 0), (1326, .iaload, 1, 0, 0, 0, 0), (1327, .invokevirtual 173, 3, 242, 2, 14, 80209), (1330, .if_icmp .eq 167, 3, 1497, 0, 0, 0), (1333, .iconst 0, 1, 0, 0, 0, 0), (1334, .ireturn, 1, 1, 0, 0, 0), (1335, .aload_n 1, 1, 0, 0, 0, 0), (1336, .aload_n 0, 1, 0, 0, 0, 0), (1337, .iload 4, 2, 0, 0, 0, 0), (1339, .iconst 1, 1, 0, 0, 0, 1), (1340, .iadd, 1, 0, 0, 0, 0), (1341, .iaload, 1, 0, 0, 0, 0), (1342, .aload_n 0, 1, 0, 0, 0, 0), (1343, .iload 4, 2, 0, 0, 0, 0), (1345, .iconst 2, 1, 0, 0, 0, 2), (1346, .iadd, 1, 0, 0, 0, 0), (1347, .iaload, 1, 0, 0, 0, 0), (1348, .aload_n 0, 1, 0, 0, 0, 0), (1349, .iload 4, 2, 0, 0, 0, 0), (1351, .iconst 3, 1, 0, 0, 0, 3), (1352, .iadd, 1, 0, 0, 0, 0), (1353, .iaload, 1, 0, 0, 0, 0), (1354, .invokevirtual 174, 3, 243, 4, 13, 50098), (1357, .aload_n 2, 1, 0, 0, 0, 0), (1358, .aload_n 0, 1, 0, 0, 0, 0), (1359, .iload 4, 2, 0, 0, 0, 0), (1361, .iconst 1, 1, 0, 0, 0, 1), (1362, .iadd, 1, 0, 0, 0, 0), (1363, .iaload, 1, 0, 0, 0, 0), (1364, .aload_n 0, 1, 0, 0, 0, 0), (1365, .iload 4, 2, 0, 0, 0, 0), (1367, .iconst 2, 1, 0, 0, 0, 2), (1368, .iadd, 1, 0, 0, 0, 0), (1369, .iaload, 1, 0, 0, 0, 0), (1370, .aload_n 0, 1, 0, 0, 0, 0), (1371, .iload 4, 2, 0, 0, 0, 0), (1373, .iconst 3, 1, 0, 0, 0, 3), (1374, .iadd, 1, 0, 0, 0, 0), (1375, .iaload, 1, 0, 0, 0, 0), (1376, .invokevirtual 177, 3, 244, 4, 14, 80225), (1379, .if_icmp .eq 118, 3, 1497, 0, 0, 0), (1382, .iconst 0, 1, 0, 0, 0, 0), (1383, .ireturn, 1, 1, 0, 0, 0), (1384, .aload_n 1, 1, 0, 0, 0, 0), (1385, .aload_n 0, 1, 0, 0, 0, 0), (1386, .iload 4, 2, 0, 0, 0, 0), (1388, .iconst 1, 1, 0, 0, 0, 1), (1389, .iadd, 1, 0, 0, 0, 0), (1390, .iaload, 1, 0, 0, 0, 0), (1391, .aload_n 0, 1, 0, 0, 0, 0), (1392, .iload 4, 2, 0, 0, 0, 0), (1394, .iconst 2, 1, 0, 0, 0, 2), (1395, .iadd, 1, 0, 0, 0, 0), (1396, .iaload, 1, 0, 0, 0, 0), (1397, .aload_n 0, 1, 0, 0, 0, 0), (1398, .iload 4, 2, 0, 0, 0, 0), (1400, .iconst 3, 1, 0, 0, 0, 3), (1401, .iadd, 1, 0, 0, 0, 0), (1402, .iaload, 1, 0, 0, 0, 0), (1403, .invokevirtual 178, 3, 246, 4, 13, 50102), (1406, .aload_n 2, 1, 0, 0, 0, 0), (1407, .aload_n 0, 1, 0, 0, 0, 0), (1408, .iload 4, 2, 0, 0, 0, 0), (1410, .iconst 1, 1, 0, 0, 0, 1), (1411, .iadd, 1, 0, 0, 0, 0), (1412, .iaload, 1, 0, 0, 0, 0), (1413, .aload_n 0, 1, 0, 0, 0, 0), (1414, .iload 4, 2, 0, 0, 0, 0), (1416, .iconst 2, 1, 0, 0, 0, 2), (1417, .iadd, 1, 0, 0, 0, 0), (1418, .iaload, 1, 0, 0, 0, 0), (1419, .aload_n 0, 1, 0, 0, 0, 0), (1420, .iload 4, 2, 0, 0, 0, 0), (1422, .iconst 3, 1, 0, 0, 0, 3), (1423, .iadd, 1, 0, 0, 0, 0), (1424, .iaload, 1, 0, 0, 0, 0), (1425, .invokevirtual 181, 3, 247, 4, 14, 80229), (1428, .if_icmp .eq 69, 3, 1497, 0, 0, 0), (1431, .iconst 0, 1, 0, 0, 0, 0), (1432, .ireturn, 1, 1, 0, 0, 0), (1433, .aload_n 1, 1, 0, 0, 0, 0), (1434, .invokevirtual 182, 3, 249, 1, 13, 50110), (1437, .aload_n 2, 1, 0, 0, 0, 0), (1438, .invokevirtual 185, 3, 251, 1, 14, 80233), (1441, .if_icmp .eq 56, 3, 1497, 0, 0, 0), (1444, .iconst 0, 1, 0, 0, 0, 0), (1445, .ireturn, 1, 1, 0, 0, 0), (1446, .aload_n 1, 1, 0, 0, 0, 0), (1447, .invokevirtual 186, 3, 252, 1, 13, 50118), (1450, .aload_n 2, 1, 0, 0, 0, 0), (1451, .invokevirtual 189, 3, 253, 1, 14, 90001), (1454, .if_icmp .eq 43, 3, 1497, 0, 0, 0), (1457, .iconst 0, 1, 0, 0, 0, 0), (1458, .ireturn, 1, 1, 0, 0, 0), (1459, .aload_n 1, 1, 0, 0, 0, 0), (1460, .invokevirtual 190, 3, 254, 1, 13, 50122), (1463, .aload_n 2, 1, 0, 0, 0, 0), (1464, .invokevirtual 193, 3, 255, 1, 14, 90005), (1467, .if_icmp .eq 30, 3, 1497, 0, 0, 0), (1470, .iconst 0, 1, 0, 0, 0, 0), (1471, .ireturn, 1, 1, 0, 0, 0), (1472, .aload_n 1, 1, 0, 0, 0, 0), (1473, .aload_n 0, 1, 0, 0, 0, 0), (1474, .iload 4, 2, 0, 0, 0, 0), (1476, .iconst 1, 1, 0, 0, 0, 1), (1477, .iadd, 1, 0, 0, 0, 0), (1478, .iaload, 1, 0, 0, 0, 0), (1479, .invokevirtual 194, 3, 257, 2, 13, 50126), (1482, .aload_n 2, 1, 0, 0, 0, 0), (1483, .aload_n 0, 1, 0, 0, 0, 0), (1484, .iload 4, 2, 0, 0, 0, 0), (1486, .iconst 1, 1, 0, 0, 0, 1), (1487, .iadd, 1, 0, 0, 0, 0), (1488, .iaload, 1, 0, 0, 0, 0), (1489, .invokevirtual 197, 3, 258, 2, 14, 90009), (1492, .if_icmp .eq 5, 3, 1497, 0, 0, 0), (1495, .iconst 0, 1, 0, 0, 0, 0), (1496, .ireturn, 1, 1, 0, 0, 0), (1497, .nop, 0, 31, 0, 0, 0), (1497, .iinc 4 6, 3, 0, 0, 0, 0), (1500, .goto (-1477), 3, 23, 0, 0, 0), (1503, .iconst 1, 1, 0, 0, 0, 1), (1504, .ireturn, 1, 1, 0, 0, 0)]
def mcd (m : Nat) : List mE := (bif Nat.blt m 130 then (bif Nat.blt m 65 then (bif Nat.blt m 32 then (bif Nat.blt m 16 then (bif Nat.blt m 8 then (bif Nat.blt m 4 then (bif Nat.blt m 2 then (bif Nat.blt m 1 then cd_Tokens_init else cd_LawReader_init) else (bif Nat.blt m 3 then cd_Laws_init else cd_Plan_init)) else (bif Nat.blt m 6 then (bif Nat.blt m 5 then cd_LineReader_init else cd_Day_init) else (bif Nat.blt m 7 then cd_Way_init else cd_Seen_init))) else (bif Nat.blt m 12 then (bif Nat.blt m 10 then (bif Nat.blt m 9 then cd_Log_init else cd_C_init) else (bif Nat.blt m 11 then cd_M_plain else cd_M_copies)) else (bif Nat.blt m 14 then (bif Nat.blt m 13 then cd_M_atFirst else cd_M_plainTried) else (bif Nat.blt m 15 then cd_M_begin else cd_M_keepText)))) else (bif Nat.blt m 24 then (bif Nat.blt m 20 then (bif Nat.blt m 18 then (bif Nat.blt m 17 then cd_M_init else cd_C_tapeFour) else (bif Nat.blt m 19 then cd_C_feed else cd_M_feed)) else (bif Nat.blt m 22 then (bif Nat.blt m 21 then cd_Laws_clear else cd_Plan_clear) else (bif Nat.blt m 23 then cd_Tokens_isLetter else cd_Tokens_wordKind))) else (bif Nat.blt m 28 then (bif Nat.blt m 26 then (bif Nat.blt m 25 then cd_Tokens_readWord else cd_Tokens_isDigit) else (bif Nat.blt m 27 then cd_Tokens_readNumber else cd_Tokens_signKind)) else (bif Nat.blt m 30 then (bif Nat.blt m 29 then cd_Tokens_lengthenSign else cd_Tokens_advance) else (bif Nat.blt m 31 then cd_Tokens_begin else cd_LineReader_fails))))) else (bif Nat.blt m 48 then (bif Nat.blt m 40 then (bif Nat.blt m 36 then (bif Nat.blt m 34 then (bif Nat.blt m 33 then cd_Plan_numberOf else cd_LineReader_readsNumber) else (bif Nat.blt m 35 then cd_LineReader_skipsMinus else cd_LineReader_readsMan)) else (bif Nat.blt m 38 then (bif Nat.blt m 37 then cd_LineReader_readsEnd else cd_LineReader_readsPerson) else (bif Nat.blt m 39 then cd_LineReader_readsRing else cd_LineReader_readsMeet))) else (bif Nat.blt m 44 then (bif Nat.blt m 42 then (bif Nat.blt m 41 then cd_LineReader_readsCold else cd_LineReader_readsCrowd) else (bif Nat.blt m 43 then cd_LineReader_readsSeed else cd_Laws_isTold)) else (bif Nat.blt m 46 then (bif Nat.blt m 45 then cd_LawReader_levelOf else cd_Laws_add) else (bif Nat.blt m 47 then cd_LawReader_unpile else cd_LawReader_pileUp)))) else (bif Nat.blt m 56 then (bif Nat.blt m 52 then (bif Nat.blt m 50 then (bif Nat.blt m 49 then cd_LawReader_topLevel else cd_LawReader_pilesKnot) else (bif Nat.blt m 51 then cd_LawReader_takesValue else cd_LawReader_takesSign)) else (bif Nat.blt m 54 then (bif Nat.blt m 53 then cd_LawReader_readsLaw else cd_LineReader_readsLaw) else (bif Nat.blt m 55 then cd_LineReader_readsLine else cd_LineReader_readsAll))) else (bif Nat.blt m 60 then (bif Nat.blt m 58 then (bif Nat.blt m 57 then cd_Day_begin else cd_Seen_forget) else (bif Nat.blt m 59 then cd_C_text else cd_M_isSmall)) else (bif Nat.blt m 62 then (bif Nat.blt m 61 then cd_M_wordAt else cd_M_packed) else (bif Nat.blt m 63 then cd_M_isDigit else (bif Nat.blt m 64 then cd_M_signToken else cd_M_token))))))) else (bif Nat.blt m 97 then (bif Nat.blt m 81 then (bif Nat.blt m 73 then (bif Nat.blt m 69 then (bif Nat.blt m 67 then (bif Nat.blt m 66 then cd_M_wrong else cd_M_find) else (bif Nat.blt m 68 then cd_M_isIn else cd_M_number)) else (bif Nat.blt m 71 then (bif Nat.blt m 70 then cd_M_isSign else cd_M_signed) else (bif Nat.blt m 72 then cd_M_manLine else cd_M_manThere))) else (bif Nat.blt m 77 then (bif Nat.blt m 75 then (bif Nat.blt m 74 then cd_M_ringLine else cd_M_meetLine) else (bif Nat.blt m 76 then cd_M_coldLine else cd_M_onceLine)) else (bif Nat.blt m 79 then (bif Nat.blt m 78 then cd_M_waitsFor else cd_M_isKey) else (bif Nat.blt m 80 then cd_M_isCounted else cd_M_nameMet)))) else (bif Nat.blt m 89 then (bif Nat.blt m 85 then (bif Nat.blt m 83 then (bif Nat.blt m 82 then cd_M_grown else cd_M_leafRead) else (bif Nat.blt m 84 then cd_M_rank else cd_M_dropHeld)) else (bif Nat.blt m 87 then (bif Nat.blt m 86 then cd_M_bind else cd_M_signs) else (bif Nat.blt m 88 then cd_M_sumRead else cd_M_lineRead))) else (bif Nat.blt m 93 then (bif Nat.blt m 91 then (bif Nat.blt m 90 then cd_M_text else cd_C_fault) else (bif Nat.blt m 92 then cd_M_fault else cd_C_named)) else (bif Nat.blt m 95 then (bif Nat.blt m 94 then cd_M_named else cd_C_isPerson) else (bif Nat.blt m 96 then cd_Day_placeOf else cd_Day_modeOf))))) else (bif Nat.blt m 113 then (bif Nat.blt m 105 then (bif Nat.blt m 101 then (bif Nat.blt m 99 then (bif Nat.blt m 98 then cd_C_man else cd_L_man) else (bif Nat.blt m 100 then cd_M_isMan else cd_M_fails)) else (bif Nat.blt m 103 then (bif Nat.blt m 102 then cd_M_placeOf else cd_M_man) else (bif Nat.blt m 104 then cd_M_thrown else cd_C_isMeeting))) else (bif Nat.blt m 109 then (bif Nat.blt m 107 then (bif Nat.blt m 106 then cd_C_meeting else cd_M_isMeeting) else (bif Nat.blt m 108 then cd_M_meeting else cd_C_shows)) else (bif Nat.blt m 111 then (bif Nat.blt m 110 then cd_M_shows else cd_Way_follow) else (bif Nat.blt m 112 then cd_Laws_joined else cd_Laws_valueOf)))) else (bif Nat.blt m 121 then (bif Nat.blt m 117 then (bif Nat.blt m 115 then (bif Nat.blt m 114 then cd_Way_lawOf else cd_C_law) else (bif Nat.blt m 116 then cd_M_waitsOf else cd_M_rateIn)) else (bif Nat.blt m 119 then (bif Nat.blt m 118 then cd_M_layNames else cd_M_bounded) else (bif Nat.blt m 120 then cd_M_times else cd_M_compares))) else (bif Nat.blt m 125 then (bif Nat.blt m 123 then (bif Nat.blt m 122 then cd_M_valueOf else cd_M_lawOf) else (bif Nat.blt m 124 then cd_M_law else cd_Day_takesIn)) else (bif Nat.blt m 127 then (bif Nat.blt m 126 then cd_Log_note else cd_C_ring) else (bif Nat.blt m 128 then cd_M_put else (bif Nat.blt m 129 then cd_M_remember else cd_M_joins)))))))) else (bif Nat.blt m 195 then (bif Nat.blt m 162 then (bif Nat.blt m 146 then (bif Nat.blt m 138 then (bif Nat.blt m 134 then (bif Nat.blt m 132 then (bif Nat.blt m 131 then cd_M_ring else cd_Day_takeOut) else (bif Nat.blt m 133 then cd_C_hangUp else cd_M_leaves)) else (bif Nat.blt m 136 then (bif Nat.blt m 135 then cd_M_hangUp else cd_C_set) else (bif Nat.blt m 137 then cd_M_set else cd_Day_isOneThere))) else (bif Nat.blt m 142 then (bif Nat.blt m 140 then (bif Nat.blt m 139 then cd_C_putOff else cd_M_isOpen) else (bif Nat.blt m 141 then cd_M_putOff else cd_Way_takeRings)) else (bif Nat.blt m 144 then (bif Nat.blt m 143 then cd_Day_drawNumber else cd_Way_isStrangerRinging) else (bif Nat.blt m 145 then cd_Day_takesStranger else cd_C_within)))) else (bif Nat.blt m 154 then (bif Nat.blt m 150 then (bif Nat.blt m 148 then (bif Nat.blt m 147 then cd_Way_isCold else cd_Way_startTalk) else (bif Nat.blt m 149 then cd_Way_goOnTalking else cd_Way_driftAll)) else (bif Nat.blt m 152 then (bif Nat.blt m 151 then cd_Way_meet else cd_Way_passMinute) else (bif Nat.blt m 153 then cd_C_go else cd_M_number1))) else (bif Nat.blt m 158 then (bif Nat.blt m 156 then (bif Nat.blt m 155 then cd_M_isStranger else cd_M_boundLaw) else (bif Nat.blt m 157 then cd_M_isCold else cd_M_begins)) else (bif Nat.blt m 160 then (bif Nat.blt m 159 then cd_M_isTold else cd_M_within) else (bif Nat.blt m 161 then cd_M_drifts else cd_M_comes))))) else (bif Nat.blt m 178 then (bif Nat.blt m 170 then (bif Nat.blt m 166 then (bif Nat.blt m 164 then (bif Nat.blt m 163 then cd_M_meets else cd_M_minuteGoes) else (bif Nat.blt m 165 then cd_M_go else cd_Day_copy)) else (bif Nat.blt m 168 then (bif Nat.blt m 167 then cd_C_startTrial else cd_C_passTrial) else (bif Nat.blt m 169 then cd_Day_howMany else cd_C_ahead))) else (bif Nat.blt m 174 then (bif Nat.blt m 172 then (bif Nat.blt m 171 then cd_M_layTried else cd_M_goMany) else (bif Nat.blt m 173 then cd_M_are else cd_M_ahead)) else (bif Nat.blt m 176 then (bif Nat.blt m 175 then cd_C_minutesTillTold else cd_C_delay) else (bif Nat.blt m 177 then cd_M_toldBy else cd_M_delay)))) else (bif Nat.blt m 186 then (bif Nat.blt m 182 then (bif Nat.blt m 180 then (bif Nat.blt m 179 then cd_C_bestRing else cd_M_bestRing) else (bif Nat.blt m 181 then cd_J_bitCount else cd_Day_spread)) else (bif Nat.blt m 184 then (bif Nat.blt m 183 then cd_C_spreadIfRinging else cd_C_near) else (bif Nat.blt m 185 then cd_M_manyOf else cd_M_isOf))) else (bif Nat.blt m 190 then (bif Nat.blt m 188 then (bif Nat.blt m 187 then cd_M_spread else cd_M_near) else (bif Nat.blt m 189 then cd_C_liars else cd_M_liars)) else (bif Nat.blt m 192 then (bif Nat.blt m 191 then cd_Day_howManySlower else cd_C_median) else (bif Nat.blt m 193 then cd_M_median else (bif Nat.blt m 194 then cd_C_agree else cd_M_agree))))))) else (bif Nat.blt m 227 then (bif Nat.blt m 211 then (bif Nat.blt m 203 then (bif Nat.blt m 199 then (bif Nat.blt m 197 then (bif Nat.blt m 196 then cd_C_isKeptInTrial else cd_C_needs) else (bif Nat.blt m 198 then cd_M_needs else cd_C_certain)) else (bif Nat.blt m 201 then (bif Nat.blt m 200 then cd_M_certain else cd_C_latest) else (bif Nat.blt m 202 then cd_M_latest else cd_C_areTwo))) else (bif Nat.blt m 207 then (bif Nat.blt m 205 then (bif Nat.blt m 204 then cd_C_gain else cd_C_isRest) else (bif Nat.blt m 206 then cd_C_rests else cd_M_areTwo)) else (bif Nat.blt m 209 then (bif Nat.blt m 208 then cd_M_hasBy else cd_M_restAt) else (bif Nat.blt m 210 then cd_M_rests else cd_C_rest)))) else (bif Nat.blt m 219 then (bif Nat.blt m 215 then (bif Nat.blt m 213 then (bif Nat.blt m 212 then cd_M_rest else cd_C_apart) else (bif Nat.blt m 214 then cd_M_apart else cd_C_quiet)) else (bif Nat.blt m 217 then (bif Nat.blt m 216 then cd_M_quiet else cd_C_firstMissed) else (bif Nat.blt m 218 then cd_M_firstMissed else cd_C_longest))) else (bif Nat.blt m 223 then (bif Nat.blt m 221 then (bif Nat.blt m 220 then cd_M_longest else cd_C_queue) else (bif Nat.blt m 222 then cd_M_queue else cd_C_there)) else (bif Nat.blt m 225 then (bif Nat.blt m 224 then cd_M_there else cd_Seen_addSight) else (bif Nat.blt m 226 then cd_C_see else cd_M_noted))))) else (bif Nat.blt m 243 then (bif Nat.blt m 235 then (bif Nat.blt m 231 then (bif Nat.blt m 229 then (bif Nat.blt m 228 then cd_M_see else cd_Seen_addStrike) else (bif Nat.blt m 230 then cd_C_strike else cd_M_strike)) else (bif Nat.blt m 233 then (bif Nat.blt m 232 then cd_C_known else cd_M_known) else (bif Nat.blt m 234 then cd_Seen_knownBy else cd_Seen_judge))) else (bif Nat.blt m 239 then (bif Nat.blt m 237 then (bif Nat.blt m 236 then cd_Seen_lastMinute else cd_Seen_isSo) else (bif Nat.blt m 238 then cd_C_isAllSeenSo else cd_C_rates)) else (bif Nat.blt m 241 then (bif Nat.blt m 240 then cd_M_knownBy else cd_M_isSo) else (bif Nat.blt m 242 then cd_M_fits else cd_M_rates)))) else (bif Nat.blt m 251 then (bif Nat.blt m 247 then (bif Nat.blt m 245 then (bif Nat.blt m 244 then cd_C_chance else cd_M_chance) else (bif Nat.blt m 246 then cd_Way_change else cd_C_tried)) else (bif Nat.blt m 249 then (bif Nat.blt m 248 then cd_M_tried else cd_Day_putIn) else (bif Nat.blt m 250 then cd_C_undo else cd_M_take))) else (bif Nat.blt m 255 then (bif Nat.blt m 253 then (bif Nat.blt m 252 then cd_M_undo else cd_C_keep) else (bif Nat.blt m 254 then cd_M_keep else cd_C_back)) else (bif Nat.blt m 257 then (bif Nat.blt m 256 then cd_M_back else cd_Day_toldInAll) else (bif Nat.blt m 258 then cd_C_count else (bif Nat.blt m 259 then cd_M_count else cd_L_law)))))))))
/-- the tables of the switches: value and target, where it is not the default -/
def sw0 : List (Int × Nat) := [(40, 110), (41, 112), (42, 121), (43, 115), (45, 118), (47, 124), (59, 108), (60, 127), (61, 130), (62, 133)]
def sw1 : List (Int × Nat) := [(7, 116), (8, 116), (9, 118), (10, 118), (11, 114), (12, 114), (13, 114), (14, 114), (15, 114), (16, 114), (27, 108), (28, 110), (29, 112)]
def sw2 : List (Int × Nat) := [(17, 48), (18, 68), (19, 88), (20, 108), (21, 128), (22, 148), (23, 168)]
def sw3 : List (Int × Nat) := [(0, 64), (1, 72), (2, 80), (3, 88), (4, 96), (5, 107)]
def sw4 : List (Int × Nat) := [(0, 64), (1, 74), (2, 84), (3, 94), (4, 104), (5, 113), (6, 123), (7, 133)]
def sw5 : List (Int × Nat) := [(0, 68), (1, 75), (2, 82), (3, 89), (4, 96), (5, 103), (6, 110), (7, 117)]
def sw6 : List (Int × Nat) := [(0, 48), (1, 58), (2, 68), (3, 78), (4, 88), (5, 98)]
def sw7 : List (Int × Nat) := [(0, 56), (1, 63), (2, 70), (3, 77), (4, 84), (5, 93)]
def sw8 : List (Int × Nat) := [(7, 104), (8, 108), (9, 112), (10, 144), (11, 196), (12, 208), (13, 220), (14, 232), (15, 244), (16, 256), (27, 178), (28, 160)]
def sw9 : List (Int × Nat) := [(5, 36), (6, 48), (7, 60), (8, 72), (9, 84)]
def sw10 : List (Int × Nat) := [(3, 156), (4, 175), (11, 194), (12, 203), (13, 212), (14, 220)]
def sw11 : List (Int × Nat) := [(0, 72), (1, 90), (2, 108)]
def sw12 : List (Int × Nat) := [(0, 80), (1, 94), (2, 108)]
def sw13 : List (Int × Nat) := [(0, 32), (1, 40), (2, 48), (3, 56)]
def sw14 : List (Int × Nat) := [(0, 104), (1, 132), (2, 144), (3, 163)]
def sw15 : List (Int × Nat) := [(0, 72), (1, 80), (2, 88), (3, 96), (4, 107), (5, 115), (6, 123), (7, 140), (8, 148), (9, 157), (10, 166), (11, 174), (12, 182), (13, 190)]
def sw16 : List (Int × Nat) := [(0, 80), (1, 85), (2, 90), (3, 95), (4, 100), (5, 107), (6, 114), (7, 130), (8, 157), (9, 164), (10, 171), (11, 178), (12, 183), (13, 188)]
def sw17 : List (Int × Nat) := [(0, 220), (1, 293), (2, 318), (3, 343), (4, 368), (5, 436), (6, 473), (7, 498), (8, 536), (9, 561), (10, 586), (11, 623), (12, 660), (13, 685), (14, 734), (15, 759), (16, 808), (17, 833), (18, 858), (19, 871), (20, 896), (21, 921), (22, 934), (23, 947), (24, 984), (25, 1033), (26, 1070), (27, 1083), (28, 1108), (29, 1133), (30, 1158), (31, 1183), (32, 1260), (33, 1285), (34, 1310), (35, 1335), (36, 1384), (37, 1433), (38, 1446), (39, 1459), (40, 1472)]
def mSw (m : Nat) : List (Int × Nat) := (bif Nat.blt m 9 then (bif Nat.blt m 4 then (bif Nat.blt m 2 then (bif Nat.blt m 1 then sw0 else sw1) else (bif Nat.blt m 3 then sw2 else sw3)) else (bif Nat.blt m 6 then (bif Nat.blt m 5 then sw4 else sw5) else (bif Nat.blt m 7 then sw6 else (bif Nat.blt m 8 then sw7 else sw8)))) else (bif Nat.blt m 13 then (bif Nat.blt m 11 then (bif Nat.blt m 10 then sw9 else sw10) else (bif Nat.blt m 12 then sw11 else sw12)) else (bif Nat.blt m 15 then (bif Nat.blt m 14 then sw13 else sw14) else (bif Nat.blt m 16 then sw15 else (bif Nat.blt m 17 then sw16 else sw17)))))
/-- cells and slots that a method makes -/
def mC (m : Nat) : Nat := (bif Nat.beq m 0 then 2 else (bif Nat.beq m 1 then 4 else (bif Nat.beq m 2 then 5 else (bif Nat.beq m 3 then 18 else (bif Nat.beq m 4 then 24 else (bif Nat.beq m 5 then 8 else (bif Nat.beq m 6 then 22 else (bif Nat.beq m 7 then 6 else (bif Nat.beq m 8 then 3 else (bif Nat.beq m 9 then 95 else (bif Nat.beq m 16 then 44 else (bif Nat.beq m 98 then 1 else (bif Nat.beq m 259 then 1168 else 0)))))))))))))
def mS (m : Nat) : Nat := (bif Nat.beq m 0 then 720 else (bif Nat.beq m 1 then 800 else (bif Nat.beq m 2 then 198 else (bif Nat.beq m 3 then 279 else (bif Nat.beq m 4 then 1103 else (bif Nat.beq m 5 then 62 else (bif Nat.beq m 6 then 317 else (bif Nat.beq m 7 then 144 else (bif Nat.beq m 8 then 60 else (bif Nat.beq m 9 then 1966 else (bif Nat.beq m 16 then 2898 else (bif Nat.beq m 98 then 6 else (bif Nat.beq m 259 then 13168 else 0)))))))))))))
/-- of each method: name, bytes, locals, what it returns, frames and words below it, parameters, places of its words, whether it is static -/
abbrev mR : Type := MethodName × ByteArray × Nat × Option FieldType × (Nat × Nat) × Nat × (Nat × Nat × Nat × Nat) × Bool
def mT0 : List mR := [(yX7_init, cX7_init, 4, none, (5, 120), 0, (10048, 10047, 0, 10004), false),
  (yX1_init, cX1_init, 1, none, (6, 143), 0, (10042, 10041, 0, 10003), false),
  (yX2_init, cX2_init, 1, none, (1, 24), 0, (10152, 10151, 0, 10010), false),
  (yX5_init, cX5_init, 1, none, (2, 44), 0, (10146, 10145, 0, 10009), false),
  (yX3_init, cX3_init, 1, none, (7, 163), 0, (10036, 10035, 0, 10002), false),
  (yX0_init, cX0_init, 1, none, (1, 24), 0, (20085, 20084, 0, 10011), false),
  (yX8_init, cX8_init, 1, none, (3, 64), 0, (20168, 20167, 0, 10012), false),
  (yX6_init, cX6_init, 1, none, (1, 24), 0, (20206, 20205, 0, 10013), false),
  (yX4_init, cX4_init, 1, none, (1, 24), 0, (30000, 20239, 0, 10014), false),
  (yX9_init, cX9_init, 1, none, (8, 183), 0, (10028, 10027, 0, 10001), false),
  (yX10_plain, cX10_plain, 2, none, (0, 0), 0, (50236, 50235, 44, 10015), false),
  (yX10_copies, cX10_copies, 3, none, (0, 0), 2, (60003, 60002, 0, 10015), true),
  (yX10_atFirst, cX10_atFirst, 3, none, (0, 0), 1, (60011, 60010, 47, 10015), false),
  (yX10_plainTried, cX10_plainTried, 1, none, (0, 0), 0, (60015, 60014, 48, 10015), false),
  (yX10_begin, cX10_begin, 1, none, (1, 22), 0, (60007, 60006, 46, 10015), false),
  (yX10_keepText, cX10_keepText, 2, none, (2, 42), 0, (60000, 50239, 45, 10015), false),
  (yX10_init, cX10_init, 1, none, (3, 63), 0, (50231, 50230, 0, 10015), false),
  (yX9_tapeFour, cX9_tapeFour, 3, none, (0, 0), 1, (30069, 30068, 0, 10001), false),
  (yX9_feed, cX9_feed, 6, some .int, (1, 22), 5, (30065, 30063, 30064, 10001), false),
  (yX10_feed, cX10_feed, 8, some .int, (0, 0), 5, (70039, 70037, 70038, 10015), false),
  (yX2_clear, cX2_clear, 2, none, (0, 0), 0, (30085, 30083, 30084, 10010), false),
  (yX5_clear, cX5_clear, 1, none, (1, 21), 0, (30081, 30079, 30080, 10009), false),
  (yX7_isLetter, cX7_isLetter, 2, some .boolean, (0, 0), 1, (30100, 30099, 1, 10004), false),
  (yX7_wordKind, cX7_wordKind, 2, some .int, (0, 0), 0, (30108, 30107, 3, 10004), false),
  (yX7_readWord, cX7_readWord, 2, none, (1, 21), 0, (30104, 30103, 2, 10004), false),
  (yX7_isDigit, cX7_isDigit, 2, some .boolean, (0, 0), 1, (30112, 30111, 4, 10004), false)]
def mT1 : List mR := [(yX7_readNumber, cX7_readNumber, 1, none, (1, 24), 0, (30116, 30115, 5, 10004), false),
  (yX7_signKind, cX7_signKind, 1, some .int, (0, 0), 1, (30120, 30119, 0, 10004), true),
  (yX7_lengthenSign, cX7_lengthenSign, 2, none, (0, 0), 0, (30124, 30123, 6, 10004), false),
  (yX7_advance, cX7_advance, 1, none, (2, 44), 0, (30096, 30094, 30095, 10004), false),
  (yX7_begin, cX7_begin, 2, none, (3, 64), 1, (30089, 30087, 30088, 10004), false),
  (yX3_fails, cX3_fails, 2, some .boolean, (0, 0), 1, (30136, 30135, 9, 10002), false),
  (yX5_numberOf, cX5_numberOf, 3, some .int, (0, 0), 1, (30141, 30139, 30140, 10009), false),
  (yX3_readsNumber, cX3_readsNumber, 3, some .boolean, (3, 64), 2, (30145, 30144, 10, 10002), false),
  (yX3_skipsMinus, cX3_skipsMinus, 1, some .boolean, (3, 64), 0, (30149, 30148, 11, 10002), false),
  (yX3_readsMan, cX3_readsMan, 4, some .boolean, (4, 86), 0, (30132, 30131, 8, 10002), false),
  (yX3_readsEnd, cX3_readsEnd, 1, some .boolean, (3, 64), 0, (30153, 30152, 12, 10002), false),
  (yX3_readsPerson, cX3_readsPerson, 1, some .boolean, (3, 64), 0, (30161, 30160, 14, 10002), false),
  (yX3_readsRing, cX3_readsRing, 2, some .boolean, (4, 86), 0, (30157, 30156, 13, 10002), false),
  (yX3_readsMeet, cX3_readsMeet, 2, some .boolean, (4, 86), 0, (30165, 30164, 15, 10002), false),
  (yX3_readsCold, cX3_readsCold, 2, some .boolean, (4, 86), 0, (30169, 30168, 16, 10002), false),
  (yX3_readsCrowd, cX3_readsCrowd, 1, some .boolean, (4, 86), 0, (30173, 30172, 17, 10002), false),
  (yX3_readsSeed, cX3_readsSeed, 1, some .boolean, (4, 86), 0, (30177, 30176, 18, 10002), false),
  (yX2_isTold, cX2_isTold, 2, some .boolean, (0, 0), 1, (30186, 30184, 30185, 10010), false),
  (yX1_levelOf, cX1_levelOf, 1, some .int, (0, 0), 1, (30197, 30196, 0, 10003), true),
  (yX2_add, cX2_add, 3, none, (0, 0), 2, (30201, 30199, 30200, 10010), false),
  (yX1_unpile, cX1_unpile, 3, none, (1, 22), 2, (30194, 30193, 20, 10003), false),
  (yX1_pileUp, cX1_pileUp, 2, none, (0, 0), 1, (30209, 30208, 22, 10003), false),
  (yX1_topLevel, cX1_topLevel, 1, some .int, (1, 20), 0, (30213, 30212, 23, 10003), false),
  (yX1_pilesKnot, cX1_pilesKnot, 3, some .int, (1, 21), 2, (30217, 30216, 24, 10003), false),
  (yX1_takesValue, cX1_takesValue, 3, some .int, (2, 43), 1, (30205, 30204, 21, 10003), false),
  (yX1_takesSign, cX1_takesSign, 4, some .int, (2, 44), 1, (30221, 30220, 25, 10003), false)]
def mT2 : List mR := [(yX1_readsLaw, cX1_readsLaw, 6, some .int, (3, 67), 2, (30190, 30188, 30189, 10003), false),
  (yX3_readsLaw, cX3_readsLaw, 3, some .boolean, (4, 92), 0, (30182, 30181, 19, 10002), false),
  (yX3_readsLine, cX3_readsLine, 1, some .boolean, (5, 114), 0, (30128, 30127, 7, 10002), false),
  (yX3_readsAll, cX3_readsAll, 3, some .boolean, (6, 134), 1, (30077, 30075, 30076, 10002), false),
  (yX0_begin, cX0_begin, 3, none, (0, 0), 1, (30226, 30224, 30225, 10011), false),
  (yX6_forget, cX6_forget, 1, none, (0, 0), 0, (30230, 30228, 30229, 10013), false),
  (yX9_text, cX9_text, 4, some .int, (7, 156), 1, (30073, 30071, 30072, 10001), false),
  (yX10_isSmall, cX10_isSmall, 2, some .boolean, (0, 0), 1, (70051, 70050, 50, 10015), false),
  (yX10_wordAt, cX10_wordAt, 8, some .int, (0, 0), 2, (70055, 70054, 51, 10015), false),
  (yX10_packed, cX10_packed, 5, some .int, (0, 0), 2, (70059, 70058, 52, 10015), false),
  (yX10_isDigit, cX10_isDigit, 2, some .boolean, (0, 0), 1, (70063, 70062, 53, 10015), false),
  (yX10_signToken, cX10_signToken, 4, none, (0, 0), 0, (70068, 70067, 54, 10015), false),
  (yX10_token, cX10_token, 1, none, (1, 27), 0, (70047, 70046, 49, 10015), false),
  (yX10_wrong, cX10_wrong, 2, some .boolean, (0, 0), 1, (70076, 70075, 56, 10015), false),
  (yX10_find, cX10_find, 5, some .int, (0, 0), 4, (70083, 70082, 0, 10015), true),
  (yX10_isIn, cX10_isIn, 3, some .boolean, (0, 0), 3, (70090, 70089, 0, 10015), true),
  (yX10_number, cX10_number, 3, some .boolean, (2, 47), 2, (70087, 70086, 58, 10015), false),
  (yX10_isSign, cX10_isSign, 2, some .boolean, (0, 0), 1, (70098, 70097, 60, 10015), false),
  (yX10_signed, cX10_signed, 3, some .boolean, (3, 69), 1, (70094, 70093, 59, 10015), false),
  (yX10_manLine, cX10_manLine, 2, some .boolean, (4, 91), 0, (70080, 70079, 57, 10015), false),
  (yX10_manThere, cX10_manThere, 2, some .boolean, (2, 47), 0, (70106, 70105, 62, 10015), false),
  (yX10_ringLine, cX10_ringLine, 1, some .boolean, (3, 69), 0, (70102, 70101, 61, 10015), false),
  (yX10_meetLine, cX10_meetLine, 3, some .boolean, (3, 69), 0, (70110, 70109, 63, 10015), false),
  (yX10_coldLine, cX10_coldLine, 2, some .boolean, (3, 69), 0, (70114, 70113, 64, 10015), false),
  (yX10_onceLine, cX10_onceLine, 3, some .boolean, (3, 69), 2, (70118, 70117, 65, 10015), false),
  (yX10_waitsFor, cX10_waitsFor, 2, none, (0, 0), 1, (70130, 70129, 68, 10015), false)]
def mT3 : List mR := [(yX10_isKey, cX10_isKey, 2, some .boolean, (0, 0), 1, (70134, 70133, 69, 10015), false),
  (yX10_isCounted, cX10_isCounted, 1, some .boolean, (1, 21), 0, (70138, 70137, 70, 10015), false),
  (yX10_nameMet, cX10_nameMet, 1, some .int, (0, 0), 0, (70142, 70141, 71, 10015), false),
  (yX10_grown, cX10_grown, 4, none, (0, 0), 3, (70146, 70145, 72, 10015), false),
  (yX10_leafRead, cX10_leafRead, 2, some .boolean, (2, 47), 0, (70126, 70125, 67, 10015), false),
  (yX10_rank, cX10_rank, 1, some .int, (0, 0), 1, (70157, 70156, 0, 10015), true),
  (yX10_dropHeld, cX10_dropHeld, 1, some .int, (0, 0), 0, (70161, 70160, 75, 10015), false),
  (yX10_bind, cX10_bind, 5, none, (1, 23), 1, (70154, 70153, 74, 10015), false),
  (yX10_signs, cX10_signs, 2, some .boolean, (2, 47), 0, (70150, 70149, 73, 10015), false),
  (yX10_sumRead, cX10_sumRead, 1, some .boolean, (3, 68), 0, (70122, 70121, 66, 10015), false),
  (yX10_lineRead, cX10_lineRead, 3, some .boolean, (5, 112), 0, (70072, 70071, 55, 10015), false),
  (yX10_text, cX10_text, 3, some .int, (6, 134), 1, (70043, 70041, 70042, 10015), false),
  (yX9_fault, cX9_fault, 2, some .int, (0, 0), 1, (30234, 30232, 30233, 10001), false),
  (yX10_fault, cX10_fault, 2, some .int, (0, 0), 1, (70165, 70163, 70164, 10015), false),
  (yX9_named, cX9_named, 2, some .int, (1, 22), 1, (30238, 30236, 30237, 10001), false),
  (yX10_named, cX10_named, 2, some .int, (1, 24), 1, (70169, 70167, 70168, 10015), false),
  (yX9_isPerson, cX9_isPerson, 2, some .boolean, (0, 0), 1, (40015, 40014, 27, 10001), false),
  (yX0_placeOf, cX0_placeOf, 3, some .int, (0, 0), 1, (40061, 40059, 40060, 10011), false),
  (yX0_modeOf, cX0_modeOf, 2, some .int, (1, 22), 1, (40057, 40055, 40056, 10011), false),
  (yX9_man, cX9_man, 3, some .int, (6, 120), 2, (50143, 50141, 50142, 10001), false),
  (yL_man, cL_man, 5, some .int, (7, 142), 4, (0, 50136, 0, 10000), true),
  (yX10_isMan, cX10_isMan, 2, some .boolean, (0, 0), 1, (70177, 70176, 76, 10015), false),
  (yX10_fails, cX10_fails, 2, some .int, (0, 0), 1, (70181, 70180, 77, 10015), false),
  (yX10_placeOf, cX10_placeOf, 3, some .int, (0, 0), 1, (70185, 70184, 78, 10015), false),
  (yX10_man, cX10_man, 3, some .int, (1, 22), 2, (70173, 70171, 70172, 10015), false),
  (yX10_thrown, cX10_thrown, 1, some .int, (0, 0), 0, (70035, 70033, 70034, 10015), false)]
def mT4 : List mR := [(yX9_isMeeting, cX9_isMeeting, 2, some .boolean, (0, 0), 1, (40007, 40006, 26, 10001), false),
  (yX9_meeting, cX9_meeting, 3, some .int, (1, 21), 2, (40003, 40001, 40002, 10001), false),
  (yX10_isMeeting, cX10_isMeeting, 2, some .boolean, (0, 0), 1, (70193, 70192, 79, 10015), false),
  (yX10_meeting, cX10_meeting, 3, some .int, (1, 21), 2, (70189, 70187, 70188, 10015), false),
  (yX9_shows, cX9_shows, 2, some .int, (1, 21), 1, (40011, 40009, 40010, 10001), false),
  (yX10_shows, cX10_shows, 2, some .int, (1, 21), 1, (70197, 70195, 70196, 10015), false),
  (yX8_follow, cX8_follow, 2, none, (1, 40), 1, (40025, 40023, 40024, 10012), false),
  (yX2_joined, cX2_joined, 5, some .long, (1, 24), 3, (40039, 40038, 0, 10010), true),
  (yX2_valueOf, cX2_valueOf, 8, some .long, (2, 48), 2, (40036, 40034, 40035, 10010), false),
  (yX8_lawOf, cX8_lawOf, 5, some .long, (3, 75), 4, (40032, 40030, 40031, 10012), false),
  (yX9_law, cX9_law, 3, some .long, (4, 99), 2, (40020, 40018, 40019, 10001), false),
  (yX10_waitsOf, cX10_waitsOf, 2, some .int, (0, 0), 1, (70211, 70210, 81, 10015), false),
  (yX10_rateIn, cX10_rateIn, 2, some .int, (0, 0), 1, (70215, 70214, 82, 10015), false),
  (yX10_layNames, cX10_layNames, 4, none, (1, 21), 3, (70207, 70206, 80, 10015), false),
  (yX10_bounded, cX10_bounded, 3, some .long, (0, 0), 1, (70227, 70226, 85, 10015), false),
  (yX10_times, cX10_times, 6, some .long, (0, 0), 2, (70233, 70232, 86, 10015), false),
  (yX10_compares, cX10_compares, 5, some .boolean, (0, 0), 3, (70236, 70235, 0, 10015), true),
  (yX10_valueOf, cX10_valueOf, 6, some .long, (1, 25), 1, (70223, 70222, 84, 10015), false),
  (yX10_lawOf, cX10_lawOf, 3, some .long, (2, 50), 1, (70219, 70218, 83, 10015), false),
  (yX10_law, cX10_law, 5, some .long, (3, 72), 2, (70202, 70200, 70201, 10015), false),
  (yX0_takesIn, cX0_takesIn, 2, some .boolean, (2, 43), 1, (40053, 40051, 40052, 10011), false),
  (yX4_note, cX4_note, 5, none, (0, 0), 3, (40065, 40063, 40064, 10014), false),
  (yX9_ring, cX9_ring, 3, some .int, (3, 64), 1, (40049, 40047, 40048, 10001), false),
  (yX10_put, cX10_put, 4, none, (0, 0), 2, (80008, 80007, 88, 10015), false),
  (yX10_remember, cX10_remember, 2, none, (1, 23), 0, (80004, 80003, 87, 10015), false),
  (yX10_joins, cX10_joins, 3, some .boolean, (0, 0), 2, (80012, 80011, 89, 10015), false)]
def mT5 : List mR := [(yX10_ring, cX10_ring, 2, some .int, (2, 44), 1, (80000, 70238, 70239, 10015), false),
  (yX0_takeOut, cX0_takeOut, 3, none, (0, 0), 1, (40074, 40072, 40073, 10011), false),
  (yX9_hangUp, cX9_hangUp, 3, some .boolean, (1, 24), 1, (40069, 40067, 40068, 10001), false),
  (yX10_leaves, cX10_leaves, 4, none, (0, 0), 2, (80020, 80019, 90, 10015), false),
  (yX10_hangUp, cX10_hangUp, 2, some .boolean, (2, 44), 1, (80016, 80014, 80015, 10015), false),
  (yX9_set, cX9_set, 3, some .boolean, (1, 24), 2, (40078, 40076, 40077, 10001), false),
  (yX10_set, cX10_set, 3, some .boolean, (2, 44), 2, (80024, 80022, 80023, 10015), false),
  (yX0_isOneThere, cX0_isOneThere, 2, some .boolean, (0, 0), 1, (40086, 40084, 40085, 10011), false),
  (yX9_putOff, cX9_putOff, 3, some .boolean, (1, 24), 2, (40082, 40080, 40081, 10001), false),
  (yX10_isOpen, cX10_isOpen, 2, some .boolean, (1, 21), 1, (80032, 80031, 91, 10015), false),
  (yX10_putOff, cX10_putOff, 3, some .boolean, (2, 44), 2, (80028, 80026, 80027, 10015), false),
  (yX8_takeRings, cX8_takeRings, 3, none, (3, 64), 1, (40098, 40097, 28, 10012), false),
  (yX0_drawNumber, cX0_drawNumber, 1, some .int, (0, 0), 0, (40107, 40105, 40106, 10011), false),
  (yX8_isStrangerRinging, cX8_isStrangerRinging, 2, some .boolean, (1, 20), 1, (40103, 40102, 29, 10012), false),
  (yX0_takesStranger, cX0_takesStranger, 1, none, (0, 0), 0, (40114, 40112, 40113, 10011), false),
  (yX9_within, cX9_within, 6, some .long, (1, 24), 3, (40126, 40125, 0, 10001), true),
  (yX8_isCold, cX8_isCold, 3, some .boolean, (0, 0), 1, (40136, 40135, 31, 10012), false),
  (yX8_startTalk, cX8_startTalk, 7, none, (4, 99), 1, (40118, 40117, 30, 10012), false),
  (yX8_goOnTalking, cX8_goOnTalking, 6, none, (4, 99), 1, (40141, 40140, 32, 10012), false),
  (yX8_driftAll, cX8_driftAll, 7, none, (4, 99), 1, (40147, 40146, 33, 10012), false),
  (yX8_meet, cX8_meet, 6, none, (1, 24), 2, (40155, 40154, 34, 10012), false),
  (yX8_passMinute, cX8_passMinute, 3, none, (5, 125), 1, (40094, 40092, 40093, 10012), false),
  (yX9_go, cX9_go, 3, some .int, (6, 147), 1, (40090, 40088, 40089, 10001), false),
  (yX10_number1, cX10_number1, 2, some .int, (0, 0), 1, (80048, 80047, 94, 10015), false),
  (yX10_isStranger, cX10_isStranger, 1, some .boolean, (1, 21), 0, (80044, 80043, 93, 10015), false),
  (yX10_boundLaw, cX10_boundLaw, 7, some .int, (3, 72), 4, (80060, 80059, 96, 10015), false)]
def mT6 : List mR := [(yX10_isCold, cX10_isCold, 3, some .boolean, (1, 22), 1, (80064, 80063, 97, 10015), false),
  (yX10_begins, cX10_begins, 4, none, (4, 98), 1, (80056, 80055, 95, 10015), false),
  (yX10_isTold, cX10_isTold, 4, none, (4, 98), 1, (80068, 80067, 98, 10015), false),
  (yX10_within, cX10_within, 3, some .int, (0, 0), 3, (80075, 80074, 0, 10015), true),
  (yX10_drifts, cX10_drifts, 4, none, (4, 98), 1, (80072, 80071, 99, 10015), false),
  (yX10_comes, cX10_comes, 6, none, (0, 0), 3, (80083, 80082, 101, 10015), false),
  (yX10_meets, cX10_meets, 8, none, (1, 25), 2, (80079, 80078, 100, 10015), false),
  (yX10_minuteGoes, cX10_minuteGoes, 3, none, (5, 121), 1, (80040, 80039, 92, 10015), false),
  (yX10_go, cX10_go, 3, some .int, (6, 143), 1, (80036, 80034, 80035, 10015), false),
  (yX0_copy, cX0_copy, 2, none, (1, 40), 1, (40171, 40169, 40170, 10011), false),
  (yX9_startTrial, cX9_startTrial, 1, none, (2, 61), 0, (40167, 40166, 35, 10001), false),
  (yX9_passTrial, cX9_passTrial, 3, none, (6, 147), 1, (40176, 40175, 36, 10001), false),
  (yX0_howMany, cX0_howMany, 4, some .int, (0, 0), 1, (40180, 40178, 40179, 10011), false),
  (yX9_ahead, cX9_ahead, 4, some .int, (7, 169), 3, (40163, 40161, 40162, 10001), false),
  (yX10_layTried, cX10_layTried, 2, none, (1, 20), 0, (80091, 80090, 102, 10015), false),
  (yX10_goMany, cX10_goMany, 3, none, (6, 143), 1, (80095, 80094, 103, 10015), false),
  (yX10_are, cX10_are, 5, some .int, (0, 0), 2, (80099, 80098, 104, 10015), false),
  (yX10_ahead, cX10_ahead, 4, some .int, (7, 165), 3, (80087, 80085, 80086, 10015), false),
  (yX9_minutesTillTold, cX9_minutesTillTold, 4, some .int, (6, 147), 1, (40188, 40187, 37, 10001), false),
  (yX9_delay, cX9_delay, 2, some .int, (7, 170), 1, (40184, 40182, 40183, 10001), false),
  (yX10_toldBy, cX10_toldBy, 4, some .int, (6, 143), 1, (80107, 80106, 105, 10015), false),
  (yX10_delay, cX10_delay, 2, some .int, (7, 166), 1, (80103, 80101, 80102, 10015), false),
  (yX9_bestRing, cX9_bestRing, 8, some .int, (7, 170), 3, (40192, 40190, 40191, 10001), false),
  (yX10_bestRing, cX10_bestRing, 8, some .int, (7, 166), 3, (80111, 80109, 80110, 10015), false),
  (yJ6_bitCount_0f7a4, cJ6_bitCount_0f7a4, 1, some .int, (0, 0), 1, (40199, 40198, 0, 10023), true),
  (yX0_spread, cX0_spread, 6, some .int, (1, 24), 1, (40210, 40208, 40209, 10011), false)]
def mT7 : List mR := [(yX9_spreadIfRinging, cX9_spreadIfRinging, 3, some .int, (6, 147), 1, (40206, 40205, 38, 10001), false),
  (yX9_near, cX9_near, 5, some .int, (7, 169), 1, (40196, 40194, 40195, 10001), false),
  (yX10_manyOf, cX10_manyOf, 3, some .int, (0, 0), 1, (80118, 80117, 0, 10015), true),
  (yX10_isOf, cX10_isOf, 2, some .boolean, (0, 0), 2, (80121, 80120, 0, 10015), true),
  (yX10_spread, cX10_spread, 8, some .int, (1, 21), 2, (80125, 80124, 106, 10015), false),
  (yX10_near, cX10_near, 5, some .int, (7, 165), 1, (80115, 80113, 80114, 10015), false),
  (yX9_liars, cX9_liars, 5, some .int, (2, 49), 1, (40218, 40216, 40217, 10001), false),
  (yX10_liars, cX10_liars, 4, some .int, (2, 48), 1, (80129, 80127, 80128, 10015), false),
  (yX0_howManySlower, cX0_howManySlower, 4, some .int, (0, 0), 1, (40226, 40224, 40225, 10011), false),
  (yX9_median, cX9_median, 2, some .int, (1, 23), 0, (40222, 40220, 40221, 10001), false),
  (yX10_median, cX10_median, 4, some .int, (0, 0), 0, (80133, 80131, 80132, 10015), false),
  (yX9_agree, cX9_agree, 4, some .int, (6, 147), 1, (40230, 40228, 40229, 10001), false),
  (yX10_agree, cX10_agree, 3, some .int, (6, 143), 1, (80137, 80135, 80136, 10015), false),
  (yX9_isKeptInTrial, cX9_isKeptInTrial, 3, some .boolean, (6, 147), 1, (40238, 40237, 39, 10001), false),
  (yX9_needs, cX9_needs, 3, some .int, (7, 169), 1, (40234, 40232, 40233, 10001), false),
  (yX10_needs, cX10_needs, 3, some .int, (7, 165), 1, (80141, 80139, 80140, 10015), false),
  (yX9_certain, cX9_certain, 3, some .int, (7, 169), 0, (50002, 50000, 50001, 10001), false),
  (yX10_certain, cX10_certain, 3, some .int, (7, 165), 0, (80145, 80143, 80144, 10015), false),
  (yX9_latest, cX9_latest, 3, some .int, (0, 0), 0, (50006, 50004, 50005, 10001), false),
  (yX10_latest, cX10_latest, 3, some .int, (0, 0), 0, (80149, 80147, 80148, 10015), false),
  (yX9_areTwo, cX9_areTwo, 3, some .boolean, (1, 21), 2, (50014, 50013, 40, 10001), false),
  (yX9_gain, cX9_gain, 3, some .int, (0, 0), 2, (50021, 50020, 0, 10001), true),
  (yX9_isRest, cX9_isRest, 9, some .boolean, (1, 22), 3, (50018, 50017, 41, 10001), false),
  (yX9_rests, cX9_rests, 5, some .int, (2, 50), 2, (50010, 50008, 50009, 10001), false),
  (yX10_areTwo, cX10_areTwo, 3, some .boolean, (1, 21), 2, (80181, 80180, 107, 10015), false),
  (yX10_hasBy, cX10_hasBy, 2, some .int, (0, 0), 2, (80188, 80187, 0, 10015), true)]
def mT8 : List mR := [(yX10_restAt, cX10_restAt, 12, some .int, (1, 21), 3, (80185, 80184, 108, 10015), false),
  (yX10_rests, cX10_rests, 3, some .int, (2, 52), 2, (80177, 80175, 80176, 10015), false),
  (yX9_rest, cX9_rest, 6, some .int, (2, 50), 3, (50025, 50023, 50024, 10001), false),
  (yX10_rest, cX10_rest, 4, some .int, (2, 52), 3, (80192, 80190, 80191, 10015), false),
  (yX9_apart, cX9_apart, 3, some .int, (1, 24), 2, (50029, 50027, 50028, 10001), false),
  (yX10_apart, cX10_apart, 3, some .int, (1, 21), 2, (80153, 80151, 80152, 10015), false),
  (yX9_quiet, cX9_quiet, 2, some .int, (6, 147), 0, (50034, 50032, 50033, 10001), false),
  (yX10_quiet, cX10_quiet, 2, some .int, (6, 143), 0, (80157, 80155, 80156, 10015), false),
  (yX9_firstMissed, cX9_firstMissed, 4, some .int, (6, 147), 1, (50038, 50036, 50037, 10001), false),
  (yX10_firstMissed, cX10_firstMissed, 4, some .int, (6, 143), 1, (80161, 80159, 80160, 10015), false),
  (yX9_longest, cX9_longest, 4, some .int, (6, 147), 1, (50042, 50040, 50041, 10001), false),
  (yX10_longest, cX10_longest, 4, some .int, (6, 143), 1, (80165, 80163, 80164, 10015), false),
  (yX9_queue, cX9_queue, 2, some .int, (0, 0), 1, (50047, 50045, 50046, 10001), false),
  (yX10_queue, cX10_queue, 2, some .int, (0, 0), 1, (80169, 80167, 80168, 10015), false),
  (yX9_there, cX9_there, 6, some .int, (1, 21), 1, (50051, 50049, 50050, 10001), false),
  (yX10_there, cX10_there, 4, some .int, (1, 21), 1, (80173, 80171, 80172, 10015), false),
  (yX6_addSight, cX6_addSight, 5, some .int, (0, 0), 4, (50059, 50057, 50058, 10013), false),
  (yX9_see, cX9_see, 5, some .int, (1, 24), 4, (50055, 50053, 50054, 10001), false),
  (yX10_noted, cX10_noted, 5, some .int, (0, 0), 4, (80200, 80199, 109, 10015), false),
  (yX10_see, cX10_see, 5, some .int, (1, 24), 4, (80196, 80194, 80195, 10015), false),
  (yX6_addStrike, cX6_addStrike, 2, some .int, (0, 0), 1, (50067, 50065, 50066, 10013), false),
  (yX9_strike, cX9_strike, 2, some .int, (1, 21), 1, (50063, 50061, 50062, 10001), false),
  (yX10_strike, cX10_strike, 2, some .int, (1, 24), 1, (80204, 80202, 80203, 10015), false),
  (yX9_known, cX9_known, 2, some .boolean, (0, 0), 1, (50071, 50069, 50070, 10001), false),
  (yX10_known, cX10_known, 2, some .boolean, (1, 22), 1, (80208, 80206, 80207, 10015), false),
  (yX6_knownBy, cX6_knownBy, 1, some .int, (1, 24), 0, (50083, 50081, 50082, 10013), false)]
def mT9 : List mR := [(yX6_judge, cX6_judge, 3, none, (2, 44), 0, (50079, 50077, 50078, 10013), false),
  (yX6_lastMinute, cX6_lastMinute, 3, some .int, (1, 24), 0, (50092, 50090, 50091, 10013), false),
  (yX6_isSo, cX6_isSo, 3, some .boolean, (0, 0), 1, (50097, 50095, 50096, 10013), false),
  (yX9_isAllSeenSo, cX9_isAllSeenSo, 3, some .boolean, (6, 147), 0, (50088, 50087, 42, 10001), false),
  (yX9_rates, cX9_rates, 4, some .int, (7, 169), 1, (50075, 50073, 50074, 10001), false),
  (yX10_knownBy, cX10_knownBy, 1, some .int, (0, 0), 0, (80216, 80215, 110, 10015), false),
  (yX10_isSo, cX10_isSo, 4, some .boolean, (1, 20), 1, (80224, 80223, 112, 10015), false),
  (yX10_fits, cX10_fits, 4, some .boolean, (6, 143), 2, (80220, 80219, 111, 10015), false),
  (yX10_rates, cX10_rates, 4, some .int, (7, 166), 1, (80212, 80210, 80211, 10015), false),
  (yX9_chance, cX9_chance, 7, some .int, (7, 169), 3, (50101, 50099, 50100, 10001), false),
  (yX10_chance, cX10_chance, 8, some .int, (7, 165), 3, (80228, 80226, 80227, 10015), false),
  (yX8_change, cX8_change, 4, none, (0, 0), 2, (50109, 50107, 50108, 10012), false),
  (yX9_tried, cX9_tried, 4, some .int, (7, 169), 3, (50105, 50103, 50104, 10001), false),
  (yX10_tried, cX10_tried, 4, some .int, (7, 165), 3, (80232, 80230, 80231, 10015), false),
  (yX0_putIn, cX0_putIn, 4, none, (0, 0), 2, (50117, 50115, 50116, 10011), false),
  (yX9_undo, cX9_undo, 3, some .int, (1, 23), 0, (50113, 50111, 50112, 10001), false),
  (yX10_take, cX10_take, 4, none, (0, 0), 2, (90000, 80239, 113, 10015), false),
  (yX10_undo, cX10_undo, 1, some .int, (1, 23), 0, (80236, 80234, 80235, 10015), false),
  (yX9_keep, cX9_keep, 1, some .int, (2, 61), 0, (50121, 50119, 50120, 10001), false),
  (yX10_keep, cX10_keep, 2, some .int, (1, 23), 0, (90004, 90002, 90003, 10015), false),
  (yX9_back, cX9_back, 1, some .int, (2, 61), 0, (50125, 50123, 50124, 10001), false),
  (yX10_back, cX10_back, 2, some .int, (1, 23), 0, (90008, 90006, 90007, 10015), false),
  (yX0_toldInAll, cX0_toldInAll, 3, some .int, (0, 0), 0, (50133, 50131, 50132, 10011), false),
  (yX9_count, cX9_count, 2, some .int, (2, 44), 1, (50129, 50127, 50128, 10001), false),
  (yX10_count, cX10_count, 4, some .int, (1, 24), 1, (90012, 90010, 90011, 10015), false),
  (yL_law, cL_law, 7, some .boolean, (9, 203), 1, (0, 0, 0, 10000), false)]
def mD0 : mR := (yL_law, cL_law, 0, none, (0, 0), 0, (0, 0, 0, 0), true)
def mR_ (m : Nat) : mR := ((bif Nat.blt m 130 then (bif Nat.blt m 52 then (bif Nat.blt m 26 then mT0 else mT1) else (bif Nat.blt m 78 then mT2 else (bif Nat.blt m 104 then mT3 else mT4))) else (bif Nat.blt m 182 then (bif Nat.blt m 156 then mT5 else mT6) else (bif Nat.blt m 208 then mT7 else (bif Nat.blt m 234 then mT8 else mT9))))).getD (m % 26) mD0
def mY (m : Nat) : MethodName := (mR_ m).1
def mB (m : Nat) : ByteArray := (mR_ m).2.1
def mL (m : Nat) : Nat := (mR_ m).2.2.1
def mRt (m : Nat) : Option FieldType := (mR_ m).2.2.2.1
def mFr (m : Nat) : Nat := (mR_ m).2.2.2.2.1.1
def mLo (m : Nat) : Nat := (mR_ m).2.2.2.2.1.2
def mN (m : Nat) : Nat := (mR_ m).2.2.2.2.2.1
def mPl (m : Nat) : Nat × Nat × Nat × Nat := (mR_ m).2.2.2.2.2.2.1
def mSt (m : Nat) : Bool := (mR_ m).2.2.2.2.2.2.2
def mLaw : Nat := 259
def mLman : Nat := 98
def mMan : Nat := 97
def mMany : Nat := 260
abbrev i_Tokens_init : Nat := 0
abbrev i_LawReader_init : Nat := 1
abbrev i_Laws_init : Nat := 2
abbrev i_Plan_init : Nat := 3
abbrev i_LineReader_init : Nat := 4
abbrev i_Day_init : Nat := 5
abbrev i_Way_init : Nat := 6
abbrev i_Seen_init : Nat := 7
abbrev i_Log_init : Nat := 8
abbrev i_C_init : Nat := 9
abbrev i_M_plain : Nat := 10
abbrev i_M_copies : Nat := 11
abbrev i_M_atFirst : Nat := 12
abbrev i_M_plainTried : Nat := 13
abbrev i_M_begin : Nat := 14
abbrev i_M_keepText : Nat := 15
abbrev i_M_init : Nat := 16
abbrev i_C_tapeFour : Nat := 17
abbrev i_C_feed : Nat := 18
abbrev i_M_feed : Nat := 19
abbrev i_Laws_clear : Nat := 20
abbrev i_Plan_clear : Nat := 21
abbrev i_Tokens_isLetter : Nat := 22
abbrev i_Tokens_wordKind : Nat := 23
abbrev i_Tokens_readWord : Nat := 24
abbrev i_Tokens_isDigit : Nat := 25
abbrev i_Tokens_readNumber : Nat := 26
abbrev i_Tokens_signKind : Nat := 27
abbrev i_Tokens_lengthenSign : Nat := 28
abbrev i_Tokens_advance : Nat := 29
abbrev i_Tokens_begin : Nat := 30
abbrev i_LineReader_fails : Nat := 31
abbrev i_Plan_numberOf : Nat := 32
abbrev i_LineReader_readsNumber : Nat := 33
abbrev i_LineReader_skipsMinus : Nat := 34
abbrev i_LineReader_readsMan : Nat := 35
abbrev i_LineReader_readsEnd : Nat := 36
abbrev i_LineReader_readsPerson : Nat := 37
abbrev i_LineReader_readsRing : Nat := 38
abbrev i_LineReader_readsMeet : Nat := 39
abbrev i_LineReader_readsCold : Nat := 40
abbrev i_LineReader_readsCrowd : Nat := 41
abbrev i_LineReader_readsSeed : Nat := 42
abbrev i_Laws_isTold : Nat := 43
abbrev i_LawReader_levelOf : Nat := 44
abbrev i_Laws_add : Nat := 45
abbrev i_LawReader_unpile : Nat := 46
abbrev i_LawReader_pileUp : Nat := 47
abbrev i_LawReader_topLevel : Nat := 48
abbrev i_LawReader_pilesKnot : Nat := 49
abbrev i_LawReader_takesValue : Nat := 50
abbrev i_LawReader_takesSign : Nat := 51
abbrev i_LawReader_readsLaw : Nat := 52
abbrev i_LineReader_readsLaw : Nat := 53
abbrev i_LineReader_readsLine : Nat := 54
abbrev i_LineReader_readsAll : Nat := 55
abbrev i_Day_begin : Nat := 56
abbrev i_Seen_forget : Nat := 57
abbrev i_C_text : Nat := 58
abbrev i_M_isSmall : Nat := 59
abbrev i_M_wordAt : Nat := 60
abbrev i_M_packed : Nat := 61
abbrev i_M_isDigit : Nat := 62
abbrev i_M_signToken : Nat := 63
abbrev i_M_token : Nat := 64
abbrev i_M_wrong : Nat := 65
abbrev i_M_find : Nat := 66
abbrev i_M_isIn : Nat := 67
abbrev i_M_number : Nat := 68
abbrev i_M_isSign : Nat := 69
abbrev i_M_signed : Nat := 70
abbrev i_M_manLine : Nat := 71
abbrev i_M_manThere : Nat := 72
abbrev i_M_ringLine : Nat := 73
abbrev i_M_meetLine : Nat := 74
abbrev i_M_coldLine : Nat := 75
abbrev i_M_onceLine : Nat := 76
abbrev i_M_waitsFor : Nat := 77
abbrev i_M_isKey : Nat := 78
abbrev i_M_isCounted : Nat := 79
abbrev i_M_nameMet : Nat := 80
abbrev i_M_grown : Nat := 81
abbrev i_M_leafRead : Nat := 82
abbrev i_M_rank : Nat := 83
abbrev i_M_dropHeld : Nat := 84
abbrev i_M_bind : Nat := 85
abbrev i_M_signs : Nat := 86
abbrev i_M_sumRead : Nat := 87
abbrev i_M_lineRead : Nat := 88
abbrev i_M_text : Nat := 89
abbrev i_C_fault : Nat := 90
abbrev i_M_fault : Nat := 91
abbrev i_C_named : Nat := 92
abbrev i_M_named : Nat := 93
abbrev i_C_isPerson : Nat := 94
abbrev i_Day_placeOf : Nat := 95
abbrev i_Day_modeOf : Nat := 96
abbrev i_C_man : Nat := 97
abbrev i_L_man : Nat := 98
abbrev i_M_isMan : Nat := 99
abbrev i_M_fails : Nat := 100
abbrev i_M_placeOf : Nat := 101
abbrev i_M_man : Nat := 102
abbrev i_M_thrown : Nat := 103
abbrev i_C_isMeeting : Nat := 104
abbrev i_C_meeting : Nat := 105
abbrev i_M_isMeeting : Nat := 106
abbrev i_M_meeting : Nat := 107
abbrev i_C_shows : Nat := 108
abbrev i_M_shows : Nat := 109
abbrev i_Way_follow : Nat := 110
abbrev i_Laws_joined : Nat := 111
abbrev i_Laws_valueOf : Nat := 112
abbrev i_Way_lawOf : Nat := 113
abbrev i_C_law : Nat := 114
abbrev i_M_waitsOf : Nat := 115
abbrev i_M_rateIn : Nat := 116
abbrev i_M_layNames : Nat := 117
abbrev i_M_bounded : Nat := 118
abbrev i_M_times : Nat := 119
abbrev i_M_compares : Nat := 120
abbrev i_M_valueOf : Nat := 121
abbrev i_M_lawOf : Nat := 122
abbrev i_M_law : Nat := 123
abbrev i_Day_takesIn : Nat := 124
abbrev i_Log_note : Nat := 125
abbrev i_C_ring : Nat := 126
abbrev i_M_put : Nat := 127
abbrev i_M_remember : Nat := 128
abbrev i_M_joins : Nat := 129
abbrev i_M_ring : Nat := 130
abbrev i_Day_takeOut : Nat := 131
abbrev i_C_hangUp : Nat := 132
abbrev i_M_leaves : Nat := 133
abbrev i_M_hangUp : Nat := 134
abbrev i_C_set : Nat := 135
abbrev i_M_set : Nat := 136
abbrev i_Day_isOneThere : Nat := 137
abbrev i_C_putOff : Nat := 138
abbrev i_M_isOpen : Nat := 139
abbrev i_M_putOff : Nat := 140
abbrev i_Way_takeRings : Nat := 141
abbrev i_Day_drawNumber : Nat := 142
abbrev i_Way_isStrangerRinging : Nat := 143
abbrev i_Day_takesStranger : Nat := 144
abbrev i_C_within : Nat := 145
abbrev i_Way_isCold : Nat := 146
abbrev i_Way_startTalk : Nat := 147
abbrev i_Way_goOnTalking : Nat := 148
abbrev i_Way_driftAll : Nat := 149
abbrev i_Way_meet : Nat := 150
abbrev i_Way_passMinute : Nat := 151
abbrev i_C_go : Nat := 152
abbrev i_M_number1 : Nat := 153
abbrev i_M_isStranger : Nat := 154
abbrev i_M_boundLaw : Nat := 155
abbrev i_M_isCold : Nat := 156
abbrev i_M_begins : Nat := 157
abbrev i_M_isTold : Nat := 158
abbrev i_M_within : Nat := 159
abbrev i_M_drifts : Nat := 160
abbrev i_M_comes : Nat := 161
abbrev i_M_meets : Nat := 162
abbrev i_M_minuteGoes : Nat := 163
abbrev i_M_go : Nat := 164
abbrev i_Day_copy : Nat := 165
abbrev i_C_startTrial : Nat := 166
abbrev i_C_passTrial : Nat := 167
abbrev i_Day_howMany : Nat := 168
abbrev i_C_ahead : Nat := 169
abbrev i_M_layTried : Nat := 170
abbrev i_M_goMany : Nat := 171
abbrev i_M_are : Nat := 172
abbrev i_M_ahead : Nat := 173
abbrev i_C_minutesTillTold : Nat := 174
abbrev i_C_delay : Nat := 175
abbrev i_M_toldBy : Nat := 176
abbrev i_M_delay : Nat := 177
abbrev i_C_bestRing : Nat := 178
abbrev i_M_bestRing : Nat := 179
abbrev i_J_bitCount : Nat := 180
abbrev i_Day_spread : Nat := 181
abbrev i_C_spreadIfRinging : Nat := 182
abbrev i_C_near : Nat := 183
abbrev i_M_manyOf : Nat := 184
abbrev i_M_isOf : Nat := 185
abbrev i_M_spread : Nat := 186
abbrev i_M_near : Nat := 187
abbrev i_C_liars : Nat := 188
abbrev i_M_liars : Nat := 189
abbrev i_Day_howManySlower : Nat := 190
abbrev i_C_median : Nat := 191
abbrev i_M_median : Nat := 192
abbrev i_C_agree : Nat := 193
abbrev i_M_agree : Nat := 194
abbrev i_C_isKeptInTrial : Nat := 195
abbrev i_C_needs : Nat := 196
abbrev i_M_needs : Nat := 197
abbrev i_C_certain : Nat := 198
abbrev i_M_certain : Nat := 199
abbrev i_C_latest : Nat := 200
abbrev i_M_latest : Nat := 201
abbrev i_C_areTwo : Nat := 202
abbrev i_C_gain : Nat := 203
abbrev i_C_isRest : Nat := 204
abbrev i_C_rests : Nat := 205
abbrev i_M_areTwo : Nat := 206
abbrev i_M_hasBy : Nat := 207
abbrev i_M_restAt : Nat := 208
abbrev i_M_rests : Nat := 209
abbrev i_C_rest : Nat := 210
abbrev i_M_rest : Nat := 211
abbrev i_C_apart : Nat := 212
abbrev i_M_apart : Nat := 213
abbrev i_C_quiet : Nat := 214
abbrev i_M_quiet : Nat := 215
abbrev i_C_firstMissed : Nat := 216
abbrev i_M_firstMissed : Nat := 217
abbrev i_C_longest : Nat := 218
abbrev i_M_longest : Nat := 219
abbrev i_C_queue : Nat := 220
abbrev i_M_queue : Nat := 221
abbrev i_C_there : Nat := 222
abbrev i_M_there : Nat := 223
abbrev i_Seen_addSight : Nat := 224
abbrev i_C_see : Nat := 225
abbrev i_M_noted : Nat := 226
abbrev i_M_see : Nat := 227
abbrev i_Seen_addStrike : Nat := 228
abbrev i_C_strike : Nat := 229
abbrev i_M_strike : Nat := 230
abbrev i_C_known : Nat := 231
abbrev i_M_known : Nat := 232
abbrev i_Seen_knownBy : Nat := 233
abbrev i_Seen_judge : Nat := 234
abbrev i_Seen_lastMinute : Nat := 235
abbrev i_Seen_isSo : Nat := 236
abbrev i_C_isAllSeenSo : Nat := 237
abbrev i_C_rates : Nat := 238
abbrev i_M_knownBy : Nat := 239
abbrev i_M_isSo : Nat := 240
abbrev i_M_fits : Nat := 241
abbrev i_M_rates : Nat := 242
abbrev i_C_chance : Nat := 243
abbrev i_M_chance : Nat := 244
abbrev i_Way_change : Nat := 245
abbrev i_C_tried : Nat := 246
abbrev i_M_tried : Nat := 247
abbrev i_Day_putIn : Nat := 248
abbrev i_C_undo : Nat := 249
abbrev i_M_take : Nat := 250
abbrev i_M_undo : Nat := 251
abbrev i_C_keep : Nat := 252
abbrev i_M_keep : Nat := 253
abbrev i_C_back : Nat := 254
abbrev i_M_back : Nat := 255
abbrev i_Day_toldInAll : Nat := 256
abbrev i_C_count : Nat := 257
abbrev i_M_count : Nat := 258
abbrev i_L_law : Nat := 259
end
section
/-! ===== the mini machine: a step, a run, what a run needs ===== -/
def wr (z : Int) : Int := (Int32.ofInt z).toInt
def wl (z : Int) : Int := (Int64.ofInt z).toInt
def m_and (x y : Int) : Int := (Int32.ofInt x &&& Int32.ofInt y).toInt
def m_or (x y : Int) : Int := (Int32.ofInt x ||| Int32.ofInt y).toInt
def m_xor (x y : Int) : Int := (Int32.ofInt x ^^^ Int32.ofInt y).toInt
def m_shl (x y : Int) : Int := (Int32.ofInt x <<< (Int32.ofInt y &&& 31)).toInt
def m_shr (x y : Int) : Int := (Int32.ofInt x >>> (Int32.ofInt y &&& 31)).toInt
def m_ushr (x y : Int) : Int := ((Int32.ofInt x).toUInt32 >>> ((Int32.ofInt y).toUInt32 &&& Int32.toUInt32 31)).toInt32.toInt
def m_land (x y : Int) : Int := (Int64.ofInt x &&& Int64.ofInt y).toInt
def m_i2b (x : Int) : Int := ((Int32.ofInt x).toInt8.toInt32).toInt
def m_lcmp (x y : Int) : Int := if y < x then 1 else if x = y then 0 else -1
def m_max (x y : Int) : Int := if x < y then y else x
def m_min (x y : Int) : Int := if y < x then y else x
def m_isL (v : mV) : Bool := match v with
  | .inr (.inl _) => true
  | _ => false
def m_lk : List (Nat × mV) → Nat → Option mV
  | [], _ => none
  | (j, v) :: r, i => bif Nat.beq j i then some v else m_lk r i
def m_ins : List (Nat × mV) → Nat → mV → List (Nat × mV)
  | [], i, v => [(i, v)]
  | (j, w) :: r, i, v => bif Nat.blt i j then (i, v) :: (j, w) :: r else (j, w) :: m_ins r i v
def m_clear (i : Nat) (v : mV) : List (Nat × mV) → List (Nat × mV)
  | [] => []
  | (j, w) :: r => bif Nat.beq j i || (Nat.beq (j + 1) i && m_isL w) || (m_isL v && Nat.beq j (i + 1)) then m_clear i v r else (j, w) :: m_clear i v r
def m_sto (lv : List (Nat × mV)) (i : Nat) (v : mV) : List (Nat × mV) := m_ins (m_clear i v lv) i v
def m_keep (mask : Nat) : List (Nat × mV) → List (Nat × mV)
  | [] => []
  | (j, w) :: r => bif Nat.beq (Nat.mod (Nat.div mask (Nat.pow 2 j)) 2) 1 then (j, w) :: m_keep mask r else m_keep mask r
def m_seek : List mE → Nat → List mE
  | [], _ => []
  | e :: r, t => bif Nat.beq e.1 t then e :: r else m_seek r t
def m_ent : Nat → List mV → List (Nat × mV)
  | _, [] => []
  | i, v :: vs => (i, v) :: m_ent (bif m_isL v then i + 2 else i + 1) vs
def m_pop : Nat → List mV → List mV → Option (List mV × List mV)
  | 0, st, acc => some (acc, st)
  | _ + 1, [], _ => none
  | n + 1, v :: st, acc => m_pop n st (v :: acc)
def m_cats : List mV → Nat
  | [] => 0
  | v :: r => (bif m_isL v then 2 else 1) + m_cats r
def mup (I : Nat → Nat → Int) (k j : Nat) (v : Int) : Nat → Nat → Int := fun a => if a = k then (fun b => if b = j then v else I a b) else I a
def mupR (R : Nat → Nat → Nat) (k j v : Nat) : Nat → Nat → Nat := fun a => if a = k then (fun b => if b = j then v else R a b) else R a
def mrow (I : Nat → Nat → Int) (k : Nat) : Nat → Nat → Int := fun a => if a = k then (fun _ => 0) else I a
def mrowR (R : Nat → Nat → Nat) (k : Nat) : Nat → Nat → Nat := fun a => if a = k then (fun _ => 0) else R a
def mshp (sh : Nat → Nat × Nat) (k : Nat) (x : Nat × Nat) : Nat → Nat × Nat := fun a => if a = k then x else sh a
def mcpy (I : Nat → Nat → Int) (s d n : Nat) : Nat → Nat → Int := fun a => if a = d then (fun b => if b < n then I s b else I d b) else I a
/-- the frame: what is left of the code, cells and slots made so far, locals, stack, memory -/
abbrev mF : Type := List mE × Nat × Nat × List (Nat × mV) × List mV × mM
abbrev mCn : Type := Nat × Int × Int × Int × Int
/-- 0 goes on, 1 a branch, 2 goes on if, 3 a call if, 4 an end if, 5 a switch, 6 a call, 7 an end -/
abbrev mSR : Type := Nat × mCn × mF × mF × Nat × List mV
def m_cn0 : mCn := (9, 0, 0, 0, 0)
def m_holds (c : mCn) : Prop := match c with
  | (0, x, y, _, _) => x = y
  | (1, x, y, _, _) => ¬ x = y
  | (2, x, y, _, _) => x < y
  | (3, x, y, _, _) => y ≤ x
  | (4, x, y, _, _) => y < x
  | (5, x, y, _, _) => x ≤ y
  | (6, x, y, _, _) => 0 ≤ x ∧ x < y
  | (7, x, _, _, _) => x = 0 ∨ x = 1
  | (8, x, _, _, _) => -128 ≤ x ∧ x ≤ 127
  | (10, x, y, w, _) => (0 ≤ x ∧ x < y) ∧ (w = 0 ∨ w = 1)
  | (11, x, y, w, _) => (0 ≤ x ∧ x < y) ∧ (-128 ≤ w ∧ w ≤ 127)
  | (12, x, y, w, z) => x ≤ y ∧ w ≤ z
  | (13, x, y, w, z) => (0 ≤ x ∧ x ≤ 10000) ∧ (y ≤ w ∧ x ≤ z)
  | (14, x, y, w, z) => (0 ≤ x ∧ x ≤ y) ∧ (x ≤ w ∧ z = 0)
  | _ => True
def m_holdsB (c : mCn) : Bool := match c with
  | (0, x, y, _, _) => decide (x = y)
  | (1, x, y, _, _) => decide (¬ x = y)
  | (2, x, y, _, _) => decide (x < y)
  | (3, x, y, _, _) => decide (y ≤ x)
  | (4, x, y, _, _) => decide (y < x)
  | (5, x, y, _, _) => decide (x ≤ y)
  | (6, x, y, _, _) => decide (0 ≤ x ∧ x < y)
  | (7, x, _, _, _) => decide (x = 0 ∨ x = 1)
  | (8, x, _, _, _) => decide (-128 ≤ x ∧ x ≤ 127)
  | (10, x, y, w, _) => decide ((0 ≤ x ∧ x < y) ∧ (w = 0 ∨ w = 1))
  | (11, x, y, w, _) => decide ((0 ≤ x ∧ x < y) ∧ (-128 ≤ w ∧ w ≤ 127))
  | (12, x, y, w, z) => decide (x ≤ y ∧ w ≤ z)
  | (13, x, y, w, z) => decide ((0 ≤ x ∧ x ≤ 10000) ∧ (y ≤ w ∧ x ≤ z))
  | (14, x, y, w, z) => decide ((0 ≤ x ∧ x ≤ y) ∧ (x ≤ w ∧ z = 0))
  | _ => true
def m_cc (c : Jvm.ClassFile.Cond) : Nat := match c with
  | .eq => 0
  | .ne => 1
  | .lt => 2
  | .ge => 3
  | .gt => 4
  | .le => 5
def mgo (r : List mE) (kc ks : Nat) (lv : List (Nat × mV)) (st : List mV) (M : mM) : mSR := (0, m_cn0, (r, kc, ks, lv, st, M), (r, kc, ks, lv, st, M), 0, [])
def mif (c : mCn) (r : List mE) (kc ks : Nat) (lv : List (Nat × mV)) (st : List mV) (M : mM) : mSR := (2, c, (r, kc, ks, lv, st, M), (r, kc, ks, lv, st, M), 0, [])
def mno (M : mM) : mSR := (9, m_cn0, ([], 0, 0, [], [], M), ([], 0, 0, [], [], M), 0, [])
def m_words : List Int := [109, 97, 110, 32, 32, 32, 114, 105, 110, 103, 32, 32, 109, 101, 101, 116, 32, 32, 99, 111, 108, 100, 32, 32, 99, 114, 111, 119, 100, 32, 115, 101, 101, 100, 32, 32, 108, 97, 119, 32, 32, 32, 116, 97, 108, 107, 32, 32, 108, 97, 116, 101, 32, 32, 100, 114, 105, 102, 116, 32, 111, 114, 32, 32, 32, 32, 97, 110, 100, 32, 32, 32, 110, 111, 116, 32, 32, 32, 116, 97, 108, 107, 115, 32, 119, 97, 105, 116, 115, 32, 111, 102, 102, 32, 32, 32, 114, 97, 116, 101, 32, 32, 113, 117, 101, 117, 101, 32, 116, 111, 108, 100, 32, 32, 109, 105, 110, 117, 116, 101]
def m_bin (f : Int → Int → Int) (r : List mE) (kc ks : Nat) (lv : List (Nat × mV)) (st : List mV) (M : mM) : mSR := match st with
  | .inl y :: .inl x :: s => mgo r kc ks lv (.inl (f x y) :: s) M
  | _ => mno M
def m_binL (f : Int → Int → Int) (r : List mE) (kc ks : Nat) (lv : List (Nat × mV)) (st : List mV) (M : mM) : mSR := match st with
  | .inr (.inl y) :: .inr (.inl x) :: s => mgo r kc ks lv (.inr (.inl (f x y)) :: s) M
  | _ => mno M
def m_ildx (i : Nat) (r : List mE) (kc ks : Nat) (lv : List (Nat × mV)) (st : List mV) (M : mM) : mSR := match m_lk lv i with
  | some (.inl x) => mgo r kc ks lv (.inl x :: st) M
  | _ => mno M
def m_lldx (i : Nat) (r : List mE) (kc ks : Nat) (lv : List (Nat × mV)) (st : List mV) (M : mM) : mSR := match m_lk lv i with
  | some (.inr (.inl x)) => mgo r kc ks lv (.inr (.inl x) :: st) M
  | _ => mno M
def m_aldx (i : Nat) (r : List mE) (kc ks : Nat) (lv : List (Nat × mV)) (st : List mV) (M : mM) : mSR := match m_lk lv i with
  | some (.inr (.inr (k + 1))) => mgo r kc ks lv (.inr (.inr (k + 1)) :: st) M
  | _ => mno M
def m_istx (i : Nat) (r : List mE) (kc ks : Nat) (lv : List (Nat × mV)) (st : List mV) (M : mM) : mSR := match st with
  | .inl x :: s => mgo r kc ks (m_sto lv i (.inl x)) s M
  | _ => mno M
def m_lstx (i : Nat) (r : List mE) (kc ks : Nat) (lv : List (Nat × mV)) (st : List mV) (M : mM) : mSR := match st with
  | .inr (.inl x) :: s => mgo r kc ks (m_sto lv i (.inr (.inl x))) s M
  | _ => mno M
def m_astx (i : Nat) (r : List mE) (kc ks : Nat) (lv : List (Nat × mV)) (st : List mV) (M : mM) : mSR := match st with
  | .inr (.inr (k + 1)) :: s => mgo r kc ks (m_sto lv i (.inr (.inr (k + 1)))) s M
  | _ => mno M
def m_getf (e1 e2 e3 : Nat) (r : List mE) (kc ks : Nat) (lv : List (Nat × mV)) (st : List mV) (M : mM) : mSR := match st, M with
  | .inr (.inr (k + 2)) :: s, (n, sh, R, I, L) => bif Nat.beq (sh (k + 2)).1 e1 then
      (match e3 with
      | 0 => mgo r kc ks lv (.inl (I (k + 2) e2) :: s) (n, sh, R, I, L)
      | 3 => mgo r kc ks lv (.inl (I (k + 2) e2) :: s) (n, sh, R, I, L)
      | 1 => mgo r kc ks lv (.inr (.inl (L (k + 2) e2)) :: s) (n, sh, R, I, L)
      | _ => mgo r kc ks lv (.inr (.inr (R (k + 2) e2)) :: s) (n, sh, R, I, L))
    else mno M
  | _, _ => mno M
def m_putf (e1 e2 e3 : Nat) (r : List mE) (kc ks : Nat) (lv : List (Nat × mV)) (st : List mV) (M : mM) : mSR := match st, M with
  | v :: .inr (.inr (k + 2)) :: s, (n, sh, R, I, L) => bif Nat.beq (sh (k + 2)).1 e1 then
      (match e3, v with
      | 0, .inl x => mgo r kc ks lv s (n, sh, R, mup I (k + 2) e2 x, L)
      | 3, .inl x => mif (7, x, 0, 0, 0) r kc ks lv s (n, sh, R, mup I (k + 2) e2 x, L)
      | 1, .inr (.inl x) => mgo r kc ks lv s (n, sh, R, I, mup L (k + 2) e2 x)
      | 2, .inr (.inr (q + 2)) => mgo r kc ks lv s (n, sh, mupR R (k + 2) e2 (q + 2), I, L)
      | _, _ => mno M)
    else mno M
  | _, _ => mno M
def m_ald (kd : Nat) (r : List mE) (kc ks : Nat) (lv : List (Nat × mV)) (st : List mV) (M : mM) : mSR := match st, M with
  | .inl i :: .inr (.inr (k + 1)) :: s, (n, sh, R, I, L) => (match kd with
      | 0 => bif Nat.beq (sh (k + 1)).1 0 || Nat.beq (sh (k + 1)).1 98 then mif (6, i, ((sh (k + 1)).2 : Nat), 0, 0) r kc ks lv (.inl (I (k + 1) i.toNat) :: s) (n, sh, R, I, L) else mno M
      | 1 => bif Nat.beq (sh (k + 1)).1 1 then mif (6, i, ((sh (k + 1)).2 : Nat), 0, 0) r kc ks lv (.inr (.inl (L (k + 1) i.toNat)) :: s) (n, sh, R, I, L) else mno M
      | _ => bif Nat.beq (sh (k + 1)).1 2 || Nat.beq (sh (k + 1)).1 3 then mif (6, i, ((sh (k + 1)).2 : Nat), 0, 0) r kc ks lv (.inl (I (k + 1) i.toNat) :: s) (n, sh, R, I, L) else mno M)
  | _, _ => mno M
def m_ast (kd : Nat) (r : List mE) (kc ks : Nat) (lv : List (Nat × mV)) (st : List mV) (M : mM) : mSR := match st, M with
  | .inl x :: .inl i :: .inr (.inr (k + 2)) :: s, (n, sh, R, I, L) => (match kd with
      | 0 => bif Nat.beq (sh (k + 2)).1 0 then mif (6, i, ((sh (k + 2)).2 : Nat), 0, 0) r kc ks lv s (n, sh, R, mup I (k + 2) i.toNat x, L) else mno M
      | 2 => bif Nat.beq (sh (k + 2)).1 2 then mif (11, i, ((sh (k + 2)).2 : Nat), x, 0) r kc ks lv s (n, sh, R, mup I (k + 2) i.toNat x, L)
          else bif Nat.beq (sh (k + 2)).1 3 then mif (10, i, ((sh (k + 2)).2 : Nat), x, 0) r kc ks lv s (n, sh, R, mup I (k + 2) i.toNat x, L) else mno M
      | _ => mno M)
  | .inr (.inl x) :: .inl i :: .inr (.inr (k + 2)) :: s, (n, sh, R, I, L) => (match kd with
      | 1 => bif Nat.beq (sh (k + 2)).1 1 then mif (6, i, ((sh (k + 2)).2 : Nat), 0, 0) r kc ks lv s (n, sh, R, I, mup L (k + 2) i.toNat x) else mno M
      | _ => mno M)
  | _, _ => mno M
def m_len (r : List mE) (kc ks : Nat) (lv : List (Nat × mV)) (st : List mV) (M : mM) : mSR := match st, M with
  | .inr (.inr (k + 1)) :: s, (n, sh, R, I, L) => bif (Nat.ble (sh (k + 1)).1 3 || Nat.beq (sh (k + 1)).1 98) && Nat.blt (sh (k + 1)).2 2147483648 then mgo r kc ks lv (.inl ((sh (k + 1)).2 : Nat) :: s) (n, sh, R, I, L) else mno M
  | _, _ => mno M
def m_cpy (r : List mE) (kc ks : Nat) (lv : List (Nat × mV)) (st : List mV) (M : mM) : mSR := match st, M with
  | .inl x :: .inl dp :: .inr (.inr (d + 2)) :: .inl sp :: .inr (.inr (s + 2)) :: q, (n, sh, R, I, L) =>
      bif Nat.beq n 144 && Nat.beq (sh (d + 2)).1 0 && Nat.beq (sh (s + 2)).1 0 && Nat.ble (m_cats q) 8 then mif (14, x, ((sh (s + 2)).2 : Nat), ((sh (d + 2)).2 : Nat), (sp.natAbs : Int) + (dp.natAbs : Int)) r kc ks lv q (n, sh, R, mcpy I (s + 2) (d + 2) x.toNat, L) else mno M
  | _, _ => mno M
/-- a call of a method of the system -/
def m_call (m e1 e2 : Nat) (ck : List mV → Bool) (r : List mE) (kc ks : Nat) (lv : List (Nat × mV)) (st : List mV) (M : mM) : mSR := match m_pop e2 st [] with
  | some (as, s) => bif ck as && Nat.ble (m_cats s) 8 && Nat.ble (m_cats as) (mL e1) then
      (bif Nat.beq (mC e1) 0 then (6, m_cn0, (r, kc, ks, lv, s, M), (r, kc, ks, lv, s, M), e1, as)
       else (3, (12, ((kc + mC e1 : Nat) : Int), ((mC m : Nat) : Int), ((ks + mS e1 : Nat) : Int), ((mS m : Nat) : Int)), (r, kc + mC e1, ks + mS e1, lv, s, M), (r, kc, ks, lv, s, M), e1, as))
      else mno M
  | none => mno M
def m_ckV (kd : Nat) (M : mM) (as : List mV) : Bool := match as, M with
  | .inr (.inr (k + 2)) :: _, (_, sh, _) => Nat.beq (sh (k + 2)).1 kd
  | _, _ => false
def m_ckI (as : List mV) : Bool := match as with
  | .inr (.inr (_ + 2)) :: _ => true
  | _ => false
def m_special (m e1 e2 : Nat) (r : List mE) (kc ks : Nat) (lv : List (Nat × mV)) (st : List mV) (M : mM) : mSR :=
  bif Nat.beq e1 1008 then (match st with
    | .inr (.inr (_ + 2)) :: s => bif Nat.ble (m_cats s) 8 then mgo r kc ks lv s M else mno M
    | _ => mno M)
  else m_call m e1 e2 m_ckI r kc ks lv st M
def m_virtual (m e1 e2 e3 : Nat) (r : List mE) (kc ks : Nat) (lv : List (Nat × mV)) (st : List mV) (M : mM) : mSR :=
  bif Nat.beq e1 1007 then (match st with
    | .inl i :: .inr (.inr w) :: s => bif Nat.beq w 1000000 && Nat.ble (m_cats s) 8 then mif (6, i, 120, 0, 0) r kc ks lv (.inl (m_words.getD i.toNat 0) :: s) M else mno M
    | _ => mno M)
  else m_call m e1 e2 (m_ckV e3 M) r kc ks lv st M
def m_static (m e1 e2 : Nat) (r : List mE) (kc ks : Nat) (lv : List (Nat × mV)) (st : List mV) (M : mM) : mSR :=
  bif Nat.blt e1 1000 then m_call m e1 e2 (fun _ => true) r kc ks lv st M
  else bif Nat.beq e1 1006 then m_cpy r kc ks lv st M
  else bif Nat.blt 8 (m_cats st) then mno M
  else (bif Nat.beq e1 1000 then (match st with
      | .inl y :: .inl x :: s => mgo r kc ks lv (.inl (m_max x y) :: s) M
      | _ => mno M)
    else bif Nat.beq e1 1001 then (match st with
      | .inl y :: .inl x :: s => mgo r kc ks lv (.inl (m_min x y) :: s) M
      | _ => mno M)
    else bif Nat.beq e1 1002 then (match st with
      | .inl x :: s => mgo r kc ks lv (.inl (if 0 ≤ x then x else wr (0 - x)) :: s) M
      | _ => mno M)
    else bif Nat.beq e1 1003 then (match st with
      | .inr (.inl y) :: .inr (.inl x) :: s => mgo r kc ks lv (.inr (.inl (m_max x y)) :: s) M
      | _ => mno M)
    else bif Nat.beq e1 1004 then (match st with
      | .inr (.inl y) :: .inr (.inl x) :: s => mgo r kc ks lv (.inr (.inl (m_min x y)) :: s) M
      | _ => mno M)
    else bif Nat.beq e1 1005 then (match st with
      | .inr (.inl x) :: s => mgo r kc ks lv (.inr (.inl (if 0 ≤ x then x else wl (0 - x))) :: s) M
      | _ => mno M)
    else mno M)
def m_new (m e1 e2 : Nat) (r : List mE) (kc ks : Nat) (lv : List (Nat × mV)) (st : List mV) (M : mM) : mSR := match M with
  | (n, sh, R, I, L) => bif Nat.blt n 144 then mif (12, ((kc + 1 : Nat) : Int), ((mC m : Nat) : Int), ((ks + e2 : Nat) : Int), ((mS m : Nat) : Int)) r (kc + 1) (ks + e2) lv (.inr (.inr n) :: st) (n + 1, mshp sh n (e1, 0), mrowR R n, mrow I n, mrow L n) else mno M
def m_newa (m e1 : Nat) (r : List mE) (kc ks : Nat) (lv : List (Nat × mV)) (st : List mV) (M : mM) : mSR := match st, M with
  | .inl x :: s, (n, sh, R, I, L) => bif Nat.blt n 144 then mif (13, x, ((kc + 1 : Nat) : Int), ((mC m : Nat) : Int), ((mS m : Nat) : Int) - ((ks : Nat) : Int)) r (kc + 1) (ks + x.toNat) lv (.inr (.inr n) :: s) (n + 1, mshp sh n (e1, x.toNat), mrowR R n, mrow I n, mrow L n) else mno M
  | _, _ => mno M
def m_step (m : Nat) (e : mE) (r : List mE) (kc ks : Nat) (lv : List (Nat × mV)) (st : List mV) (M : mM) : mSR := match e with
  | (_, i, _, e1, e2, e3, z) => (match i with
    | .nop => mgo r kc ks (m_keep e1 lv) st M
    | .iconst _ => mgo r kc ks lv (.inl z :: st) M
    | .bipush _ => mgo r kc ks lv (.inl z :: st) M
    | .sipush _ => mgo r kc ks lv (.inl z :: st) M
    | .lconst _ => mgo r kc ks lv (.inr (.inl z) :: st) M
    | .ldc2_w _ => mgo r kc ks lv (.inr (.inl z) :: st) M
    | .ldc _ => bif Nat.beq e1 999999 then mgo r kc ks lv (.inr (.inr 1000000) :: st) M else mgo r kc ks lv (.inl z :: st) M
    | .ldc_w _ => mgo r kc ks lv (.inl z :: st) M
    | .iload_n k => m_ildx k.val r kc ks lv st M
    | .iload k => m_ildx k r kc ks lv st M
    | .lload_n k => m_lldx k.val r kc ks lv st M
    | .lload k => m_lldx k r kc ks lv st M
    | .aload_n k => m_aldx k.val r kc ks lv st M
    | .aload k => m_aldx k r kc ks lv st M
    | .istore_n k => m_istx k.val r kc ks lv st M
    | .istore k => m_istx k r kc ks lv st M
    | .lstore_n k => m_lstx k.val r kc ks lv st M
    | .lstore k => m_lstx k r kc ks lv st M
    | .astore_n k => m_astx k.val r kc ks lv st M
    | .astore k => m_astx k r kc ks lv st M
    | .iinc k c => (match m_lk lv k with
      | some (.inl x) => mgo r kc ks (m_sto lv k (.inl (wr (x + c)))) st M
      | _ => mno M)
    | .iadd => m_bin (fun x y => wr (x + y)) r kc ks lv st M
    | .isub => m_bin (fun x y => wr (x - y)) r kc ks lv st M
    | .imul => m_bin (fun x y => wr (x * y)) r kc ks lv st M
    | .iand => m_bin m_and r kc ks lv st M
    | .ior => m_bin m_or r kc ks lv st M
    | .ixor => m_bin m_xor r kc ks lv st M
    | .ishl => m_bin m_shl r kc ks lv st M
    | .ishr => m_bin m_shr r kc ks lv st M
    | .iushr => m_bin m_ushr r kc ks lv st M
    | .idiv => (match st with
      | .inl y :: .inl x :: s => mif (1, y, 0, 0, 0) r kc ks lv (.inl (wr (x.tdiv y)) :: s) M
      | _ => mno M)
    | .irem => (match st with
      | .inl y :: .inl x :: s => mif (1, y, 0, 0, 0) r kc ks lv (.inl (x.tmod y) :: s) M
      | _ => mno M)
    | .ineg => (match st with
      | .inl x :: s => mgo r kc ks lv (.inl (wr (-x)) :: s) M
      | _ => mno M)
    | .ladd => m_binL (fun x y => wl (x + y)) r kc ks lv st M
    | .lsub => m_binL (fun x y => wl (x - y)) r kc ks lv st M
    | .lmul => m_binL (fun x y => wl (x * y)) r kc ks lv st M
    | .land => m_binL m_land r kc ks lv st M
    | .ldiv => (match st with
      | .inr (.inl y) :: .inr (.inl x) :: s => mif (1, y, 0, 0, 0) r kc ks lv (.inr (.inl (wl (x.tdiv y))) :: s) M
      | _ => mno M)
    | .lrem => (match st with
      | .inr (.inl y) :: .inr (.inl x) :: s => mif (1, y, 0, 0, 0) r kc ks lv (.inr (.inl (x.tmod y)) :: s) M
      | _ => mno M)
    | .lneg => (match st with
      | .inr (.inl x) :: s => mgo r kc ks lv (.inr (.inl (wl (-x))) :: s) M
      | _ => mno M)
    | .lcmp => (match st with
      | .inr (.inl y) :: .inr (.inl x) :: s => mgo r kc ks lv (.inl (m_lcmp x y) :: s) M
      | _ => mno M)
    | .i2l => (match st with
      | .inl x :: s => mgo r kc ks lv (.inr (.inl x) :: s) M
      | _ => mno M)
    | .l2i => (match st with
      | .inr (.inl x) :: s => mgo r kc ks lv (.inl (wr x) :: s) M
      | _ => mno M)
    | .i2b => (match st with
      | .inl x :: s => mgo r kc ks lv (.inl (m_i2b x) :: s) M
      | _ => mno M)
    | .dup => (match st with
      | .inl x :: s => mgo r kc ks lv (.inl x :: .inl x :: s) M
      | .inr (.inr x) :: s => mgo r kc ks lv (.inr (.inr x) :: .inr (.inr x) :: s) M
      | _ => mno M)
    | .pop => (match st with
      | .inl _ :: s => mgo r kc ks lv s M
      | _ => mno M)
    | .dup2 => (match st with
      | .inl x :: .inr (.inr y) :: s => mgo r kc ks lv (.inl x :: .inr (.inr y) :: .inl x :: .inr (.inr y) :: s) M
      | .inr (.inl x) :: s => mgo r kc ks lv (.inr (.inl x) :: .inr (.inl x) :: s) M
      | _ => mno M)
    | .goto _ => mgo (m_seek (mcd m) e1) kc ks lv st M
    | .ifCond c _ => (match st with
      | .inl x :: s => (1, (m_cc c, x, 0, 0, 0), (m_seek (mcd m) e1, kc, ks, lv, s, M), (r, kc, ks, lv, s, M), 0, [])
      | _ => mno M)
    | .if_icmp c _ => (match st with
      | .inl y :: .inl x :: s => (1, (m_cc c, x, y, 0, 0), (m_seek (mcd m) e1, kc, ks, lv, s, M), (r, kc, ks, lv, s, M), 0, [])
      | _ => mno M)
    | .tableswitch _ _ _ _ => (match st with
      | .inl x :: s => (5, (e1, x, 0, 0, 0), (r, kc, ks, lv, s, M), (r, kc, ks, lv, s, M), e2, [])
      | _ => mno M)
    | .getfield _ => m_getf e1 e2 e3 r kc ks lv st M
    | .putfield _ => m_putf e1 e2 e3 r kc ks lv st M
    | .iaload => m_ald 0 r kc ks lv st M
    | .laload => m_ald 1 r kc ks lv st M
    | .baload => m_ald 2 r kc ks lv st M
    | .iastore => m_ast 0 r kc ks lv st M
    | .lastore => m_ast 1 r kc ks lv st M
    | .bastore => m_ast 2 r kc ks lv st M
    | .arraylength => m_len r kc ks lv st M
    | .new _ => m_new m e1 e2 r kc ks lv st M
    | .newarray _ => m_newa m e1 r kc ks lv st M
    | .invokespecial _ => m_special m e1 e2 r kc ks lv st M
    | .invokevirtual _ => m_virtual m e1 e2 (Nat.mod e3 1000) r kc ks lv st M
    | .invokestatic _ => m_static m e1 e2 r kc ks lv st M
    | .ireturn => (match st with
      | [.inl x] => bif Nat.beq e1 1 then (4, (7, x, 0, 0, 0), (r, kc, ks, lv, st, M), (r, kc, ks, lv, st, M), 0, [.inl x]) else (7, m_cn0, (r, kc, ks, lv, st, M), (r, kc, ks, lv, st, M), 0, [.inl x])
      | _ => mno M)
    | .lreturn => (match st with
      | [.inr (.inl x)] => (7, m_cn0, (r, kc, ks, lv, st, M), (r, kc, ks, lv, st, M), 0, [.inr (.inl x)])
      | _ => mno M)
    | .return_ => (match st with
      | [] => (7, m_cn0, (r, kc, ks, lv, st, M), (r, kc, ks, lv, st, M), 0, [])
      | _ => mno M)
    | _ => mno M)
def m_push (f : mF) (v : List mV) (M : mM) : mF := match f with
  | (r, kc, ks, lv, st, _) => (r, kc, ks, lv, v ++ st, M)
def m_at (f : mF) (r : List mE) : mF := match f with
  | (_, kc, ks, lv, st, M) => (r, kc, ks, lv, st, M)
def m_mem (f : mF) : mM := match f with
  | (_, _, _, _, _, M) => M
def m_sel : List (Int × Nat) → Int → Nat → Nat
  | [], _, d => d
  | (v, t) :: r, x, d => bif decide (x = v) then t else m_sel r x d
abbrev mO : Type := Option (List mV × mM)
/-- the law's man: what it answers, by way of SpeakClock.man where that returns -/
def m_man (ex : mF → mO) (as : List mV) (M : mM) : mO := match as, M with
  | [.inr (.inr (x + 2)), .inl a, .inl b, .inr (.inr (o + 2))], (n, sh, R, I, L) =>
      bif Nat.beq (sh (x + 2)).1 13 && Nat.beq (sh (R (x + 2) 9)).1 9 && Nat.beq (sh (o + 2)).1 1 && Nat.beq (sh (o + 2)).2 1 then
        (bif decide (0 ≤ a ∧ a < I (R (x + 2) 9) 13) then
          (bif decide (0 ≤ b ∧ b ≤ 7) then (ex (mcd mMan, 0, 0, m_ent 0 [.inr (.inr (x + 2)), .inl a, .inl b], [], M)).bind (fun q => match q with
              | ([.inl v], (n, sh, R, I, L)) => some ([.inl 0], (n, sh, R, I, mup L (o + 2) 0 v))
              | _ => none)
           else some ([.inl 2], M))
         else some ([.inl 1], M))
      else none
  | _, _ => none
def m_exec : Nat → Nat → mF → mO
  | 0, _, _ => none
  | n + 1, m, (r, kc, ks, lv, st, M) => match r with
    | [] => none
    | e :: r' => (match m_step m e r' kc ks lv st M with
      | (t, c, s1, s2, m', as) => (match t with
        | 0 => m_exec n m s1
        | 1 => bif m_holdsB c then m_exec n m s1 else m_exec n m s2
        | 2 => bif m_holdsB c then m_exec n m s1 else none
        | 3 => bif m_holdsB c then (bif Nat.beq m' mLman then m_man (m_exec n mMan) as (m_mem s1) else m_exec n m' (mcd m', 0, 0, m_ent 0 as, [], m_mem s1)).bind (fun q => m_exec n m (m_push s1 q.1 q.2)) else none
        | 4 => bif m_holdsB c then some (as, m_mem s1) else none
        | 5 => m_exec n m (m_at s1 (m_seek (mcd m) (m_sel (mSw m') c.2.1 c.1)))
        | 6 => (m_exec n m' (mcd m', 0, 0, m_ent 0 as, [], m_mem s1)).bind (fun q => m_exec n m (m_push s1 q.1 q.2))
        | 7 => some (as, m_mem s1)
        | _ => none))
end
section
/-! ===== what a run needs, by steps ===== -/
theorem m_man_mono {ex ex' : mF → mO} (h : ∀ f q, ex f = some q → ex' f = some q) {as : List mV} {M : mM} {q : List mV × mM} (hq : m_man ex as M = some q) : m_man ex' as M = some q := by
  unfold m_man at hq ⊢
  split at hq
  · next x a b o n sh R I L =>
    try dsimp only at hq ⊢
    cases c1 : (Nat.beq (sh (x + 2)).1 13 && Nat.beq (sh (R (x + 2) 9)).1 9 && Nat.beq (sh (o + 2)).1 1 && Nat.beq (sh (o + 2)).2 1)
    · rw [c1] at hq; cases hq
    · rw [c1] at hq
      try dsimp only [cond_true] at hq ⊢
      cases c2 : decide (0 ≤ a ∧ a < I (R (x + 2) 9) 13)
      · rw [c2] at hq; exact hq
      · rw [c2] at hq
        try dsimp only [cond_true] at hq ⊢
        cases c3 : decide (0 ≤ b ∧ b ≤ 7)
        · rw [c3] at hq; exact hq
        · rw [c3] at hq
          try dsimp only [cond_true] at hq ⊢
          obtain ⟨z, h1, h2⟩ := Option.bind_eq_some_iff.mp hq
          exact Option.bind_eq_some_iff.mpr ⟨z, h _ _ h1, h2⟩
  · cases hq
theorem m_mono1 : ∀ (n m : Nat) (f : mF) (q : List mV × mM), m_exec n m f = some q → m_exec (n + 1) m f = some q := by
  intro n
  induction n with
  | zero => intro m f q h; cases h
  | succ n ih =>
    intro m f q h
    obtain ⟨r, kc, ks, lv, st, M⟩ := f
    cases r with
    | nil => cases h
    | cons e r' =>
      unfold m_exec at h ⊢
      try dsimp only at h ⊢
      generalize m_step m e r' kc ks lv st M = sr at h ⊢
      obtain ⟨t, c, s1, s2, m', as⟩ := sr
      match t with
      | 0 => exact ih _ _ _ h
      | 1 =>
        try dsimp only at h ⊢
        cases hc : m_holdsB c <;> rw [hc] at h <;> exact ih _ _ _ h
      | 2 =>
        try dsimp only at h ⊢
        cases hc : m_holdsB c
        · rw [hc] at h; cases h
        · rw [hc] at h; exact ih _ _ _ h
      | 3 =>
        try dsimp only at h ⊢
        cases hc : m_holdsB c
        · rw [hc] at h; cases h
        · rw [hc] at h
          try dsimp only [cond_true] at h ⊢
          obtain ⟨z, h1, h2⟩ := Option.bind_eq_some_iff.mp h
          refine Option.bind_eq_some_iff.mpr ⟨z, ?_, ih _ _ _ h2⟩
          cases hm : Nat.beq m' mLman
          · rw [hm] at h1; exact ih _ _ _ h1
          · rw [hm] at h1; exact m_man_mono (fun f q => ih mMan f q) h1
      | 4 =>
        try dsimp only at h ⊢
        exact h
      | 5 =>

        exact ih _ _ _ h
      | 6 =>
        try dsimp only at h ⊢
        obtain ⟨z, h1, h2⟩ := Option.bind_eq_some_iff.mp h
        exact Option.bind_eq_some_iff.mpr ⟨z, ih _ _ _ h1, ih _ _ _ h2⟩
      | 7 => exact h
      | _ + 8 => cases h
theorem m_mono {n n' m : Nat} {f : mF} {q : List mV × mM} (hn : n ≤ n') (h : m_exec n m f = some q) : m_exec n' m f = some q := by
  obtain ⟨d, rfl⟩ := Nat.le.dest hn
  induction d with
  | zero => exact h
  | succ d ih => exact m_mono1 _ _ _ _ (ih (Nat.le_add_right _ _))
theorem m_det {n n' m : Nat} {f : mF} {q q' : List mV × mM} (h : m_exec n m f = some q) (h' : m_exec n' m f = some q') : q = q' := by
  have h1 := m_mono (Nat.le_max_left n n') h
  have h2 := m_mono (Nat.le_max_right n n') h'
  exact Option.some.inj (h1.symm.trans h2)
/-- the run comes to an end, with Q -/
def m_Wr (m : Nat) (f : mF) (Q : List mV → mM → Prop) : Prop := ∃ (n : Nat) (q : List mV × mM), m_exec n m f = some q ∧ Q q.1 q.2
def m_Wp (m pc kc ks : Nat) (lv : List (Nat × mV)) (st : List mV) (M : mM) (Q : List mV → mM → Prop) : Prop := m_Wr m (m_seek (mcd m) pc, kc, ks, lv, st, M) Q
def m_Call (m : Nat) (as : List mV) (M : mM) (Q : List mV → mM → Prop) : Prop := m_Wr m (mcd m, 0, 0, m_ent 0 as, [], M) Q
def m_CallA (m : Nat) (as : List mV) (M : mM) (Q : List mV → mM → Prop) : Prop := ∃ (n : Nat) (q : List mV × mM), (bif Nat.beq m mLman then m_man (m_exec n mMan) as M else m_exec n m (mcd m, 0, 0, m_ent 0 as, [], M)) = some q ∧ Q q.1 q.2
theorem m_Wr.mono {m : Nat} {f : mF} {Q Q' : List mV → mM → Prop} (h : m_Wr m f Q) (hQ : ∀ r M, Q r M → Q' r M) : m_Wr m f Q' := by
  obtain ⟨n, q, h1, h2⟩ := h
  exact ⟨n, q, h1, hQ _ _ h2⟩
theorem m_Call.mono {m : Nat} {as : List mV} {M : mM} {Q Q' : List mV → mM → Prop} (h : m_Call m as M Q) (hQ : ∀ r M', Q r M' → Q' r M') : m_Call m as M Q' := m_Wr.mono h hQ
theorem m_Wr.swap {m m' : Nat} {f f' : mF} {Q : List mV → mM → List mV → mM → Prop} (h : m_Wr m f (fun r M => m_Wr m' f' (Q r M))) : m_Wr m' f' (fun r' M' => m_Wr m f (fun r M => Q r M r' M')) := by
  obtain ⟨n, q, h1, n', q', h2, h3⟩ := h
  exact ⟨n', q', h2, n, q, h1, h3⟩
def m_isNop (e : mE) : Bool := match e.2.1 with
  | .nop => true
  | _ => false
def m_in : List Nat → Nat → Bool
  | [], _ => false
  | a :: l, x => bif Nat.beq a x then true else m_in l x
def m_swp (K : Nat → Prop) : List (Int × Nat) → Int → Nat → Prop
  | [], _, d => K d
  | (v, t) :: r, x, d => (x = v → K t) ∧ (¬ x = v → m_swp K r x d)
/-- k steps, as far as the cuts; what is left must come to an end -/
def m_wp : Nat → List Nat → Nat → Bool → mF → (List mV → mM → Prop) → Prop
  | 0, _, m, _, f, Q => m_Wr m f Q
  | k + 1, cs, m, b, (r, kc, ks, lv, st, M), Q => match r with
    | [] => False
    | e :: r' => bif b && m_isNop e && m_in cs e.1 then m_Wr m (e :: r', kc, ks, m_keep e.2.2.2.1 lv, st, M) Q
      else (match m_step m e r' kc ks lv st M with
      | (t, c, s1, s2, m', as) => (match t with
        | 0 => m_wp k cs m true s1 Q
        | 1 => (m_holds c → m_wp k cs m true s1 Q) ∧ (¬ m_holds c → m_wp k cs m true s2 Q)
        | 2 => m_holds c ∧ m_wp k cs m true s1 Q
        | 3 => m_holds c ∧ m_CallA m' as (m_mem s1) (fun v M' => m_Wr m (m_push s1 v M') Q)
        | 4 => m_holds c ∧ Q as (m_mem s1)
        | 5 => m_swp (fun t => m_wp k cs m true (m_at s1 (m_seek (mcd m) t)) Q) (mSw m') c.2.1 c.1
        | 6 => m_Call m' as (m_mem s1) (fun v M' => m_Wr m (m_push s1 v M') Q)
        | 7 => Q as (m_mem s1)
        | _ => False))
theorem m_holds_iff (c : mCn) : m_holdsB c = true ↔ m_holds c := by
  obtain ⟨t, x, y, w, z⟩ := c
  unfold m_holdsB m_holds
  split <;> simp_all
theorem m_keep_idem (k : Nat) : ∀ lv : List (Nat × mV), m_keep k (m_keep k lv) = m_keep k lv := by
  intro lv
  induction lv with
  | nil => rfl
  | cons a r ih =>
    obtain ⟨j, v⟩ := a
    cases h : Nat.beq (Nat.mod (Nat.div k (Nat.pow 2 j)) 2) 1
    · have e1 : m_keep k ((j, v) :: r) = m_keep k r := by rw [m_keep, h]; rfl
      rw [e1, ih]
    · have e1 : ∀ r : List (Nat × mV), m_keep k ((j, v) :: r) = (j, v) :: m_keep k r := fun r => by rw [m_keep, h]; rfl
      rw [e1, e1, ih]
theorem m_swp_sel {K : Nat → Prop} : ∀ (l : List (Int × Nat)) {x : Int} {d : Nat}, m_swp K l x d → K (m_sel l x d) := by
  intro l
  induction l with
  | nil => intro x d h; exact h
  | cons a r ih =>
    intro x d h
    obtain ⟨v, t⟩ := a
    unfold m_sel
    by_cases hx : x = v
    · rw [show decide (x = v) = true from decide_eq_true hx]; exact h.1 hx
    · rw [show decide (x = v) = false from decide_eq_false hx]; exact ih (h.2 hx)
theorem m_wp_sound : ∀ (k : Nat) {cs : List Nat} {m : Nat} {b : Bool} {f : mF} {Q : List mV → mM → Prop}, m_wp k cs m b f Q → m_Wr m f Q := by
  intro k
  induction k with
  | zero => intro cs m b f Q h; exact h
  | succ k ih =>
    intro cs m b f Q h
    obtain ⟨r, kc, ks, lv, st, M⟩ := f
    cases r with
    | nil => exact h.elim
    | cons e r' =>
      unfold m_wp at h
      try dsimp only at h
      cases hb : (b && m_isNop e && m_in cs e.1)
      · rw [hb] at h
        try dsimp only [cond_false] at h
        generalize hsr : m_step m e r' kc ks lv st M = sr at h
        obtain ⟨t, c, s1, s2, m', as⟩ := sr
        match t, hsr, h with
        | 0, hsr, h =>
          obtain ⟨n, q, h1, h2⟩ := ih h
          exact ⟨n + 1, q, by unfold m_exec; try dsimp only; rw [hsr]; exact h1, h2⟩
        | 1, hsr, h =>
          try dsimp only at h
          cases hc : m_holdsB c
          · obtain ⟨n, q, h1, h2⟩ := ih (h.2 (fun z => by rw [(m_holds_iff c).mpr z] at hc; cases hc))
            exact ⟨n + 1, q, by unfold m_exec; try dsimp only; rw [hsr]; try dsimp only; rw [hc]; exact h1, h2⟩
          · obtain ⟨n, q, h1, h2⟩ := ih (h.1 ((m_holds_iff c).mp hc))
            exact ⟨n + 1, q, by unfold m_exec; try dsimp only; rw [hsr]; try dsimp only; rw [hc]; exact h1, h2⟩
        | 2, hsr, h =>
          try dsimp only at h
          obtain ⟨n, q, h1, h2⟩ := ih h.2
          exact ⟨n + 1, q, by unfold m_exec; try dsimp only; rw [hsr]; try dsimp only; rw [(m_holds_iff c).mpr h.1]; exact h1, h2⟩
        | 3, hsr, h =>
          try dsimp only at h
          obtain ⟨hc, n, q, h1, h2⟩ := h
          obtain ⟨n', q', h3, h4⟩ := h2
          refine ⟨max n n' + 1, q', ?_, h4⟩
          unfold m_exec; try dsimp only; rw [hsr]; try dsimp only; rw [(m_holds_iff c).mpr hc]
          try dsimp only [cond_true]
          refine Option.bind_eq_some_iff.mpr ⟨q, ?_, m_mono (Nat.le_max_right n n') h3⟩
          cases hm : Nat.beq m' mLman
          · rw [hm] at h1; exact m_mono (Nat.le_max_left n n') h1
          · rw [hm] at h1; exact m_man_mono (ex := m_exec n mMan) (fun f q hq => m_mono (Nat.le_max_left n n') hq) h1
        | 4, hsr, h =>
          try dsimp only at h
          exact ⟨1, (as, m_mem s1), by unfold m_exec; try dsimp only; rw [hsr]; try dsimp only; rw [(m_holds_iff c).mpr h.1]; rfl, h.2⟩
        | 5, hsr, h =>

          try dsimp only at h
          obtain ⟨n, q, h1, h2⟩ := ih (m_swp_sel (K := fun t => m_wp k cs m true (m_at s1 (m_seek (mcd m) t)) Q) _ h)
          exact ⟨n + 1, q, by unfold m_exec; try dsimp only; rw [hsr]; exact h1, h2⟩
        | 6, hsr, h =>
          try dsimp only at h
          obtain ⟨n, q, h1, h2⟩ := h
          obtain ⟨n', q', h3, h4⟩ := h2
          refine ⟨max n n' + 1, q', ?_, h4⟩
          unfold m_exec; try dsimp only; rw [hsr]; try dsimp only
          exact Option.bind_eq_some_iff.mpr ⟨q, m_mono (Nat.le_max_left n n') h1, m_mono (Nat.le_max_right n n') h3⟩
        | 7, hsr, h =>
          exact ⟨1, (as, m_mem s1), by unfold m_exec; try dsimp only; rw [hsr]; rfl, h⟩
        | _ + 8, _, h => exact h.elim
      · rw [hb] at h
        obtain ⟨n, q, h1, h2⟩ := h
        have hn : e.2.1 = .nop := by
          simp only [Bool.and_eq_true] at hb
          have h3 := hb.1.2
          unfold m_isNop at h3
          split at h3
          · next h4 => exact h4
          · cases h3
        refine ⟨n, q, ?_, h2⟩
        cases n with
        | zero => cases h1
        | succ n =>
          obtain ⟨pc, i, ln, e1, e2, e3, z⟩ := e
          try dsimp only at hn
          subst hn
          unfold m_exec at h1 ⊢
          unfold m_step mgo at h1 ⊢
          try dsimp only at h1 ⊢
          rw [m_keep_idem] at h1
          exact h1
/-- a method from its entry, a run from a cut -/
theorem m_call_of (k : Nat) (cs : List Nat) {m : Nat} {as : List mV} {M : mM} {Q : List mV → mM → Prop} (h : m_wp k cs m false (mcd m, 0, 0, m_ent 0 as, [], M) Q) : m_Call m as M Q := m_wp_sound k h
theorem m_wp_of (k : Nat) (cs : List Nat) {m pc kc ks : Nat} {lv : List (Nat × mV)} {st : List mV} {M : mM} {Q : List mV → mM → Prop} (h : m_wp k cs m false (m_seek (mcd m) pc, kc, ks, lv, st, M) Q) : m_Wp m pc kc ks lv st M Q := m_wp_sound k h
end
section
/-! ===== the memory once all is made: what each reference is, where references lead ===== -/
def sh0 (Ls k : Nat) : Nat × Nat := bif Nat.blt k 2 then (bif Nat.beq k 1 then (98, Ls) else (99, 0)) else bif Nat.blt k 144 then (bif Nat.blt k 76 then (bif Nat.blt k 33 then (bif Nat.blt k 15 then (bif Nat.blt k 6 then (bif Nat.blt k 4 then (bif Nat.blt k 3 then (13, 0) else (7, 0)) else (bif Nat.blt k 5 then (5, 0) else (11, 0))) else (bif Nat.blt k 8 then (bif Nat.blt k 7 then (2, 700) else (0, 20)) else (bif Nat.blt k 9 then (0, 72) else (bif Nat.blt k 10 then (9, 0) else (0, 6))))) else (bif Nat.blt k 25 then (bif Nat.blt k 20 then (bif Nat.blt k 17 then (0, 10) else (0, 6)) else (bif Nat.blt k 22 then (0, 3) else (bif Nat.blt k 23 then (6, 0) else (0, 64)))) else (bif Nat.blt k 28 then (bif Nat.blt k 27 then (0, 3) else (1, 64)) else (bif Nat.blt k 29 then (4, 0) else (bif Nat.blt k 32 then (0, 6) else (0, 20)))))) else (bif Nat.blt k 55 then (bif Nat.blt k 42 then (bif Nat.blt k 38 then (bif Nat.blt k 37 then (0, 6) else (4, 0)) else (bif Nat.blt k 41 then (0, 6) else (0, 20))) else (bif Nat.blt k 47 then (bif Nat.blt k 46 then (0, 6) else (4, 0)) else (bif Nat.blt k 50 then (0, 6) else (bif Nat.blt k 51 then (0, 20) else (0, 6))))) else (bif Nat.blt k 65 then (bif Nat.blt k 59 then (bif Nat.blt k 56 then (4, 0) else (0, 6)) else (bif Nat.blt k 60 then (0, 20) else (bif Nat.blt k 64 then (0, 6) else (12, 0)))) else (bif Nat.blt k 68 then (bif Nat.blt k 67 then (0, 6) else (1, 7)) else (bif Nat.blt k 69 then (9, 0) else (bif Nat.blt k 74 then (0, 6) else (0, 10))))))) else (bif Nat.blt k 113 then (bif Nat.blt k 94 then (bif Nat.blt k 84 then (bif Nat.blt k 81 then (bif Nat.blt k 79 then (0, 6) else (0, 3)) else (bif Nat.blt k 82 then (6, 0) else (0, 64))) else (bif Nat.blt k 87 then (bif Nat.blt k 86 then (0, 3) else (1, 64)) else (bif Nat.blt k 88 then (10, 0) else (bif Nat.blt k 92 then (0, 24) else (3, 24))))) else (bif Nat.blt k 101 then (bif Nat.blt k 98 then (bif Nat.blt k 95 then (8, 0) else (0, 20)) else (bif Nat.blt k 99 then (14, 0) else (bif Nat.blt k 100 then (0, 700) else (0, 100)))) else (bif Nat.blt k 103 then (bif Nat.blt k 102 then (3, 2) else (0, 4)) else (bif Nat.blt k 108 then (0, 12) else (bif Nat.blt k 110 then (0, 20) else (0, 12)))))) else (bif Nat.blt k 133 then (bif Nat.blt k 123 then (bif Nat.blt k 116 then (bif Nat.blt k 115 then (0, 6) else (3, 6)) else (bif Nat.blt k 118 then (0, 6) else (bif Nat.blt k 121 then (0, 128) else (0, 96)))) else (bif Nat.blt k 125 then (bif Nat.blt k 124 then (1, 7) else (1, 64)) else (bif Nat.blt k 129 then (0, 12) else (bif Nat.blt k 130 then (0, 40) else (0, 2))))) else (bif Nat.blt k 139 then (bif Nat.blt k 135 then (bif Nat.blt k 134 then (0, 12) else (0, 24)) else (bif Nat.blt k 136 then (0, 12) else (bif Nat.blt k 138 then (0, 2) else (0, 96)))) else (bif Nat.blt k 141 then (bif Nat.blt k 140 then (3, 24) else (0, 940)) else (bif Nat.blt k 142 then (0, 47) else (bif Nat.blt k 143 then (0, 26) else (1, 1)))))))) else (99, 0)
def R_2 (p j : Nat) : Nat := bif Nat.blt j 14 then (bif Nat.blt j 7 then (bif Nat.blt j 3 then (bif Nat.blt j 1 then 3 else (bif Nat.blt j 2 then 6 else 28)) else (bif Nat.blt j 5 then (bif Nat.blt j 4 then 37 else 46) else (bif Nat.blt j 6 then 55 else 64))) else (bif Nat.blt j 10 then (bif Nat.blt j 8 then 87 else (bif Nat.blt j 9 then 94 else p)) else 0)) else 0
def R_3 (p j : Nat) : Nat := bif Nat.blt j 9 then (bif Nat.blt j 4 then (bif Nat.blt j 2 then (Nat.add j 4) else (bif Nat.blt j 3 then (77 - p) else 0)) else 0) else 0
def R_4 (p j : Nat) : Nat := bif Nat.blt j 5 then (bif Nat.blt j 2 then (bif Nat.blt j 1 then 5 else 8) else 0) else 0
def R_5 (p j : Nat) : Nat := bif Nat.blt j 8 then (bif Nat.blt j 4 then (bif Nat.blt j 2 then (Nat.add j 6) else 0) else 0) else 0
def R_9 (p j : Nat) : Nat := bif Nat.blt j 19 then (bif Nat.blt j 13 then (Nat.add j 10) else 0) else 0
def R_22 (p j : Nat) : Nat := bif Nat.blt j 7 then (bif Nat.blt j 5 then (Nat.add j 23) else 0) else 0
def R_28 (p j : Nat) : Nat := bif Nat.blt j 16 then (bif Nat.blt j 8 then (Nat.add j 29) else 0) else 0
def R_37 (p j : Nat) : Nat := bif Nat.blt j 16 then (bif Nat.blt j 8 then (Nat.add j 38) else 0) else 0
def R_46 (p j : Nat) : Nat := bif Nat.blt j 16 then (bif Nat.blt j 8 then (Nat.add j 47) else 0) else 0
def R_55 (p j : Nat) : Nat := bif Nat.blt j 16 then (bif Nat.blt j 8 then (Nat.add j 56) else 0) else 0
def R_64 (p j : Nat) : Nat := bif Nat.blt j 9 then (bif Nat.blt j 3 then (Nat.add j 65) else (bif Nat.blt j 6 then (bif Nat.blt j 4 then p else 0) else 0)) else 0
def R_68 (p j : Nat) : Nat := bif Nat.blt j 19 then (bif Nat.blt j 13 then (Nat.add j 69) else 0) else 0
def R_81 (p j : Nat) : Nat := bif Nat.blt j 7 then (bif Nat.blt j 5 then (Nat.add j 82) else 0) else 0
def R_87 (p j : Nat) : Nat := bif Nat.blt j 8 then (bif Nat.blt j 6 then (Nat.add j 88) else 0) else 0
def R_94 (p j : Nat) : Nat := bif Nat.blt j 4 then (bif Nat.blt j 3 then (Nat.add j 95) else 0) else 0
def R_98 (p j : Nat) : Nat := bif Nat.blt j 85 then (bif Nat.blt j 42 then (bif Nat.blt j 21 then (bif Nat.blt j 10 then (bif Nat.blt j 5 then (bif Nat.blt j 2 then (bif Nat.blt j 1 then 99 else 0) else (bif Nat.blt j 3 then 0 else (bif Nat.blt j 4 then 100 else 0))) else 0) else 0) else (bif Nat.blt j 31 then (bif Nat.blt j 26 then (bif Nat.blt j 23 then (bif Nat.blt j 22 then 0 else 101) else (Nat.add j 79)) else (Nat.add j 79)) else (Nat.add j 79))) else (bif Nat.blt j 63 then (bif Nat.blt j 52 then (bif Nat.blt j 47 then (bif Nat.blt j 44 then (Nat.add j 79) else 0) else (bif Nat.blt j 49 then 0 else (bif Nat.blt j 50 then 0 else (Nat.add j 73)))) else (bif Nat.blt j 57 then (bif Nat.blt j 54 then (bif Nat.blt j 53 then 0 else 125) else (Nat.add j 72)) else (Nat.add j 72))) else (bif Nat.blt j 66 then (Nat.add j 72) else (bif Nat.blt j 75 then 0 else (bif Nat.blt j 80 then (bif Nat.blt j 77 then 0 else (bif Nat.blt j 78 then 138 else (bif Nat.blt j 79 then 139 else 0))) else (bif Nat.blt j 82 then (bif Nat.blt j 81 then 140 else 0) else (bif Nat.blt j 83 then 141 else (bif Nat.blt j 84 then 142 else 0)))))))) else 0
def R0 (p k j : Nat) : Nat := (bif Nat.blt k 46 then (bif Nat.blt k 9 then (bif Nat.blt k 4 then (bif Nat.blt k 3 then (bif Nat.beq k 2 then R_2 p j else 0) else (bif Nat.beq k 3 then R_3 p j else 0)) else (bif Nat.blt k 5 then (bif Nat.beq k 4 then R_4 p j else 0) else (bif Nat.beq k 5 then R_5 p j else 0))) else (bif Nat.blt k 28 then (bif Nat.blt k 22 then (bif Nat.beq k 9 then R_9 p j else 0) else (bif Nat.beq k 22 then R_22 p j else 0)) else (bif Nat.blt k 37 then (bif Nat.beq k 28 then R_28 p j else 0) else (bif Nat.beq k 37 then R_37 p j else 0)))) else (bif Nat.blt k 81 then (bif Nat.blt k 64 then (bif Nat.blt k 55 then (bif Nat.beq k 46 then R_46 p j else 0) else (bif Nat.beq k 55 then R_55 p j else 0)) else (bif Nat.blt k 68 then (bif Nat.beq k 64 then R_64 p j else 0) else (bif Nat.beq k 68 then R_68 p j else 0))) else (bif Nat.blt k 94 then (bif Nat.blt k 87 then (bif Nat.beq k 81 then R_81 p j else 0) else (bif Nat.beq k 87 then R_87 p j else 0)) else (bif Nat.blt k 98 then (bif Nat.beq k 94 then R_94 p j else 0) else (bif Nat.beq k 98 then R_98 p j else 0)))))
/-- the memory behind the making: the script of Ls ints, the plan p (68 or 9) in use, ints and longs -/
def mem (Ls p : Nat) (I L : Nat → Nat → Int) : mM := (144, sh0 Ls, R0 p, I, L)
end
section
/-! ===== what a program decides of the code: each instruction is there, each word that it needs stands in the tables ===== -/
def gT : List Cond := lw_tbl.filter goodWord
theorem gT_in {w : Cond} (h : w ∈ gT) : w ∈ lw_tbl := (List.mem_filter.mp h).1
theorem gT_good {w : Cond} (h : w ∈ gT) : goodWord w = true := (List.mem_filter.mp h).2
/-- the tables by their pieces: a place is ten thousand times the piece, and the place in it -/
def m_tb (k : Nat) : List Cond := match k with
  | 0 => k2_sels lw_privs
  | 1 => tables_1_1
  | 2 => tables_1_2
  | 3 => tables_1_3
  | 4 => tables_1_4
  | 5 => tables_1_5
  | 6 => tables_1_6
  | 7 => tables_1_7
  | 8 => tables_1_8
  | 9 => tables_1_9
  | _ => []
theorem m_tb_in {k : Nat} {w : Cond} (h : w ∈ m_tb k) : w ∈ lw_tbl := by
  unfold m_tb at h
  unfold lw_tbl tables_1
  split at h <;> simp only [List.mem_append] <;> first | (simp only [h, true_or, or_true]; done) | (cases h; done)
def m_has (p : Nat) (w : Cond) : Bool := decide ((m_tb (p / 10000))[p % 10000]? = some w) && goodWord w
theorem m_has_in {p : Nat} {w : Cond} (h : m_has p w = true) : w ∈ gT := by
  unfold m_has at h
  rw [Bool.and_eq_true] at h
  exact List.mem_filter.mpr ⟨m_tb_in (List.mem_of_getElem? (of_decide_eq_true h.1)), h.2⟩
def m_hasN (p : Nat) (w : Cond) : Bool := decide ((m_tb (p / 10000))[p % 10000]? = some w)
theorem m_hasN_in {p : Nat} {w : Cond} (h : m_hasN p w = true) : w ∈ lw_tbl := m_tb_in (List.mem_of_getElem? (of_decide_eq_true h))
def m_cl (k : Nat) : vw_C := vwCl.getD k (RX0, TX0, 16)
def m_ty (k j : Nat) : FieldType := match k with
  | 0 => tyX0 j
  | 1 => tyX1 j
  | 2 => tyX2 j
  | 3 => tyX3 j
  | 4 => tyX4 j
  | 5 => tyX5 j
  | 6 => tyX6 j
  | 7 => tyX7 j
  | 8 => tyX8 j
  | 9 => tyX9 j
  | _ => tyX10 j
def m_tc (t : FieldType) : Nat := match t with
  | .int => 0
  | .long => 1
  | .boolean => 3
  | _ => 2
def m_ilen (i : Instr) : Nat := match i with
  | .iconst _ => 1
  | .bipush _ => 2
  | .sipush _ => 3
  | .lconst _ => 1
  | .ldc2_w _ => 3
  | .ldc _ => 2
  | .ldc_w _ => 3
  | .iload_n _ => 1
  | .lload_n _ => 1
  | .aload_n _ => 1
  | .istore_n _ => 1
  | .lstore_n _ => 1
  | .astore_n _ => 1
  | .iload _ => 2
  | .lload _ => 2
  | .aload _ => 2
  | .istore _ => 2
  | .lstore _ => 2
  | .astore _ => 2
  | .iinc _ _ => 3
  | .goto _ => 3
  | .ifCond _ _ => 3
  | .if_icmp _ _ => 3
  | .getfield _ => 3
  | .putfield _ => 3
  | .new _ => 3
  | .newarray _ => 2
  | .invokespecial _ => 3
  | .invokevirtual _ => 3
  | .invokestatic _ => 3
  | _ => 1
def m_okF (own : String) (idx e1 e2 e3 p : Nat) : Bool := Nat.ble 4 e1 && Nat.blt e1 15 && Nat.blt e2 (m_cl (e1 - 4)).2.2 && Nat.beq e3 (m_tc (m_ty (e1 - 4) e2)) && m_has p (.fieldLink own idx ((m_cl (e1 - 4)).2.1 e2).1 ((m_cl (e1 - 4)).2.1 e2).2.1 ((m_cl (e1 - 4)).2.1 e2).2.2.1)
def m_okFin (m e1 e2 : Nat) : Bool := !((m_cl (e1 - 4)).2.1 e2).2.2.2 || (decide ((mY m).name = "<init>") && decide (((m_cl (e1 - 4)).2.1 e2).1 = (mY m).cls))
/-- what is owed for a method once: its words -/
def m_okM (m : Nat) : Bool := m_has (mPl m).1 (.code (mY m) (mB m) (mL m) (mRt m)) && m_has (mPl m).2.2.2 (.initialized (mY m).cls) &&
  (bif mSt m then m_has (mPl m).2.1 (.static (mY m)) else m_has (mPl m).2.1 (.instanceMethod (mY m)) && (decide ((mY m).name = "<init>") || m_has (mPl m).2.2.1 (.selects (mY m).cls (mY m) (mY m)))) &&
  decide ((mY m).cls ≠ "java/lang/invoke/MethodHandle") && decide ((mY m).cls ≠ "java/lang/invoke/VarHandle") && decide ((parseMethodDescriptor (mY m).desc).map (fun d => d.parameters.length) = some (mN m)) && plainName (mY m).cls
def m_okRoom (m c : Nat) : Bool := Nat.ble (mFr c + 1) (mFr m) && Nat.ble (8 + (mL c + 11) + mLo c) (mLo m)
def m_okLink (m idx e1 e3 : Nat) (z : Int) : Bool := bif Nat.blt e3 1000 then m_has z.toNat (.methodLink (mY m).cls idx (mY e1)) else m_hasN z.toNat (.methodLinkNest (mY m).cls idx (mY e1) "SpeakClock")
def m_mY (b : Nat) : MethodName × ByteArray × Nat × Option FieldType := match b with
  | 1000 => (Lib.Math.max.name, Lib.Math.max.code, 2, some .int)
  | 1001 => (Lib.Math.min.name, Lib.Math.min.code, 2, some .int)
  | 1002 => (Lib.Math.abs.name, Lib.Math.abs.code, 1, some .int)
  | 1003 => (Lib.MathLoose.max_long.x, Lib.MathLoose.max_long.code, 4, some .long)
  | 1004 => (Lib.MathLoose.min_long.x, Lib.MathLoose.min_long.code, 4, some .long)
  | _ => (Lib.MathLoose.abs_long.x, Lib.MathLoose.abs_long.code, 2, some .long)
def m_okX (m : Nat) (e : mE) : Bool := match e with
  | (pc, i, _, e1, e2, e3, z) => (match i with
    | .iconst n => decide (wr z = z) && decide (Int32.ofInt n = Int32.ofInt z)
    | .bipush n => decide (wr z = z) && decide ((Int8.ofInt n).toInt32 = Int32.ofInt z)
    | .sipush n => decide (wr z = z) && decide ((Int16.ofInt n).toInt32 = Int32.ofInt z)
    | .lconst n => decide (wl z = z) && decide (Int64.ofNat n.val = Int64.ofInt z)
    | .ldc2_w idx => decide (wl z = z) && m_has e1 (.constantLong (mY m).cls idx (Int64.ofInt z))
    | .ldc idx => bif Nat.beq e1 999999 then decide ((mY m).cls = "SpeakClock$Tokens") && Nat.beq idx 38 else decide (wr z = z) && m_has e1 (.constant (mY m).cls idx (Int32.ofInt z))
    | .ldc_w idx => decide (wr z = z) && m_has e1 (.constant (mY m).cls idx (Int32.ofInt z))
    | .istore_n k => Nat.blt k.val (mL m)
    | .istore k => Nat.blt k (mL m)
    | .astore_n k => Nat.blt k.val (mL m)
    | .astore k => Nat.blt k (mL m)
    | .lstore_n k => Nat.blt (k.val + 1) (mL m)
    | .lstore k => Nat.blt (k + 1) (mL m)
    | .iinc k c => Nat.blt k (mL m)
    | .goto o => decide ((pc : Int) + o = (e1 : Int))
    | .ifCond _ o => decide ((pc : Int) + o = (e1 : Int))
    | .if_icmp _ o => decide ((pc : Int) + o = (e1 : Int))
    | .getfield idx => m_okF (mY m).cls idx e1 e2 e3 z.toNat
    | .putfield idx => m_okF (mY m).cls idx e1 e2 e3 z.toNat && m_okFin m e1 e2
    | .new idx => Nat.ble 4 e1 && Nat.blt e1 15 && Nat.beq e2 (m_cl (e1 - 4)).2.2 && m_has z.toNat (.classLink (mY m).cls idx (m_cl (e1 - 4)).1)
    | .newarray a => (match e1 with
      | 0 => decide (newarray.typeOf a = .int)
      | 1 => decide (newarray.typeOf a = .long)
      | 2 => decide (newarray.typeOf a = .byte)
      | 3 => decide (newarray.typeOf a = .boolean)
      | _ => false) && m_has z.toNat (.arrayClass (newarray.typeOf a))
    | .invokespecial idx => bif Nat.beq e1 1008 then m_has z.toNat (.methodLink (mY m).cls idx Lib.objectInit) && Nat.ble 1 (mFr m) && Nat.ble 20 (mLo m)
        else Nat.blt e1 m && !(mSt e1) && decide ((mY e1).name = "<init>") && Nat.beq e2 (mN e1 + 1) && m_okLink m idx e1 e3 z && m_okRoom m e1 && decide (mRt e1 = none)
    | .invokevirtual idx => bif Nat.beq e1 1007 then m_has z.toNat (.methodLink (mY m).cls idx ⟨"java/lang/String", "charAt", "(I)C"⟩) && Nat.ble 5 (mFr m) && Nat.ble 120 (mLo m)
        else Nat.blt e1 m && !(mSt e1) && !(decide ((mY e1).name = "<init>")) && Nat.beq e2 (mN e1 + 1) && Nat.ble 4 e3 && Nat.blt e3 15 && decide ((m_cl (e3 - 4)).1 = (mY e1).cls) && m_okLink m idx e1 e3 z && m_okRoom m e1
    | .invokestatic idx => bif Nat.blt e1 1000 then
          (bif Nat.beq e1 mLman then m_has z.toNat (.methodLink (mY m).cls idx (mY e1)) && Nat.beq e2 4 && m_okRoom m e1
           else Nat.blt e1 m && mSt e1 && Nat.beq e2 (mN e1) && m_okLink m idx e1 e3 z && m_okRoom m e1)
        else bif Nat.beq e1 1006 then m_has z.toNat (.methodLink (mY m).cls idx arraycopyName) && Nat.ble 1 (mFr m) && Nat.ble 40 (mLo m)
        else Nat.blt e1 1006 && m_has z.toNat (.methodLink (mY m).cls idx (m_mY e1).1) && Nat.ble 1 (mFr m) && Nat.ble 24 (mLo m)
    | .ireturn => bif Nat.beq e1 1 then decide (mRt m = some .boolean) else decide (mRt m = some .int)
    | .lreturn => decide (mRt m = some .long)
    | .return_ => decide (mRt m = none)
    | _ => true)
def m_okE (m : Nat) (e : mE) : Bool := match e with
  | (pc, i, len, e1, e2, e3, z) => (match i with
    | .nop => Nat.beq len 0
    | .athrow => true
    | .tableswitch d lo hi offs => decide (decode (mB m) pc = .ok (i, len)) && decide ((pc : Int) + d = (e1 : Int)) && (mSw e2).all (fun q => decide (lo ≤ q.1 ∧ q.1 ≤ hi)) &&
        (List.range (hi - lo + 1).toNat).all (fun k => match offs[k]? with
          | some o => decide ((pc : Int) + o = ((m_sel (mSw e2) (lo + k) e1 : Nat) : Int))
          | none => false)
    | _ => decide (decode (mB m) pc = .ok (i, len)) && Nat.beq len (m_ilen i) && m_okX m e)
/-- what doesn't go on to the next instruction -/
def m_term (i : Instr) : Bool := match i with
  | .goto _ => true
  | .athrow => true
  | .ireturn => true
  | .lreturn => true
  | .return_ => true
  | .tableswitch _ _ _ _ => true
  | _ => false
def m_chain : List mE → Bool
  | [] => true
  | e :: r => (match r with
    | [] => true
    | e' :: _ => m_term e.2.1 || Nat.beq e'.1 (e.1 + e.2.2.1)) && m_chain r
def m_okL (m : Nat) (l : List mE) : Bool := l.all (m_okE m) && m_chain l
theorem m_chunks {l : List mE} {f : mE → Bool} (c : Nat) : ∀ (n : Nat) (i : Nat), l.length ≤ i + n * c → (∀ k, k < n → ((l.drop (i + c * k)).take c).all f = true) → (l.drop i).all f = true := by
  intro n
  induction n with
  | zero =>
    intro i hl _
    rw [List.drop_eq_nil_of_le (by omega)]
    rfl
  | succ n ih =>
    intro i hl h
    have h0 := h 0 (Nat.zero_lt_succ _)
    have h1 := ih (i + c) (by rw [Nat.succ_mul] at hl; omega) (fun k hk => by
      have h2 := h (k + 1) (by omega)
      rw [show i + c + c * k = i + c * (k + 1) by rw [Nat.mul_succ]; omega]
      exact h2)
    rw [Nat.mul_zero, Nat.add_zero] at h0
    rw [← List.take_append_drop c (l.drop i), List.all_append, h0, List.drop_drop, h1]
    rfl
theorem m_okL_of {m : Nat} {l : List mE} (c n : Nat) (hl : l.length ≤ 0 + n * c) (h : ∀ k, k < n → ((l.drop (0 + c * k)).take c).all (m_okE m) = true) (hc : m_chain l = true) : m_okL m l = true := by
  have h1 := m_chunks c n 0 hl h
  rw [List.drop_zero] at h1
  unfold m_okL
  rw [h1, hc]
  rfl
end
section
theorem ok_Tokens_init : m_okL i_Tokens_init (mcd i_Tokens_init) = true := by decide +kernel
theorem ok_LawReader_init : m_okL i_LawReader_init (mcd i_LawReader_init) = true := by decide +kernel
theorem ok_Laws_init : m_okL i_Laws_init (mcd i_Laws_init) = true := by decide +kernel
theorem ok_Plan_init : m_okL i_Plan_init (mcd i_Plan_init) = true := by decide +kernel
theorem ok_LineReader_init : m_okL i_LineReader_init (mcd i_LineReader_init) = true := by decide +kernel
theorem ok_Day_init : m_okL i_Day_init (mcd i_Day_init) = true := by decide +kernel
theorem ok_Way_init : m_okL i_Way_init (mcd i_Way_init) = true := by decide +kernel
theorem ok_Seen_init : m_okL i_Seen_init (mcd i_Seen_init) = true := by decide +kernel
theorem ok_Log_init : m_okL i_Log_init (mcd i_Log_init) = true := by decide +kernel
theorem ok_C_init : m_okL i_C_init (mcd i_C_init) = true := by decide +kernel
theorem ok_M_plain : m_okL i_M_plain (mcd i_M_plain) = true := by decide +kernel
theorem ok_M_copies : m_okL i_M_copies (mcd i_M_copies) = true := by decide +kernel
theorem ok_M_atFirst : m_okL i_M_atFirst (mcd i_M_atFirst) = true := by decide +kernel
theorem ok_M_plainTried : m_okL i_M_plainTried (mcd i_M_plainTried) = true := by decide +kernel
theorem ok_M_begin : m_okL i_M_begin (mcd i_M_begin) = true := by decide +kernel
theorem ok_M_keepText : m_okL i_M_keepText (mcd i_M_keepText) = true := by decide +kernel
theorem ok_M_init_0 : (((mcd i_M_init).drop (0 + 40 * 0)).take 40).all (m_okE i_M_init) = true := by decide +kernel
theorem ok_M_init_1 : (((mcd i_M_init).drop (0 + 40 * 1)).take 40).all (m_okE i_M_init) = true := by decide +kernel
theorem ok_M_init_2 : (((mcd i_M_init).drop (0 + 40 * 2)).take 40).all (m_okE i_M_init) = true := by decide +kernel
theorem ok_M_init_3 : (((mcd i_M_init).drop (0 + 40 * 3)).take 40).all (m_okE i_M_init) = true := by decide +kernel
theorem ok_M_init_4 : (((mcd i_M_init).drop (0 + 40 * 4)).take 40).all (m_okE i_M_init) = true := by decide +kernel
theorem ok_M_init_5 : (((mcd i_M_init).drop (0 + 40 * 5)).take 40).all (m_okE i_M_init) = true := by decide +kernel
theorem ok_M_init_6 : (((mcd i_M_init).drop (0 + 40 * 6)).take 40).all (m_okE i_M_init) = true := by decide +kernel
theorem ok_M_init_7 : (((mcd i_M_init).drop (0 + 40 * 7)).take 40).all (m_okE i_M_init) = true := by decide +kernel
theorem ok_M_init_8 : (((mcd i_M_init).drop (0 + 40 * 8)).take 40).all (m_okE i_M_init) = true := by decide +kernel
theorem ok_M_init_9 : (((mcd i_M_init).drop (0 + 40 * 9)).take 40).all (m_okE i_M_init) = true := by decide +kernel
theorem ok_M_init_10 : (((mcd i_M_init).drop (0 + 40 * 10)).take 40).all (m_okE i_M_init) = true := by decide +kernel
theorem ok_M_init_11 : (((mcd i_M_init).drop (0 + 40 * 11)).take 40).all (m_okE i_M_init) = true := by decide +kernel
theorem ok_M_init_12 : (((mcd i_M_init).drop (0 + 40 * 12)).take 40).all (m_okE i_M_init) = true := by decide +kernel
theorem ok_M_init_13 : (((mcd i_M_init).drop (0 + 40 * 13)).take 40).all (m_okE i_M_init) = true := by decide +kernel
theorem ok_M_init_14 : (((mcd i_M_init).drop (0 + 40 * 14)).take 40).all (m_okE i_M_init) = true := by decide +kernel
end
section
theorem ok_M_init_c : m_chain (mcd i_M_init) = true := by decide +kernel
theorem ok_M_init_l : (mcd i_M_init).length ≤ 0 + 15 * 40 := by decide +kernel
theorem ok_M_init : m_okL i_M_init (mcd i_M_init) = true := m_okL_of 40 15 ok_M_init_l (fun k hk => match k, hk with
  | 0, _ => ok_M_init_0
  | 1, _ => ok_M_init_1
  | 2, _ => ok_M_init_2
  | 3, _ => ok_M_init_3
  | 4, _ => ok_M_init_4
  | 5, _ => ok_M_init_5
  | 6, _ => ok_M_init_6
  | 7, _ => ok_M_init_7
  | 8, _ => ok_M_init_8
  | 9, _ => ok_M_init_9
  | 10, _ => ok_M_init_10
  | 11, _ => ok_M_init_11
  | 12, _ => ok_M_init_12
  | 13, _ => ok_M_init_13
  | 14, _ => ok_M_init_14
  | _ + 15, hk => absurd hk (by omega)) ok_M_init_c
theorem ok_C_tapeFour : m_okL i_C_tapeFour (mcd i_C_tapeFour) = true := by decide +kernel
theorem ok_C_feed : m_okL i_C_feed (mcd i_C_feed) = true := by decide +kernel
theorem ok_M_feed : m_okL i_M_feed (mcd i_M_feed) = true := by decide +kernel
theorem ok_Laws_clear : m_okL i_Laws_clear (mcd i_Laws_clear) = true := by decide +kernel
theorem ok_Plan_clear : m_okL i_Plan_clear (mcd i_Plan_clear) = true := by decide +kernel
theorem ok_Tokens_isLetter : m_okL i_Tokens_isLetter (mcd i_Tokens_isLetter) = true := by decide +kernel
theorem ok_Tokens_wordKind : m_okL i_Tokens_wordKind (mcd i_Tokens_wordKind) = true := by decide +kernel
theorem ok_Tokens_readWord : m_okL i_Tokens_readWord (mcd i_Tokens_readWord) = true := by decide +kernel
theorem ok_Tokens_isDigit : m_okL i_Tokens_isDigit (mcd i_Tokens_isDigit) = true := by decide +kernel
theorem ok_Tokens_readNumber : m_okL i_Tokens_readNumber (mcd i_Tokens_readNumber) = true := by decide +kernel
theorem ok_Tokens_signKind : m_okL i_Tokens_signKind (mcd i_Tokens_signKind) = true := by decide +kernel
theorem ok_Tokens_lengthenSign : m_okL i_Tokens_lengthenSign (mcd i_Tokens_lengthenSign) = true := by decide +kernel
theorem ok_Tokens_advance : m_okL i_Tokens_advance (mcd i_Tokens_advance) = true := by decide +kernel
theorem ok_Tokens_begin : m_okL i_Tokens_begin (mcd i_Tokens_begin) = true := by decide +kernel
theorem ok_LineReader_fails : m_okL i_LineReader_fails (mcd i_LineReader_fails) = true := by decide +kernel
theorem ok_Plan_numberOf : m_okL i_Plan_numberOf (mcd i_Plan_numberOf) = true := by decide +kernel
theorem ok_LineReader_readsNumber : m_okL i_LineReader_readsNumber (mcd i_LineReader_readsNumber) = true := by decide +kernel
theorem ok_LineReader_skipsMinus : m_okL i_LineReader_skipsMinus (mcd i_LineReader_skipsMinus) = true := by decide +kernel
theorem ok_LineReader_readsMan_0 : (((mcd i_LineReader_readsMan).drop (0 + 40 * 0)).take 40).all (m_okE i_LineReader_readsMan) = true := by decide +kernel
theorem ok_LineReader_readsMan_1 : (((mcd i_LineReader_readsMan).drop (0 + 40 * 1)).take 40).all (m_okE i_LineReader_readsMan) = true := by decide +kernel
theorem ok_LineReader_readsMan_2 : (((mcd i_LineReader_readsMan).drop (0 + 40 * 2)).take 40).all (m_okE i_LineReader_readsMan) = true := by decide +kernel
theorem ok_LineReader_readsMan_3 : (((mcd i_LineReader_readsMan).drop (0 + 40 * 3)).take 40).all (m_okE i_LineReader_readsMan) = true := by decide +kernel
theorem ok_LineReader_readsMan_c : m_chain (mcd i_LineReader_readsMan) = true := by decide +kernel
theorem ok_LineReader_readsMan_l : (mcd i_LineReader_readsMan).length ≤ 0 + 4 * 40 := by decide +kernel
theorem ok_LineReader_readsMan : m_okL i_LineReader_readsMan (mcd i_LineReader_readsMan) = true := m_okL_of 40 4 ok_LineReader_readsMan_l (fun k hk => match k, hk with
  | 0, _ => ok_LineReader_readsMan_0
  | 1, _ => ok_LineReader_readsMan_1
  | 2, _ => ok_LineReader_readsMan_2
  | 3, _ => ok_LineReader_readsMan_3
  | _ + 4, hk => absurd hk (by omega)) ok_LineReader_readsMan_c
theorem ok_LineReader_readsEnd : m_okL i_LineReader_readsEnd (mcd i_LineReader_readsEnd) = true := by decide +kernel
theorem ok_LineReader_readsPerson : m_okL i_LineReader_readsPerson (mcd i_LineReader_readsPerson) = true := by decide +kernel
theorem ok_LineReader_readsRing : m_okL i_LineReader_readsRing (mcd i_LineReader_readsRing) = true := by decide +kernel
theorem ok_LineReader_readsMeet : m_okL i_LineReader_readsMeet (mcd i_LineReader_readsMeet) = true := by decide +kernel
theorem ok_LineReader_readsCold : m_okL i_LineReader_readsCold (mcd i_LineReader_readsCold) = true := by decide +kernel
theorem ok_LineReader_readsCrowd : m_okL i_LineReader_readsCrowd (mcd i_LineReader_readsCrowd) = true := by decide +kernel
theorem ok_LineReader_readsSeed : m_okL i_LineReader_readsSeed (mcd i_LineReader_readsSeed) = true := by decide +kernel
theorem ok_Laws_isTold : m_okL i_Laws_isTold (mcd i_Laws_isTold) = true := by decide +kernel
theorem ok_LawReader_levelOf : m_okL i_LawReader_levelOf (mcd i_LawReader_levelOf) = true := by decide +kernel
theorem ok_Laws_add : m_okL i_Laws_add (mcd i_Laws_add) = true := by decide +kernel
theorem ok_LawReader_unpile : m_okL i_LawReader_unpile (mcd i_LawReader_unpile) = true := by decide +kernel
theorem ok_LawReader_pileUp : m_okL i_LawReader_pileUp (mcd i_LawReader_pileUp) = true := by decide +kernel
theorem ok_LawReader_topLevel : m_okL i_LawReader_topLevel (mcd i_LawReader_topLevel) = true := by decide +kernel
theorem ok_LawReader_pilesKnot : m_okL i_LawReader_pilesKnot (mcd i_LawReader_pilesKnot) = true := by decide +kernel
theorem ok_LawReader_takesValue : m_okL i_LawReader_takesValue (mcd i_LawReader_takesValue) = true := by decide +kernel
theorem ok_LawReader_takesSign : m_okL i_LawReader_takesSign (mcd i_LawReader_takesSign) = true := by decide +kernel
theorem ok_LawReader_readsLaw : m_okL i_LawReader_readsLaw (mcd i_LawReader_readsLaw) = true := by decide +kernel
theorem ok_LineReader_readsLaw : m_okL i_LineReader_readsLaw (mcd i_LineReader_readsLaw) = true := by decide +kernel
theorem ok_LineReader_readsLine : m_okL i_LineReader_readsLine (mcd i_LineReader_readsLine) = true := by decide +kernel
theorem ok_LineReader_readsAll : m_okL i_LineReader_readsAll (mcd i_LineReader_readsAll) = true := by decide +kernel
theorem ok_Day_begin : m_okL i_Day_begin (mcd i_Day_begin) = true := by decide +kernel
theorem ok_Seen_forget : m_okL i_Seen_forget (mcd i_Seen_forget) = true := by decide +kernel
theorem ok_C_text : m_okL i_C_text (mcd i_C_text) = true := by decide +kernel
theorem ok_M_isSmall : m_okL i_M_isSmall (mcd i_M_isSmall) = true := by decide +kernel
theorem ok_M_wordAt : m_okL i_M_wordAt (mcd i_M_wordAt) = true := by decide +kernel
theorem ok_M_packed : m_okL i_M_packed (mcd i_M_packed) = true := by decide +kernel
theorem ok_M_isDigit : m_okL i_M_isDigit (mcd i_M_isDigit) = true := by decide +kernel
theorem ok_M_signToken_0 : (((mcd i_M_signToken).drop (0 + 40 * 0)).take 40).all (m_okE i_M_signToken) = true := by decide +kernel
theorem ok_M_signToken_1 : (((mcd i_M_signToken).drop (0 + 40 * 1)).take 40).all (m_okE i_M_signToken) = true := by decide +kernel
theorem ok_M_signToken_2 : (((mcd i_M_signToken).drop (0 + 40 * 2)).take 40).all (m_okE i_M_signToken) = true := by decide +kernel
theorem ok_M_signToken_3 : (((mcd i_M_signToken).drop (0 + 40 * 3)).take 40).all (m_okE i_M_signToken) = true := by decide +kernel
theorem ok_M_signToken_c : m_chain (mcd i_M_signToken) = true := by decide +kernel
theorem ok_M_signToken_l : (mcd i_M_signToken).length ≤ 0 + 4 * 40 := by decide +kernel
theorem ok_M_signToken : m_okL i_M_signToken (mcd i_M_signToken) = true := m_okL_of 40 4 ok_M_signToken_l (fun k hk => match k, hk with
  | 0, _ => ok_M_signToken_0
  | 1, _ => ok_M_signToken_1
  | 2, _ => ok_M_signToken_2
  | 3, _ => ok_M_signToken_3
  | _ + 4, hk => absurd hk (by omega)) ok_M_signToken_c
theorem ok_M_token_0 : (((mcd i_M_token).drop (0 + 40 * 0)).take 40).all (m_okE i_M_token) = true := by decide +kernel
theorem ok_M_token_1 : (((mcd i_M_token).drop (0 + 40 * 1)).take 40).all (m_okE i_M_token) = true := by decide +kernel
theorem ok_M_token_2 : (((mcd i_M_token).drop (0 + 40 * 2)).take 40).all (m_okE i_M_token) = true := by decide +kernel
theorem ok_M_token_3 : (((mcd i_M_token).drop (0 + 40 * 3)).take 40).all (m_okE i_M_token) = true := by decide +kernel
theorem ok_M_token_c : m_chain (mcd i_M_token) = true := by decide +kernel
theorem ok_M_token_l : (mcd i_M_token).length ≤ 0 + 4 * 40 := by decide +kernel
theorem ok_M_token : m_okL i_M_token (mcd i_M_token) = true := m_okL_of 40 4 ok_M_token_l (fun k hk => match k, hk with
  | 0, _ => ok_M_token_0
  | 1, _ => ok_M_token_1
  | 2, _ => ok_M_token_2
  | 3, _ => ok_M_token_3
  | _ + 4, hk => absurd hk (by omega)) ok_M_token_c
theorem ok_M_wrong : m_okL i_M_wrong (mcd i_M_wrong) = true := by decide +kernel
theorem ok_M_find : m_okL i_M_find (mcd i_M_find) = true := by decide +kernel
theorem ok_M_isIn : m_okL i_M_isIn (mcd i_M_isIn) = true := by decide +kernel
theorem ok_M_number : m_okL i_M_number (mcd i_M_number) = true := by decide +kernel
theorem ok_M_isSign : m_okL i_M_isSign (mcd i_M_isSign) = true := by decide +kernel
theorem ok_M_signed : m_okL i_M_signed (mcd i_M_signed) = true := by decide +kernel
theorem ok_M_manLine : m_okL i_M_manLine (mcd i_M_manLine) = true := by decide +kernel
theorem ok_M_manThere : m_okL i_M_manThere (mcd i_M_manThere) = true := by decide +kernel
theorem ok_M_ringLine : m_okL i_M_ringLine (mcd i_M_ringLine) = true := by decide +kernel
end
section
theorem ok_M_meetLine : m_okL i_M_meetLine (mcd i_M_meetLine) = true := by decide +kernel
theorem ok_M_coldLine : m_okL i_M_coldLine (mcd i_M_coldLine) = true := by decide +kernel
theorem ok_M_onceLine : m_okL i_M_onceLine (mcd i_M_onceLine) = true := by decide +kernel
theorem ok_M_waitsFor : m_okL i_M_waitsFor (mcd i_M_waitsFor) = true := by decide +kernel
theorem ok_M_isKey : m_okL i_M_isKey (mcd i_M_isKey) = true := by decide +kernel
theorem ok_M_isCounted : m_okL i_M_isCounted (mcd i_M_isCounted) = true := by decide +kernel
theorem ok_M_nameMet : m_okL i_M_nameMet (mcd i_M_nameMet) = true := by decide +kernel
theorem ok_M_grown : m_okL i_M_grown (mcd i_M_grown) = true := by decide +kernel
theorem ok_M_leafRead : m_okL i_M_leafRead (mcd i_M_leafRead) = true := by decide +kernel
theorem ok_M_rank : m_okL i_M_rank (mcd i_M_rank) = true := by decide +kernel
theorem ok_M_dropHeld : m_okL i_M_dropHeld (mcd i_M_dropHeld) = true := by decide +kernel
theorem ok_M_bind : m_okL i_M_bind (mcd i_M_bind) = true := by decide +kernel
theorem ok_M_signs_0 : (((mcd i_M_signs).drop (0 + 40 * 0)).take 40).all (m_okE i_M_signs) = true := by decide +kernel
theorem ok_M_signs_1 : (((mcd i_M_signs).drop (0 + 40 * 1)).take 40).all (m_okE i_M_signs) = true := by decide +kernel
theorem ok_M_signs_2 : (((mcd i_M_signs).drop (0 + 40 * 2)).take 40).all (m_okE i_M_signs) = true := by decide +kernel
theorem ok_M_signs_3 : (((mcd i_M_signs).drop (0 + 40 * 3)).take 40).all (m_okE i_M_signs) = true := by decide +kernel
theorem ok_M_signs_c : m_chain (mcd i_M_signs) = true := by decide +kernel
theorem ok_M_signs_l : (mcd i_M_signs).length ≤ 0 + 4 * 40 := by decide +kernel
theorem ok_M_signs : m_okL i_M_signs (mcd i_M_signs) = true := m_okL_of 40 4 ok_M_signs_l (fun k hk => match k, hk with
  | 0, _ => ok_M_signs_0
  | 1, _ => ok_M_signs_1
  | 2, _ => ok_M_signs_2
  | 3, _ => ok_M_signs_3
  | _ + 4, hk => absurd hk (by omega)) ok_M_signs_c
theorem ok_M_sumRead : m_okL i_M_sumRead (mcd i_M_sumRead) = true := by decide +kernel
theorem ok_M_lineRead : m_okL i_M_lineRead (mcd i_M_lineRead) = true := by decide +kernel
theorem ok_M_text : m_okL i_M_text (mcd i_M_text) = true := by decide +kernel
theorem ok_C_fault : m_okL i_C_fault (mcd i_C_fault) = true := by decide +kernel
theorem ok_M_fault : m_okL i_M_fault (mcd i_M_fault) = true := by decide +kernel
theorem ok_C_named : m_okL i_C_named (mcd i_C_named) = true := by decide +kernel
theorem ok_M_named : m_okL i_M_named (mcd i_M_named) = true := by decide +kernel
theorem ok_C_isPerson : m_okL i_C_isPerson (mcd i_C_isPerson) = true := by decide +kernel
theorem ok_Day_placeOf : m_okL i_Day_placeOf (mcd i_Day_placeOf) = true := by decide +kernel
theorem ok_Day_modeOf : m_okL i_Day_modeOf (mcd i_Day_modeOf) = true := by decide +kernel
theorem ok_C_man : m_okL i_C_man (mcd i_C_man) = true := by decide +kernel
theorem ok_M_isMan : m_okL i_M_isMan (mcd i_M_isMan) = true := by decide +kernel
theorem ok_M_fails : m_okL i_M_fails (mcd i_M_fails) = true := by decide +kernel
theorem ok_M_placeOf : m_okL i_M_placeOf (mcd i_M_placeOf) = true := by decide +kernel
theorem ok_M_man : m_okL i_M_man (mcd i_M_man) = true := by decide +kernel
theorem ok_M_thrown : m_okL i_M_thrown (mcd i_M_thrown) = true := by decide +kernel
theorem ok_C_isMeeting : m_okL i_C_isMeeting (mcd i_C_isMeeting) = true := by decide +kernel
theorem ok_C_meeting : m_okL i_C_meeting (mcd i_C_meeting) = true := by decide +kernel
theorem ok_M_isMeeting : m_okL i_M_isMeeting (mcd i_M_isMeeting) = true := by decide +kernel
theorem ok_M_meeting : m_okL i_M_meeting (mcd i_M_meeting) = true := by decide +kernel
theorem ok_C_shows : m_okL i_C_shows (mcd i_C_shows) = true := by decide +kernel
theorem ok_M_shows : m_okL i_M_shows (mcd i_M_shows) = true := by decide +kernel
theorem ok_Way_follow : m_okL i_Way_follow (mcd i_Way_follow) = true := by decide +kernel
theorem ok_Laws_joined_0 : (((mcd i_Laws_joined).drop (0 + 40 * 0)).take 40).all (m_okE i_Laws_joined) = true := by decide +kernel
theorem ok_Laws_joined_1 : (((mcd i_Laws_joined).drop (0 + 40 * 1)).take 40).all (m_okE i_Laws_joined) = true := by decide +kernel
theorem ok_Laws_joined_2 : (((mcd i_Laws_joined).drop (0 + 40 * 2)).take 40).all (m_okE i_Laws_joined) = true := by decide +kernel
theorem ok_Laws_joined_3 : (((mcd i_Laws_joined).drop (0 + 40 * 3)).take 40).all (m_okE i_Laws_joined) = true := by decide +kernel
theorem ok_Laws_joined_c : m_chain (mcd i_Laws_joined) = true := by decide +kernel
theorem ok_Laws_joined_l : (mcd i_Laws_joined).length ≤ 0 + 4 * 40 := by decide +kernel
theorem ok_Laws_joined : m_okL i_Laws_joined (mcd i_Laws_joined) = true := m_okL_of 40 4 ok_Laws_joined_l (fun k hk => match k, hk with
  | 0, _ => ok_Laws_joined_0
  | 1, _ => ok_Laws_joined_1
  | 2, _ => ok_Laws_joined_2
  | 3, _ => ok_Laws_joined_3
  | _ + 4, hk => absurd hk (by omega)) ok_Laws_joined_c
theorem ok_Laws_valueOf_0 : (((mcd i_Laws_valueOf).drop (0 + 40 * 0)).take 40).all (m_okE i_Laws_valueOf) = true := by decide +kernel
theorem ok_Laws_valueOf_1 : (((mcd i_Laws_valueOf).drop (0 + 40 * 1)).take 40).all (m_okE i_Laws_valueOf) = true := by decide +kernel
theorem ok_Laws_valueOf_2 : (((mcd i_Laws_valueOf).drop (0 + 40 * 2)).take 40).all (m_okE i_Laws_valueOf) = true := by decide +kernel
theorem ok_Laws_valueOf_3 : (((mcd i_Laws_valueOf).drop (0 + 40 * 3)).take 40).all (m_okE i_Laws_valueOf) = true := by decide +kernel
theorem ok_Laws_valueOf_c : m_chain (mcd i_Laws_valueOf) = true := by decide +kernel
theorem ok_Laws_valueOf_l : (mcd i_Laws_valueOf).length ≤ 0 + 4 * 40 := by decide +kernel
theorem ok_Laws_valueOf : m_okL i_Laws_valueOf (mcd i_Laws_valueOf) = true := m_okL_of 40 4 ok_Laws_valueOf_l (fun k hk => match k, hk with
  | 0, _ => ok_Laws_valueOf_0
  | 1, _ => ok_Laws_valueOf_1
  | 2, _ => ok_Laws_valueOf_2
  | 3, _ => ok_Laws_valueOf_3
  | _ + 4, hk => absurd hk (by omega)) ok_Laws_valueOf_c
theorem ok_Way_lawOf : m_okL i_Way_lawOf (mcd i_Way_lawOf) = true := by decide +kernel
theorem ok_C_law : m_okL i_C_law (mcd i_C_law) = true := by decide +kernel
theorem ok_M_waitsOf : m_okL i_M_waitsOf (mcd i_M_waitsOf) = true := by decide +kernel
theorem ok_M_rateIn : m_okL i_M_rateIn (mcd i_M_rateIn) = true := by decide +kernel
theorem ok_M_layNames : m_okL i_M_layNames (mcd i_M_layNames) = true := by decide +kernel
theorem ok_M_bounded : m_okL i_M_bounded (mcd i_M_bounded) = true := by decide +kernel
theorem ok_M_times : m_okL i_M_times (mcd i_M_times) = true := by decide +kernel
theorem ok_M_compares : m_okL i_M_compares (mcd i_M_compares) = true := by decide +kernel
theorem ok_M_valueOf_0 : (((mcd i_M_valueOf).drop (0 + 40 * 0)).take 40).all (m_okE i_M_valueOf) = true := by decide +kernel
theorem ok_M_valueOf_1 : (((mcd i_M_valueOf).drop (0 + 40 * 1)).take 40).all (m_okE i_M_valueOf) = true := by decide +kernel
theorem ok_M_valueOf_2 : (((mcd i_M_valueOf).drop (0 + 40 * 2)).take 40).all (m_okE i_M_valueOf) = true := by decide +kernel
theorem ok_M_valueOf_3 : (((mcd i_M_valueOf).drop (0 + 40 * 3)).take 40).all (m_okE i_M_valueOf) = true := by decide +kernel
theorem ok_M_valueOf_c : m_chain (mcd i_M_valueOf) = true := by decide +kernel
theorem ok_M_valueOf_l : (mcd i_M_valueOf).length ≤ 0 + 4 * 40 := by decide +kernel
theorem ok_M_valueOf : m_okL i_M_valueOf (mcd i_M_valueOf) = true := m_okL_of 40 4 ok_M_valueOf_l (fun k hk => match k, hk with
  | 0, _ => ok_M_valueOf_0
  | 1, _ => ok_M_valueOf_1
  | 2, _ => ok_M_valueOf_2
  | 3, _ => ok_M_valueOf_3
  | _ + 4, hk => absurd hk (by omega)) ok_M_valueOf_c
theorem ok_M_lawOf : m_okL i_M_lawOf (mcd i_M_lawOf) = true := by decide +kernel
theorem ok_M_law : m_okL i_M_law (mcd i_M_law) = true := by decide +kernel
theorem ok_Day_takesIn : m_okL i_Day_takesIn (mcd i_Day_takesIn) = true := by decide +kernel
theorem ok_Log_note : m_okL i_Log_note (mcd i_Log_note) = true := by decide +kernel
theorem ok_C_ring : m_okL i_C_ring (mcd i_C_ring) = true := by decide +kernel
theorem ok_M_put : m_okL i_M_put (mcd i_M_put) = true := by decide +kernel
theorem ok_M_remember : m_okL i_M_remember (mcd i_M_remember) = true := by decide +kernel
theorem ok_M_joins : m_okL i_M_joins (mcd i_M_joins) = true := by decide +kernel
end
section
theorem ok_M_ring : m_okL i_M_ring (mcd i_M_ring) = true := by decide +kernel
theorem ok_Day_takeOut : m_okL i_Day_takeOut (mcd i_Day_takeOut) = true := by decide +kernel
theorem ok_C_hangUp : m_okL i_C_hangUp (mcd i_C_hangUp) = true := by decide +kernel
theorem ok_M_leaves : m_okL i_M_leaves (mcd i_M_leaves) = true := by decide +kernel
theorem ok_M_hangUp : m_okL i_M_hangUp (mcd i_M_hangUp) = true := by decide +kernel
theorem ok_C_set : m_okL i_C_set (mcd i_C_set) = true := by decide +kernel
theorem ok_M_set : m_okL i_M_set (mcd i_M_set) = true := by decide +kernel
theorem ok_Day_isOneThere : m_okL i_Day_isOneThere (mcd i_Day_isOneThere) = true := by decide +kernel
theorem ok_C_putOff : m_okL i_C_putOff (mcd i_C_putOff) = true := by decide +kernel
theorem ok_M_isOpen : m_okL i_M_isOpen (mcd i_M_isOpen) = true := by decide +kernel
theorem ok_M_putOff : m_okL i_M_putOff (mcd i_M_putOff) = true := by decide +kernel
theorem ok_Way_takeRings : m_okL i_Way_takeRings (mcd i_Way_takeRings) = true := by decide +kernel
theorem ok_Day_drawNumber : m_okL i_Day_drawNumber (mcd i_Day_drawNumber) = true := by decide +kernel
theorem ok_Way_isStrangerRinging : m_okL i_Way_isStrangerRinging (mcd i_Way_isStrangerRinging) = true := by decide +kernel
theorem ok_Day_takesStranger : m_okL i_Day_takesStranger (mcd i_Day_takesStranger) = true := by decide +kernel
theorem ok_C_within : m_okL i_C_within (mcd i_C_within) = true := by decide +kernel
theorem ok_Way_isCold : m_okL i_Way_isCold (mcd i_Way_isCold) = true := by decide +kernel
theorem ok_Way_startTalk : m_okL i_Way_startTalk (mcd i_Way_startTalk) = true := by decide +kernel
theorem ok_Way_goOnTalking : m_okL i_Way_goOnTalking (mcd i_Way_goOnTalking) = true := by decide +kernel
theorem ok_Way_driftAll : m_okL i_Way_driftAll (mcd i_Way_driftAll) = true := by decide +kernel
theorem ok_Way_meet : m_okL i_Way_meet (mcd i_Way_meet) = true := by decide +kernel
theorem ok_Way_passMinute : m_okL i_Way_passMinute (mcd i_Way_passMinute) = true := by decide +kernel
theorem ok_C_go : m_okL i_C_go (mcd i_C_go) = true := by decide +kernel
theorem ok_M_number1 : m_okL i_M_number1 (mcd i_M_number1) = true := by decide +kernel
theorem ok_M_isStranger : m_okL i_M_isStranger (mcd i_M_isStranger) = true := by decide +kernel
theorem ok_M_boundLaw : m_okL i_M_boundLaw (mcd i_M_boundLaw) = true := by decide +kernel
theorem ok_M_isCold : m_okL i_M_isCold (mcd i_M_isCold) = true := by decide +kernel
theorem ok_M_begins : m_okL i_M_begins (mcd i_M_begins) = true := by decide +kernel
theorem ok_M_isTold : m_okL i_M_isTold (mcd i_M_isTold) = true := by decide +kernel
theorem ok_M_within : m_okL i_M_within (mcd i_M_within) = true := by decide +kernel
theorem ok_M_drifts : m_okL i_M_drifts (mcd i_M_drifts) = true := by decide +kernel
theorem ok_M_comes : m_okL i_M_comes (mcd i_M_comes) = true := by decide +kernel
theorem ok_M_meets : m_okL i_M_meets (mcd i_M_meets) = true := by decide +kernel
theorem ok_M_minuteGoes_0 : (((mcd i_M_minuteGoes).drop (0 + 40 * 0)).take 40).all (m_okE i_M_minuteGoes) = true := by decide +kernel
theorem ok_M_minuteGoes_1 : (((mcd i_M_minuteGoes).drop (0 + 40 * 1)).take 40).all (m_okE i_M_minuteGoes) = true := by decide +kernel
theorem ok_M_minuteGoes_2 : (((mcd i_M_minuteGoes).drop (0 + 40 * 2)).take 40).all (m_okE i_M_minuteGoes) = true := by decide +kernel
theorem ok_M_minuteGoes_3 : (((mcd i_M_minuteGoes).drop (0 + 40 * 3)).take 40).all (m_okE i_M_minuteGoes) = true := by decide +kernel
theorem ok_M_minuteGoes_c : m_chain (mcd i_M_minuteGoes) = true := by decide +kernel
theorem ok_M_minuteGoes_l : (mcd i_M_minuteGoes).length ≤ 0 + 4 * 40 := by decide +kernel
theorem ok_M_minuteGoes : m_okL i_M_minuteGoes (mcd i_M_minuteGoes) = true := m_okL_of 40 4 ok_M_minuteGoes_l (fun k hk => match k, hk with
  | 0, _ => ok_M_minuteGoes_0
  | 1, _ => ok_M_minuteGoes_1
  | 2, _ => ok_M_minuteGoes_2
  | 3, _ => ok_M_minuteGoes_3
  | _ + 4, hk => absurd hk (by omega)) ok_M_minuteGoes_c
theorem ok_M_go : m_okL i_M_go (mcd i_M_go) = true := by decide +kernel
theorem ok_Day_copy : m_okL i_Day_copy (mcd i_Day_copy) = true := by decide +kernel
theorem ok_C_startTrial : m_okL i_C_startTrial (mcd i_C_startTrial) = true := by decide +kernel
theorem ok_C_passTrial : m_okL i_C_passTrial (mcd i_C_passTrial) = true := by decide +kernel
theorem ok_Day_howMany : m_okL i_Day_howMany (mcd i_Day_howMany) = true := by decide +kernel
theorem ok_C_ahead : m_okL i_C_ahead (mcd i_C_ahead) = true := by decide +kernel
theorem ok_M_layTried_0 : (((mcd i_M_layTried).drop (0 + 40 * 0)).take 40).all (m_okE i_M_layTried) = true := by decide +kernel
theorem ok_M_layTried_1 : (((mcd i_M_layTried).drop (0 + 40 * 1)).take 40).all (m_okE i_M_layTried) = true := by decide +kernel
theorem ok_M_layTried_2 : (((mcd i_M_layTried).drop (0 + 40 * 2)).take 40).all (m_okE i_M_layTried) = true := by decide +kernel
theorem ok_M_layTried_3 : (((mcd i_M_layTried).drop (0 + 40 * 3)).take 40).all (m_okE i_M_layTried) = true := by decide +kernel
theorem ok_M_layTried_4 : (((mcd i_M_layTried).drop (0 + 40 * 4)).take 40).all (m_okE i_M_layTried) = true := by decide +kernel
theorem ok_M_layTried_c : m_chain (mcd i_M_layTried) = true := by decide +kernel
theorem ok_M_layTried_l : (mcd i_M_layTried).length ≤ 0 + 5 * 40 := by decide +kernel
theorem ok_M_layTried : m_okL i_M_layTried (mcd i_M_layTried) = true := m_okL_of 40 5 ok_M_layTried_l (fun k hk => match k, hk with
  | 0, _ => ok_M_layTried_0
  | 1, _ => ok_M_layTried_1
  | 2, _ => ok_M_layTried_2
  | 3, _ => ok_M_layTried_3
  | 4, _ => ok_M_layTried_4
  | _ + 5, hk => absurd hk (by omega)) ok_M_layTried_c
theorem ok_M_goMany : m_okL i_M_goMany (mcd i_M_goMany) = true := by decide +kernel
theorem ok_M_are : m_okL i_M_are (mcd i_M_are) = true := by decide +kernel
theorem ok_M_ahead : m_okL i_M_ahead (mcd i_M_ahead) = true := by decide +kernel
theorem ok_C_minutesTillTold : m_okL i_C_minutesTillTold (mcd i_C_minutesTillTold) = true := by decide +kernel
theorem ok_C_delay : m_okL i_C_delay (mcd i_C_delay) = true := by decide +kernel
theorem ok_M_toldBy : m_okL i_M_toldBy (mcd i_M_toldBy) = true := by decide +kernel
theorem ok_M_delay : m_okL i_M_delay (mcd i_M_delay) = true := by decide +kernel
theorem ok_C_bestRing : m_okL i_C_bestRing (mcd i_C_bestRing) = true := by decide +kernel
theorem ok_M_bestRing : m_okL i_M_bestRing (mcd i_M_bestRing) = true := by decide +kernel
theorem ok_J_bitCount : m_okL i_J_bitCount (mcd i_J_bitCount) = true := by decide +kernel
theorem ok_Day_spread : m_okL i_Day_spread (mcd i_Day_spread) = true := by decide +kernel
theorem ok_C_spreadIfRinging : m_okL i_C_spreadIfRinging (mcd i_C_spreadIfRinging) = true := by decide +kernel
end
section
theorem ok_C_near : m_okL i_C_near (mcd i_C_near) = true := by decide +kernel
theorem ok_M_manyOf : m_okL i_M_manyOf (mcd i_M_manyOf) = true := by decide +kernel
theorem ok_M_isOf : m_okL i_M_isOf (mcd i_M_isOf) = true := by decide +kernel
theorem ok_M_spread : m_okL i_M_spread (mcd i_M_spread) = true := by decide +kernel
theorem ok_M_near : m_okL i_M_near (mcd i_M_near) = true := by decide +kernel
theorem ok_C_liars : m_okL i_C_liars (mcd i_C_liars) = true := by decide +kernel
theorem ok_M_liars : m_okL i_M_liars (mcd i_M_liars) = true := by decide +kernel
theorem ok_Day_howManySlower : m_okL i_Day_howManySlower (mcd i_Day_howManySlower) = true := by decide +kernel
theorem ok_C_median : m_okL i_C_median (mcd i_C_median) = true := by decide +kernel
theorem ok_M_median : m_okL i_M_median (mcd i_M_median) = true := by decide +kernel
theorem ok_C_agree : m_okL i_C_agree (mcd i_C_agree) = true := by decide +kernel
theorem ok_M_agree : m_okL i_M_agree (mcd i_M_agree) = true := by decide +kernel
theorem ok_C_isKeptInTrial : m_okL i_C_isKeptInTrial (mcd i_C_isKeptInTrial) = true := by decide +kernel
theorem ok_C_needs : m_okL i_C_needs (mcd i_C_needs) = true := by decide +kernel
theorem ok_M_needs : m_okL i_M_needs (mcd i_M_needs) = true := by decide +kernel
theorem ok_C_certain : m_okL i_C_certain (mcd i_C_certain) = true := by decide +kernel
theorem ok_M_certain : m_okL i_M_certain (mcd i_M_certain) = true := by decide +kernel
theorem ok_C_latest : m_okL i_C_latest (mcd i_C_latest) = true := by decide +kernel
theorem ok_M_latest : m_okL i_M_latest (mcd i_M_latest) = true := by decide +kernel
theorem ok_C_areTwo : m_okL i_C_areTwo (mcd i_C_areTwo) = true := by decide +kernel
theorem ok_C_gain : m_okL i_C_gain (mcd i_C_gain) = true := by decide +kernel
theorem ok_C_isRest : m_okL i_C_isRest (mcd i_C_isRest) = true := by decide +kernel
theorem ok_C_rests : m_okL i_C_rests (mcd i_C_rests) = true := by decide +kernel
theorem ok_M_areTwo : m_okL i_M_areTwo (mcd i_M_areTwo) = true := by decide +kernel
theorem ok_M_hasBy : m_okL i_M_hasBy (mcd i_M_hasBy) = true := by decide +kernel
theorem ok_M_restAt : m_okL i_M_restAt (mcd i_M_restAt) = true := by decide +kernel
theorem ok_M_rests : m_okL i_M_rests (mcd i_M_rests) = true := by decide +kernel
theorem ok_C_rest : m_okL i_C_rest (mcd i_C_rest) = true := by decide +kernel
theorem ok_M_rest : m_okL i_M_rest (mcd i_M_rest) = true := by decide +kernel
theorem ok_C_apart : m_okL i_C_apart (mcd i_C_apart) = true := by decide +kernel
theorem ok_M_apart : m_okL i_M_apart (mcd i_M_apart) = true := by decide +kernel
theorem ok_C_quiet : m_okL i_C_quiet (mcd i_C_quiet) = true := by decide +kernel
theorem ok_M_quiet : m_okL i_M_quiet (mcd i_M_quiet) = true := by decide +kernel
theorem ok_C_firstMissed : m_okL i_C_firstMissed (mcd i_C_firstMissed) = true := by decide +kernel
theorem ok_M_firstMissed : m_okL i_M_firstMissed (mcd i_M_firstMissed) = true := by decide +kernel
theorem ok_C_longest : m_okL i_C_longest (mcd i_C_longest) = true := by decide +kernel
theorem ok_M_longest : m_okL i_M_longest (mcd i_M_longest) = true := by decide +kernel
theorem ok_C_queue : m_okL i_C_queue (mcd i_C_queue) = true := by decide +kernel
theorem ok_M_queue : m_okL i_M_queue (mcd i_M_queue) = true := by decide +kernel
theorem ok_C_there : m_okL i_C_there (mcd i_C_there) = true := by decide +kernel
theorem ok_M_there : m_okL i_M_there (mcd i_M_there) = true := by decide +kernel
theorem ok_Seen_addSight : m_okL i_Seen_addSight (mcd i_Seen_addSight) = true := by decide +kernel
theorem ok_C_see : m_okL i_C_see (mcd i_C_see) = true := by decide +kernel
theorem ok_M_noted : m_okL i_M_noted (mcd i_M_noted) = true := by decide +kernel
theorem ok_M_see : m_okL i_M_see (mcd i_M_see) = true := by decide +kernel
theorem ok_Seen_addStrike : m_okL i_Seen_addStrike (mcd i_Seen_addStrike) = true := by decide +kernel
theorem ok_C_strike : m_okL i_C_strike (mcd i_C_strike) = true := by decide +kernel
theorem ok_M_strike : m_okL i_M_strike (mcd i_M_strike) = true := by decide +kernel
theorem ok_C_known : m_okL i_C_known (mcd i_C_known) = true := by decide +kernel
theorem ok_M_known : m_okL i_M_known (mcd i_M_known) = true := by decide +kernel
theorem ok_Seen_knownBy : m_okL i_Seen_knownBy (mcd i_Seen_knownBy) = true := by decide +kernel
theorem ok_Seen_judge : m_okL i_Seen_judge (mcd i_Seen_judge) = true := by decide +kernel
theorem ok_Seen_lastMinute : m_okL i_Seen_lastMinute (mcd i_Seen_lastMinute) = true := by decide +kernel
theorem ok_Seen_isSo : m_okL i_Seen_isSo (mcd i_Seen_isSo) = true := by decide +kernel
theorem ok_C_isAllSeenSo : m_okL i_C_isAllSeenSo (mcd i_C_isAllSeenSo) = true := by decide +kernel
theorem ok_C_rates : m_okL i_C_rates (mcd i_C_rates) = true := by decide +kernel
theorem ok_M_knownBy : m_okL i_M_knownBy (mcd i_M_knownBy) = true := by decide +kernel
theorem ok_M_isSo : m_okL i_M_isSo (mcd i_M_isSo) = true := by decide +kernel
theorem ok_M_fits : m_okL i_M_fits (mcd i_M_fits) = true := by decide +kernel
theorem ok_M_rates : m_okL i_M_rates (mcd i_M_rates) = true := by decide +kernel
theorem ok_C_chance : m_okL i_C_chance (mcd i_C_chance) = true := by decide +kernel
theorem ok_M_chance : m_okL i_M_chance (mcd i_M_chance) = true := by decide +kernel
theorem ok_Way_change : m_okL i_Way_change (mcd i_Way_change) = true := by decide +kernel
theorem ok_C_tried : m_okL i_C_tried (mcd i_C_tried) = true := by decide +kernel
theorem ok_M_tried : m_okL i_M_tried (mcd i_M_tried) = true := by decide +kernel
end
section
theorem ok_Day_putIn : m_okL i_Day_putIn (mcd i_Day_putIn) = true := by decide +kernel
theorem ok_C_undo : m_okL i_C_undo (mcd i_C_undo) = true := by decide +kernel
theorem ok_M_take : m_okL i_M_take (mcd i_M_take) = true := by decide +kernel
theorem ok_M_undo : m_okL i_M_undo (mcd i_M_undo) = true := by decide +kernel
theorem ok_C_keep : m_okL i_C_keep (mcd i_C_keep) = true := by decide +kernel
theorem ok_M_keep : m_okL i_M_keep (mcd i_M_keep) = true := by decide +kernel
theorem ok_C_back : m_okL i_C_back (mcd i_C_back) = true := by decide +kernel
theorem ok_M_back : m_okL i_M_back (mcd i_M_back) = true := by decide +kernel
theorem ok_Day_toldInAll : m_okL i_Day_toldInAll (mcd i_Day_toldInAll) = true := by decide +kernel
theorem ok_C_count : m_okL i_C_count (mcd i_C_count) = true := by decide +kernel
theorem ok_M_count : m_okL i_M_count (mcd i_M_count) = true := by decide +kernel
theorem ok_L_law_0 : (((mcd i_L_law).drop (0 + 40 * 0)).take 40).all (m_okE i_L_law) = true := by decide +kernel
theorem ok_L_law_1 : (((mcd i_L_law).drop (0 + 40 * 1)).take 40).all (m_okE i_L_law) = true := by decide +kernel
theorem ok_L_law_2 : (((mcd i_L_law).drop (0 + 40 * 2)).take 40).all (m_okE i_L_law) = true := by decide +kernel
theorem ok_L_law_3 : (((mcd i_L_law).drop (0 + 40 * 3)).take 40).all (m_okE i_L_law) = true := by decide +kernel
theorem ok_L_law_4 : (((mcd i_L_law).drop (0 + 40 * 4)).take 40).all (m_okE i_L_law) = true := by decide +kernel
theorem ok_L_law_5 : (((mcd i_L_law).drop (0 + 40 * 5)).take 40).all (m_okE i_L_law) = true := by decide +kernel
theorem ok_L_law_6 : (((mcd i_L_law).drop (0 + 40 * 6)).take 40).all (m_okE i_L_law) = true := by decide +kernel
theorem ok_L_law_7 : (((mcd i_L_law).drop (0 + 40 * 7)).take 40).all (m_okE i_L_law) = true := by decide +kernel
theorem ok_L_law_8 : (((mcd i_L_law).drop (0 + 40 * 8)).take 40).all (m_okE i_L_law) = true := by decide +kernel
theorem ok_L_law_9 : (((mcd i_L_law).drop (0 + 40 * 9)).take 40).all (m_okE i_L_law) = true := by decide +kernel
theorem ok_L_law_10 : (((mcd i_L_law).drop (0 + 40 * 10)).take 40).all (m_okE i_L_law) = true := by decide +kernel
theorem ok_L_law_11 : (((mcd i_L_law).drop (0 + 40 * 11)).take 40).all (m_okE i_L_law) = true := by decide +kernel
theorem ok_L_law_12 : (((mcd i_L_law).drop (0 + 40 * 12)).take 40).all (m_okE i_L_law) = true := by decide +kernel
theorem ok_L_law_13 : (((mcd i_L_law).drop (0 + 40 * 13)).take 40).all (m_okE i_L_law) = true := by decide +kernel
theorem ok_L_law_14 : (((mcd i_L_law).drop (0 + 40 * 14)).take 40).all (m_okE i_L_law) = true := by decide +kernel
theorem ok_L_law_15 : (((mcd i_L_law).drop (0 + 40 * 15)).take 40).all (m_okE i_L_law) = true := by decide +kernel
end
section
theorem ok_L_law_16 : (((mcd i_L_law).drop (0 + 40 * 16)).take 40).all (m_okE i_L_law) = true := by decide +kernel
theorem ok_L_law_17 : (((mcd i_L_law).drop (0 + 40 * 17)).take 40).all (m_okE i_L_law) = true := by decide +kernel
theorem ok_L_law_18 : (((mcd i_L_law).drop (0 + 40 * 18)).take 40).all (m_okE i_L_law) = true := by decide +kernel
theorem ok_L_law_19 : (((mcd i_L_law).drop (0 + 40 * 19)).take 40).all (m_okE i_L_law) = true := by decide +kernel
theorem ok_L_law_20 : (((mcd i_L_law).drop (0 + 40 * 20)).take 40).all (m_okE i_L_law) = true := by decide +kernel
theorem ok_L_law_21 : (((mcd i_L_law).drop (0 + 40 * 21)).take 40).all (m_okE i_L_law) = true := by decide +kernel
theorem ok_L_law_22 : (((mcd i_L_law).drop (0 + 40 * 22)).take 40).all (m_okE i_L_law) = true := by decide +kernel
theorem ok_L_law_23 : (((mcd i_L_law).drop (0 + 40 * 23)).take 40).all (m_okE i_L_law) = true := by decide +kernel
theorem ok_L_law_c : m_chain (mcd i_L_law) = true := by decide +kernel
theorem ok_L_law_l : (mcd i_L_law).length ≤ 0 + 24 * 40 := by decide +kernel
theorem ok_L_law : m_okL i_L_law (mcd i_L_law) = true := m_okL_of 40 24 ok_L_law_l (fun k hk => match k, hk with
  | 0, _ => ok_L_law_0
  | 1, _ => ok_L_law_1
  | 2, _ => ok_L_law_2
  | 3, _ => ok_L_law_3
  | 4, _ => ok_L_law_4
  | 5, _ => ok_L_law_5
  | 6, _ => ok_L_law_6
  | 7, _ => ok_L_law_7
  | 8, _ => ok_L_law_8
  | 9, _ => ok_L_law_9
  | 10, _ => ok_L_law_10
  | 11, _ => ok_L_law_11
  | 12, _ => ok_L_law_12
  | 13, _ => ok_L_law_13
  | 14, _ => ok_L_law_14
  | 15, _ => ok_L_law_15
  | 16, _ => ok_L_law_16
  | 17, _ => ok_L_law_17
  | 18, _ => ok_L_law_18
  | 19, _ => ok_L_law_19
  | 20, _ => ok_L_law_20
  | 21, _ => ok_L_law_21
  | 22, _ => ok_L_law_22
  | 23, _ => ok_L_law_23
  | _ + 24, hk => absurd hk (by omega)) ok_L_law_c
end
section
def m_okN (m : Nat) : Bool := m_has (mPl m).2.2.2 (.initialized (mY m).cls) &&
  (bif mSt m then m_has (mPl m).2.1 (.static (mY m)) else m_has (mPl m).2.1 (.instanceMethod (mY m)) && (decide ((mY m).name = "<init>") || m_has (mPl m).2.2.1 (.selects (mY m).cls (mY m) (mY m)))) &&
  decide ((mY m).cls ≠ "java/lang/invoke/MethodHandle") && decide ((mY m).cls ≠ "java/lang/invoke/VarHandle") && decide ((parseMethodDescriptor (mY m).desc).map (fun d => d.parameters.length) = some (mN m)) && plainName (mY m).cls
def m_okC (m : Nat) : Prop := Cond.code (mY m) (mB m) (mL m) (mRt m) ∈ gT
theorem m_okC_of {m k i : Nat} (h : (m_tb k)[i]? = some (Cond.code (mY m) (mB m) (mL m) (mRt m))) (hg : goodWord (Cond.code (mY m) (mB m) (mL m) (mRt m)) = true) : m_okC m := List.mem_filter.mpr ⟨m_tb_in (List.mem_of_getElem? h), hg⟩
theorem okm_0 : ([0, 1, 2, 3, 4, 5, 6, 7, 8, 9, 10, 11, 12, 13, 14, 15, 16, 17, 18, 19] : List Nat).all m_okN = true := by decide +kernel
theorem okm_1 : ([20, 21, 22, 23, 24, 25, 26, 27, 28, 29, 30, 31, 32, 33, 34, 35, 36, 37, 38, 39] : List Nat).all m_okN = true := by decide +kernel
theorem okm_2 : ([40, 41, 42, 43, 44, 45, 46, 47, 48, 49, 50, 51, 52, 53, 54, 55, 56, 57, 58, 59] : List Nat).all m_okN = true := by decide +kernel
theorem okm_3 : ([60, 61, 62, 63, 64, 65, 66, 67, 68, 69, 70, 71, 72, 73, 74, 75, 76, 77, 78, 79] : List Nat).all m_okN = true := by decide +kernel
theorem okm_4 : ([80, 81, 82, 83, 84, 85, 86, 87, 88, 89, 90, 91, 92, 93, 94, 95, 96, 97, 99, 100] : List Nat).all m_okN = true := by decide +kernel
theorem okm_5 : ([101, 102, 103, 104, 105, 106, 107, 108, 109, 110, 111, 112, 113, 114, 115, 116, 117, 118, 119, 120] : List Nat).all m_okN = true := by decide +kernel
theorem okm_6 : ([121, 122, 123, 124, 125, 126, 127, 128, 129, 130, 131, 132, 133, 134, 135, 136, 137, 138, 139, 140] : List Nat).all m_okN = true := by decide +kernel
theorem okm_7 : ([141, 142, 143, 144, 145, 146, 147, 148, 149, 150, 151, 152, 153, 154, 155, 156, 157, 158, 159, 160] : List Nat).all m_okN = true := by decide +kernel
theorem okm_8 : ([161, 162, 163, 164, 165, 166, 167, 168, 169, 170, 171, 172, 173, 174, 175, 176, 177, 178, 179, 180] : List Nat).all m_okN = true := by decide +kernel
theorem okm_9 : ([181, 182, 183, 184, 185, 186, 187, 188, 189, 190, 191, 192, 193, 194, 195, 196, 197, 198, 199, 200] : List Nat).all m_okN = true := by decide +kernel
theorem okm_10 : ([201, 202, 203, 204, 205, 206, 207, 208, 209, 210, 211, 212, 213, 214, 215, 216, 217, 218, 219, 220] : List Nat).all m_okN = true := by decide +kernel
theorem okm_11 : ([221, 222, 223, 224, 225, 226, 227, 228, 229, 230, 231, 232, 233, 234, 235, 236, 237, 238, 239, 240] : List Nat).all m_okN = true := by decide +kernel
theorem okm_12 : ([241, 242, 243, 244, 245, 246, 247, 248, 249, 250, 251, 252, 253, 254, 255, 256, 257, 258] : List Nat).all m_okN = true := by decide +kernel
theorem okc_0 : m_okC 0 := m_okC_of (k := 1) (i := 48) rfl rfl
theorem okc_1 : m_okC 1 := m_okC_of (k := 1) (i := 42) rfl rfl
theorem okc_2 : m_okC 2 := m_okC_of (k := 1) (i := 152) rfl rfl
theorem okc_3 : m_okC 3 := m_okC_of (k := 1) (i := 146) rfl rfl
theorem okc_4 : m_okC 4 := m_okC_of (k := 1) (i := 36) rfl rfl
theorem okc_5 : m_okC 5 := m_okC_of (k := 2) (i := 85) rfl rfl
theorem okc_6 : m_okC 6 := m_okC_of (k := 2) (i := 168) rfl rfl
theorem okc_7 : m_okC 7 := m_okC_of (k := 2) (i := 206) rfl rfl
theorem okc_8 : m_okC 8 := m_okC_of (k := 3) (i := 0) rfl rfl
theorem okc_9 : m_okC 9 := m_okC_of (k := 1) (i := 28) rfl rfl
theorem okc_10 : m_okC 10 := m_okC_of (k := 5) (i := 236) rfl rfl
theorem okc_11 : m_okC 11 := m_okC_of (k := 6) (i := 3) rfl rfl
theorem okc_12 : m_okC 12 := m_okC_of (k := 6) (i := 11) rfl rfl
theorem okc_13 : m_okC 13 := m_okC_of (k := 6) (i := 15) rfl rfl
theorem okc_14 : m_okC 14 := m_okC_of (k := 6) (i := 7) rfl rfl
theorem okc_15 : m_okC 15 := m_okC_of (k := 6) (i := 0) rfl rfl
theorem okc_16 : m_okC 16 := m_okC_of (k := 5) (i := 231) rfl rfl
theorem okc_17 : m_okC 17 := m_okC_of (k := 3) (i := 69) rfl rfl
theorem okc_18 : m_okC 18 := m_okC_of (k := 3) (i := 65) rfl rfl
theorem okc_19 : m_okC 19 := m_okC_of (k := 7) (i := 39) rfl rfl
theorem okc_20 : m_okC 20 := m_okC_of (k := 3) (i := 85) rfl rfl
theorem okc_21 : m_okC 21 := m_okC_of (k := 3) (i := 81) rfl rfl
theorem okc_22 : m_okC 22 := m_okC_of (k := 3) (i := 100) rfl rfl
theorem okc_23 : m_okC 23 := m_okC_of (k := 3) (i := 108) rfl rfl
theorem okc_24 : m_okC 24 := m_okC_of (k := 3) (i := 104) rfl rfl
theorem okc_25 : m_okC 25 := m_okC_of (k := 3) (i := 112) rfl rfl
theorem okc_26 : m_okC 26 := m_okC_of (k := 3) (i := 116) rfl rfl
theorem okc_27 : m_okC 27 := m_okC_of (k := 3) (i := 120) rfl rfl
theorem okc_28 : m_okC 28 := m_okC_of (k := 3) (i := 124) rfl rfl
theorem okc_29 : m_okC 29 := m_okC_of (k := 3) (i := 96) rfl rfl
theorem okc_30 : m_okC 30 := m_okC_of (k := 3) (i := 89) rfl rfl
theorem okc_31 : m_okC 31 := m_okC_of (k := 3) (i := 136) rfl rfl
theorem okc_32 : m_okC 32 := m_okC_of (k := 3) (i := 141) rfl rfl
theorem okc_33 : m_okC 33 := m_okC_of (k := 3) (i := 145) rfl rfl
theorem okc_34 : m_okC 34 := m_okC_of (k := 3) (i := 149) rfl rfl
theorem okc_35 : m_okC 35 := m_okC_of (k := 3) (i := 132) rfl rfl
theorem okc_36 : m_okC 36 := m_okC_of (k := 3) (i := 153) rfl rfl
theorem okc_37 : m_okC 37 := m_okC_of (k := 3) (i := 161) rfl rfl
theorem okc_38 : m_okC 38 := m_okC_of (k := 3) (i := 157) rfl rfl
theorem okc_39 : m_okC 39 := m_okC_of (k := 3) (i := 165) rfl rfl
theorem okc_40 : m_okC 40 := m_okC_of (k := 3) (i := 169) rfl rfl
theorem okc_41 : m_okC 41 := m_okC_of (k := 3) (i := 173) rfl rfl
theorem okc_42 : m_okC 42 := m_okC_of (k := 3) (i := 177) rfl rfl
theorem okc_43 : m_okC 43 := m_okC_of (k := 3) (i := 186) rfl rfl
theorem okc_44 : m_okC 44 := m_okC_of (k := 3) (i := 197) rfl rfl
theorem okc_45 : m_okC 45 := m_okC_of (k := 3) (i := 201) rfl rfl
theorem okc_46 : m_okC 46 := m_okC_of (k := 3) (i := 194) rfl rfl
theorem okc_47 : m_okC 47 := m_okC_of (k := 3) (i := 209) rfl rfl
theorem okc_48 : m_okC 48 := m_okC_of (k := 3) (i := 213) rfl rfl
theorem okc_49 : m_okC 49 := m_okC_of (k := 3) (i := 217) rfl rfl
theorem okc_50 : m_okC 50 := m_okC_of (k := 3) (i := 205) rfl rfl
theorem okc_51 : m_okC 51 := m_okC_of (k := 3) (i := 221) rfl rfl
theorem okc_52 : m_okC 52 := m_okC_of (k := 3) (i := 190) rfl rfl
theorem okc_53 : m_okC 53 := m_okC_of (k := 3) (i := 182) rfl rfl
theorem okc_54 : m_okC 54 := m_okC_of (k := 3) (i := 128) rfl rfl
theorem okc_55 : m_okC 55 := m_okC_of (k := 3) (i := 77) rfl rfl
theorem okc_56 : m_okC 56 := m_okC_of (k := 3) (i := 226) rfl rfl
theorem okc_57 : m_okC 57 := m_okC_of (k := 3) (i := 230) rfl rfl
theorem okc_58 : m_okC 58 := m_okC_of (k := 3) (i := 73) rfl rfl
theorem okc_59 : m_okC 59 := m_okC_of (k := 7) (i := 51) rfl rfl
theorem okc_60 : m_okC 60 := m_okC_of (k := 7) (i := 55) rfl rfl
theorem okc_61 : m_okC 61 := m_okC_of (k := 7) (i := 59) rfl rfl
theorem okc_62 : m_okC 62 := m_okC_of (k := 7) (i := 63) rfl rfl
theorem okc_63 : m_okC 63 := m_okC_of (k := 7) (i := 68) rfl rfl
theorem okc_64 : m_okC 64 := m_okC_of (k := 7) (i := 47) rfl rfl
theorem okc_65 : m_okC 65 := m_okC_of (k := 7) (i := 76) rfl rfl
theorem okc_66 : m_okC 66 := m_okC_of (k := 7) (i := 83) rfl rfl
theorem okc_67 : m_okC 67 := m_okC_of (k := 7) (i := 90) rfl rfl
theorem okc_68 : m_okC 68 := m_okC_of (k := 7) (i := 87) rfl rfl
theorem okc_69 : m_okC 69 := m_okC_of (k := 7) (i := 98) rfl rfl
theorem okc_70 : m_okC 70 := m_okC_of (k := 7) (i := 94) rfl rfl
theorem okc_71 : m_okC 71 := m_okC_of (k := 7) (i := 80) rfl rfl
theorem okc_72 : m_okC 72 := m_okC_of (k := 7) (i := 106) rfl rfl
theorem okc_73 : m_okC 73 := m_okC_of (k := 7) (i := 102) rfl rfl
theorem okc_74 : m_okC 74 := m_okC_of (k := 7) (i := 110) rfl rfl
theorem okc_75 : m_okC 75 := m_okC_of (k := 7) (i := 114) rfl rfl
theorem okc_76 : m_okC 76 := m_okC_of (k := 7) (i := 118) rfl rfl
theorem okc_77 : m_okC 77 := m_okC_of (k := 7) (i := 130) rfl rfl
theorem okc_78 : m_okC 78 := m_okC_of (k := 7) (i := 134) rfl rfl
theorem okc_79 : m_okC 79 := m_okC_of (k := 7) (i := 138) rfl rfl
theorem okc_80 : m_okC 80 := m_okC_of (k := 7) (i := 142) rfl rfl
theorem okc_81 : m_okC 81 := m_okC_of (k := 7) (i := 146) rfl rfl
theorem okc_82 : m_okC 82 := m_okC_of (k := 7) (i := 126) rfl rfl
theorem okc_83 : m_okC 83 := m_okC_of (k := 7) (i := 157) rfl rfl
theorem okc_84 : m_okC 84 := m_okC_of (k := 7) (i := 161) rfl rfl
theorem okc_85 : m_okC 85 := m_okC_of (k := 7) (i := 154) rfl rfl
theorem okc_86 : m_okC 86 := m_okC_of (k := 7) (i := 150) rfl rfl
theorem okc_87 : m_okC 87 := m_okC_of (k := 7) (i := 122) rfl rfl
theorem okc_88 : m_okC 88 := m_okC_of (k := 7) (i := 72) rfl rfl
theorem okc_89 : m_okC 89 := m_okC_of (k := 7) (i := 43) rfl rfl
theorem okc_90 : m_okC 90 := m_okC_of (k := 3) (i := 234) rfl rfl
theorem okc_91 : m_okC 91 := m_okC_of (k := 7) (i := 165) rfl rfl
theorem okc_92 : m_okC 92 := m_okC_of (k := 3) (i := 238) rfl rfl
theorem okc_93 : m_okC 93 := m_okC_of (k := 7) (i := 169) rfl rfl
theorem okc_94 : m_okC 94 := m_okC_of (k := 4) (i := 15) rfl rfl
theorem okc_95 : m_okC 95 := m_okC_of (k := 4) (i := 61) rfl rfl
theorem okc_96 : m_okC 96 := m_okC_of (k := 4) (i := 57) rfl rfl
theorem okc_97 : m_okC 97 := m_okC_of (k := 5) (i := 143) rfl rfl
theorem okc_99 : m_okC 99 := m_okC_of (k := 7) (i := 177) rfl rfl
theorem okc_100 : m_okC 100 := m_okC_of (k := 7) (i := 181) rfl rfl
theorem okc_101 : m_okC 101 := m_okC_of (k := 7) (i := 185) rfl rfl
theorem okc_102 : m_okC 102 := m_okC_of (k := 7) (i := 173) rfl rfl
theorem okc_103 : m_okC 103 := m_okC_of (k := 7) (i := 35) rfl rfl
theorem okc_104 : m_okC 104 := m_okC_of (k := 4) (i := 7) rfl rfl
theorem okc_105 : m_okC 105 := m_okC_of (k := 4) (i := 3) rfl rfl
theorem okc_106 : m_okC 106 := m_okC_of (k := 7) (i := 193) rfl rfl
theorem okc_107 : m_okC 107 := m_okC_of (k := 7) (i := 189) rfl rfl
theorem okc_108 : m_okC 108 := m_okC_of (k := 4) (i := 11) rfl rfl
theorem okc_109 : m_okC 109 := m_okC_of (k := 7) (i := 197) rfl rfl
theorem okc_110 : m_okC 110 := m_okC_of (k := 4) (i := 25) rfl rfl
theorem okc_111 : m_okC 111 := m_okC_of (k := 4) (i := 39) rfl rfl
theorem okc_112 : m_okC 112 := m_okC_of (k := 4) (i := 36) rfl rfl
theorem okc_113 : m_okC 113 := m_okC_of (k := 4) (i := 32) rfl rfl
theorem okc_114 : m_okC 114 := m_okC_of (k := 4) (i := 20) rfl rfl
theorem okc_115 : m_okC 115 := m_okC_of (k := 7) (i := 211) rfl rfl
theorem okc_116 : m_okC 116 := m_okC_of (k := 7) (i := 215) rfl rfl
theorem okc_117 : m_okC 117 := m_okC_of (k := 7) (i := 207) rfl rfl
theorem okc_118 : m_okC 118 := m_okC_of (k := 7) (i := 227) rfl rfl
theorem okc_119 : m_okC 119 := m_okC_of (k := 7) (i := 233) rfl rfl
theorem okc_120 : m_okC 120 := m_okC_of (k := 7) (i := 236) rfl rfl
theorem okc_121 : m_okC 121 := m_okC_of (k := 7) (i := 223) rfl rfl
theorem okc_122 : m_okC 122 := m_okC_of (k := 7) (i := 219) rfl rfl
theorem okc_123 : m_okC 123 := m_okC_of (k := 7) (i := 202) rfl rfl
theorem okc_124 : m_okC 124 := m_okC_of (k := 4) (i := 53) rfl rfl
theorem okc_125 : m_okC 125 := m_okC_of (k := 4) (i := 65) rfl rfl
theorem okc_126 : m_okC 126 := m_okC_of (k := 4) (i := 49) rfl rfl
theorem okc_127 : m_okC 127 := m_okC_of (k := 8) (i := 8) rfl rfl
theorem okc_128 : m_okC 128 := m_okC_of (k := 8) (i := 4) rfl rfl
theorem okc_129 : m_okC 129 := m_okC_of (k := 8) (i := 12) rfl rfl
theorem okc_130 : m_okC 130 := m_okC_of (k := 8) (i := 0) rfl rfl
theorem okc_131 : m_okC 131 := m_okC_of (k := 4) (i := 74) rfl rfl
theorem okc_132 : m_okC 132 := m_okC_of (k := 4) (i := 69) rfl rfl
theorem okc_133 : m_okC 133 := m_okC_of (k := 8) (i := 20) rfl rfl
theorem okc_134 : m_okC 134 := m_okC_of (k := 8) (i := 16) rfl rfl
theorem okc_135 : m_okC 135 := m_okC_of (k := 4) (i := 78) rfl rfl
theorem okc_136 : m_okC 136 := m_okC_of (k := 8) (i := 24) rfl rfl
theorem okc_137 : m_okC 137 := m_okC_of (k := 4) (i := 86) rfl rfl
theorem okc_138 : m_okC 138 := m_okC_of (k := 4) (i := 82) rfl rfl
theorem okc_139 : m_okC 139 := m_okC_of (k := 8) (i := 32) rfl rfl
theorem okc_140 : m_okC 140 := m_okC_of (k := 8) (i := 28) rfl rfl
theorem okc_141 : m_okC 141 := m_okC_of (k := 4) (i := 98) rfl rfl
theorem okc_142 : m_okC 142 := m_okC_of (k := 4) (i := 107) rfl rfl
theorem okc_143 : m_okC 143 := m_okC_of (k := 4) (i := 103) rfl rfl
theorem okc_144 : m_okC 144 := m_okC_of (k := 4) (i := 114) rfl rfl
theorem okc_145 : m_okC 145 := m_okC_of (k := 4) (i := 126) rfl rfl
theorem okc_146 : m_okC 146 := m_okC_of (k := 4) (i := 136) rfl rfl
theorem okc_147 : m_okC 147 := m_okC_of (k := 4) (i := 118) rfl rfl
theorem okc_148 : m_okC 148 := m_okC_of (k := 4) (i := 141) rfl rfl
theorem okc_149 : m_okC 149 := m_okC_of (k := 4) (i := 147) rfl rfl
theorem okc_150 : m_okC 150 := m_okC_of (k := 4) (i := 155) rfl rfl
theorem okc_151 : m_okC 151 := m_okC_of (k := 4) (i := 94) rfl rfl
theorem okc_152 : m_okC 152 := m_okC_of (k := 4) (i := 90) rfl rfl
theorem okc_153 : m_okC 153 := m_okC_of (k := 8) (i := 48) rfl rfl
theorem okc_154 : m_okC 154 := m_okC_of (k := 8) (i := 44) rfl rfl
theorem okc_155 : m_okC 155 := m_okC_of (k := 8) (i := 60) rfl rfl
theorem okc_156 : m_okC 156 := m_okC_of (k := 8) (i := 64) rfl rfl
theorem okc_157 : m_okC 157 := m_okC_of (k := 8) (i := 56) rfl rfl
theorem okc_158 : m_okC 158 := m_okC_of (k := 8) (i := 68) rfl rfl
theorem okc_159 : m_okC 159 := m_okC_of (k := 8) (i := 75) rfl rfl
theorem okc_160 : m_okC 160 := m_okC_of (k := 8) (i := 72) rfl rfl
theorem okc_161 : m_okC 161 := m_okC_of (k := 8) (i := 83) rfl rfl
theorem okc_162 : m_okC 162 := m_okC_of (k := 8) (i := 79) rfl rfl
theorem okc_163 : m_okC 163 := m_okC_of (k := 8) (i := 40) rfl rfl
theorem okc_164 : m_okC 164 := m_okC_of (k := 8) (i := 36) rfl rfl
theorem okc_165 : m_okC 165 := m_okC_of (k := 4) (i := 171) rfl rfl
theorem okc_166 : m_okC 166 := m_okC_of (k := 4) (i := 167) rfl rfl
theorem okc_167 : m_okC 167 := m_okC_of (k := 4) (i := 176) rfl rfl
theorem okc_168 : m_okC 168 := m_okC_of (k := 4) (i := 180) rfl rfl
theorem okc_169 : m_okC 169 := m_okC_of (k := 4) (i := 163) rfl rfl
theorem okc_170 : m_okC 170 := m_okC_of (k := 8) (i := 91) rfl rfl
theorem okc_171 : m_okC 171 := m_okC_of (k := 8) (i := 95) rfl rfl
theorem okc_172 : m_okC 172 := m_okC_of (k := 8) (i := 99) rfl rfl
theorem okc_173 : m_okC 173 := m_okC_of (k := 8) (i := 87) rfl rfl
theorem okc_174 : m_okC 174 := m_okC_of (k := 4) (i := 188) rfl rfl
theorem okc_175 : m_okC 175 := m_okC_of (k := 4) (i := 184) rfl rfl
theorem okc_176 : m_okC 176 := m_okC_of (k := 8) (i := 107) rfl rfl
theorem okc_177 : m_okC 177 := m_okC_of (k := 8) (i := 103) rfl rfl
theorem okc_178 : m_okC 178 := m_okC_of (k := 4) (i := 192) rfl rfl
theorem okc_179 : m_okC 179 := m_okC_of (k := 8) (i := 111) rfl rfl
theorem okc_180 : m_okC 180 := m_okC_of (k := 4) (i := 199) rfl rfl
theorem okc_181 : m_okC 181 := m_okC_of (k := 4) (i := 210) rfl rfl
theorem okc_182 : m_okC 182 := m_okC_of (k := 4) (i := 206) rfl rfl
theorem okc_183 : m_okC 183 := m_okC_of (k := 4) (i := 196) rfl rfl
theorem okc_184 : m_okC 184 := m_okC_of (k := 8) (i := 118) rfl rfl
theorem okc_185 : m_okC 185 := m_okC_of (k := 8) (i := 121) rfl rfl
theorem okc_186 : m_okC 186 := m_okC_of (k := 8) (i := 125) rfl rfl
theorem okc_187 : m_okC 187 := m_okC_of (k := 8) (i := 115) rfl rfl
theorem okc_188 : m_okC 188 := m_okC_of (k := 4) (i := 218) rfl rfl
theorem okc_189 : m_okC 189 := m_okC_of (k := 8) (i := 129) rfl rfl
theorem okc_190 : m_okC 190 := m_okC_of (k := 4) (i := 226) rfl rfl
theorem okc_191 : m_okC 191 := m_okC_of (k := 4) (i := 222) rfl rfl
theorem okc_192 : m_okC 192 := m_okC_of (k := 8) (i := 133) rfl rfl
theorem okc_193 : m_okC 193 := m_okC_of (k := 4) (i := 230) rfl rfl
theorem okc_194 : m_okC 194 := m_okC_of (k := 8) (i := 137) rfl rfl
theorem okc_195 : m_okC 195 := m_okC_of (k := 4) (i := 238) rfl rfl
theorem okc_196 : m_okC 196 := m_okC_of (k := 4) (i := 234) rfl rfl
theorem okc_197 : m_okC 197 := m_okC_of (k := 8) (i := 141) rfl rfl
theorem okc_198 : m_okC 198 := m_okC_of (k := 5) (i := 2) rfl rfl
theorem okc_199 : m_okC 199 := m_okC_of (k := 8) (i := 145) rfl rfl
theorem okc_200 : m_okC 200 := m_okC_of (k := 5) (i := 6) rfl rfl
theorem okc_201 : m_okC 201 := m_okC_of (k := 8) (i := 149) rfl rfl
theorem okc_202 : m_okC 202 := m_okC_of (k := 5) (i := 14) rfl rfl
theorem okc_203 : m_okC 203 := m_okC_of (k := 5) (i := 21) rfl rfl
theorem okc_204 : m_okC 204 := m_okC_of (k := 5) (i := 18) rfl rfl
theorem okc_205 : m_okC 205 := m_okC_of (k := 5) (i := 10) rfl rfl
theorem okc_206 : m_okC 206 := m_okC_of (k := 8) (i := 181) rfl rfl
theorem okc_207 : m_okC 207 := m_okC_of (k := 8) (i := 188) rfl rfl
theorem okc_208 : m_okC 208 := m_okC_of (k := 8) (i := 185) rfl rfl
theorem okc_209 : m_okC 209 := m_okC_of (k := 8) (i := 177) rfl rfl
theorem okc_210 : m_okC 210 := m_okC_of (k := 5) (i := 25) rfl rfl
theorem okc_211 : m_okC 211 := m_okC_of (k := 8) (i := 192) rfl rfl
theorem okc_212 : m_okC 212 := m_okC_of (k := 5) (i := 29) rfl rfl
theorem okc_213 : m_okC 213 := m_okC_of (k := 8) (i := 153) rfl rfl
theorem okc_214 : m_okC 214 := m_okC_of (k := 5) (i := 34) rfl rfl
theorem okc_215 : m_okC 215 := m_okC_of (k := 8) (i := 157) rfl rfl
theorem okc_216 : m_okC 216 := m_okC_of (k := 5) (i := 38) rfl rfl
theorem okc_217 : m_okC 217 := m_okC_of (k := 8) (i := 161) rfl rfl
theorem okc_218 : m_okC 218 := m_okC_of (k := 5) (i := 42) rfl rfl
theorem okc_219 : m_okC 219 := m_okC_of (k := 8) (i := 165) rfl rfl
theorem okc_220 : m_okC 220 := m_okC_of (k := 5) (i := 47) rfl rfl
theorem okc_221 : m_okC 221 := m_okC_of (k := 8) (i := 169) rfl rfl
theorem okc_222 : m_okC 222 := m_okC_of (k := 5) (i := 51) rfl rfl
theorem okc_223 : m_okC 223 := m_okC_of (k := 8) (i := 173) rfl rfl
theorem okc_224 : m_okC 224 := m_okC_of (k := 5) (i := 59) rfl rfl
theorem okc_225 : m_okC 225 := m_okC_of (k := 5) (i := 55) rfl rfl
theorem okc_226 : m_okC 226 := m_okC_of (k := 8) (i := 200) rfl rfl
theorem okc_227 : m_okC 227 := m_okC_of (k := 8) (i := 196) rfl rfl
theorem okc_228 : m_okC 228 := m_okC_of (k := 5) (i := 67) rfl rfl
theorem okc_229 : m_okC 229 := m_okC_of (k := 5) (i := 63) rfl rfl
theorem okc_230 : m_okC 230 := m_okC_of (k := 8) (i := 204) rfl rfl
theorem okc_231 : m_okC 231 := m_okC_of (k := 5) (i := 71) rfl rfl
theorem okc_232 : m_okC 232 := m_okC_of (k := 8) (i := 208) rfl rfl
theorem okc_233 : m_okC 233 := m_okC_of (k := 5) (i := 83) rfl rfl
theorem okc_234 : m_okC 234 := m_okC_of (k := 5) (i := 79) rfl rfl
theorem okc_235 : m_okC 235 := m_okC_of (k := 5) (i := 92) rfl rfl
theorem okc_236 : m_okC 236 := m_okC_of (k := 5) (i := 97) rfl rfl
theorem okc_237 : m_okC 237 := m_okC_of (k := 5) (i := 88) rfl rfl
theorem okc_238 : m_okC 238 := m_okC_of (k := 5) (i := 75) rfl rfl
theorem okc_239 : m_okC 239 := m_okC_of (k := 8) (i := 216) rfl rfl
theorem okc_240 : m_okC 240 := m_okC_of (k := 8) (i := 224) rfl rfl
theorem okc_241 : m_okC 241 := m_okC_of (k := 8) (i := 220) rfl rfl
theorem okc_242 : m_okC 242 := m_okC_of (k := 8) (i := 212) rfl rfl
theorem okc_243 : m_okC 243 := m_okC_of (k := 5) (i := 101) rfl rfl
theorem okc_244 : m_okC 244 := m_okC_of (k := 8) (i := 228) rfl rfl
theorem okc_245 : m_okC 245 := m_okC_of (k := 5) (i := 109) rfl rfl
theorem okc_246 : m_okC 246 := m_okC_of (k := 5) (i := 105) rfl rfl
theorem okc_247 : m_okC 247 := m_okC_of (k := 8) (i := 232) rfl rfl
theorem okc_248 : m_okC 248 := m_okC_of (k := 5) (i := 117) rfl rfl
theorem okc_249 : m_okC 249 := m_okC_of (k := 5) (i := 113) rfl rfl
theorem okc_250 : m_okC 250 := m_okC_of (k := 9) (i := 0) rfl rfl
theorem okc_251 : m_okC 251 := m_okC_of (k := 8) (i := 236) rfl rfl
theorem okc_252 : m_okC 252 := m_okC_of (k := 5) (i := 121) rfl rfl
theorem okc_253 : m_okC 253 := m_okC_of (k := 9) (i := 4) rfl rfl
theorem okc_254 : m_okC 254 := m_okC_of (k := 5) (i := 125) rfl rfl
theorem okc_255 : m_okC 255 := m_okC_of (k := 9) (i := 8) rfl rfl
theorem okc_256 : m_okC 256 := m_okC_of (k := 5) (i := 133) rfl rfl
theorem okc_257 : m_okC 257 := m_okC_of (k := 5) (i := 129) rfl rfl
theorem okc_258 : m_okC 258 := m_okC_of (k := 9) (i := 12) rfl rfl
theorem ok_to {P : Nat → Prop} {m k : Nat} (h : m = k) (hp : P k) : P m := h ▸ hp
theorem okM_all (m : Nat) (h : m < 260) (hl : ¬ m = 259) (hn : ¬ m = 98) : m_okN m = true ∧ m_okC m := by
  rcases Nat.lt_or_ge m 130 with h1 | h1
  · rcases Nat.lt_or_ge m 65 with h2 | h2
    · rcases Nat.lt_or_ge m 32 with h3 | h3
      · rcases Nat.lt_or_ge m 16 with h4 | h4
        · rcases Nat.lt_or_ge m 8 with h5 | h5
          · rcases Nat.lt_or_ge m 4 with h6 | h6
            · rcases Nat.lt_or_ge m 2 with h7 | h7
              · rcases Nat.lt_or_ge m 1 with h8 | h8
                · exact ok_to (P := fun m => m_okN m = true ∧ m_okC m) (show m = 0 by omega) ⟨List.all_eq_true.mp okm_0 0 (by decide), okc_0⟩
                · exact ok_to (P := fun m => m_okN m = true ∧ m_okC m) (show m = 1 by omega) ⟨List.all_eq_true.mp okm_0 1 (by decide), okc_1⟩
              · rcases Nat.lt_or_ge m 3 with h8 | h8
                · exact ok_to (P := fun m => m_okN m = true ∧ m_okC m) (show m = 2 by omega) ⟨List.all_eq_true.mp okm_0 2 (by decide), okc_2⟩
                · exact ok_to (P := fun m => m_okN m = true ∧ m_okC m) (show m = 3 by omega) ⟨List.all_eq_true.mp okm_0 3 (by decide), okc_3⟩
            · rcases Nat.lt_or_ge m 6 with h7 | h7
              · rcases Nat.lt_or_ge m 5 with h8 | h8
                · exact ok_to (P := fun m => m_okN m = true ∧ m_okC m) (show m = 4 by omega) ⟨List.all_eq_true.mp okm_0 4 (by decide), okc_4⟩
                · exact ok_to (P := fun m => m_okN m = true ∧ m_okC m) (show m = 5 by omega) ⟨List.all_eq_true.mp okm_0 5 (by decide), okc_5⟩
              · rcases Nat.lt_or_ge m 7 with h8 | h8
                · exact ok_to (P := fun m => m_okN m = true ∧ m_okC m) (show m = 6 by omega) ⟨List.all_eq_true.mp okm_0 6 (by decide), okc_6⟩
                · exact ok_to (P := fun m => m_okN m = true ∧ m_okC m) (show m = 7 by omega) ⟨List.all_eq_true.mp okm_0 7 (by decide), okc_7⟩
          · rcases Nat.lt_or_ge m 12 with h6 | h6
            · rcases Nat.lt_or_ge m 10 with h7 | h7
              · rcases Nat.lt_or_ge m 9 with h8 | h8
                · exact ok_to (P := fun m => m_okN m = true ∧ m_okC m) (show m = 8 by omega) ⟨List.all_eq_true.mp okm_0 8 (by decide), okc_8⟩
                · exact ok_to (P := fun m => m_okN m = true ∧ m_okC m) (show m = 9 by omega) ⟨List.all_eq_true.mp okm_0 9 (by decide), okc_9⟩
              · rcases Nat.lt_or_ge m 11 with h8 | h8
                · exact ok_to (P := fun m => m_okN m = true ∧ m_okC m) (show m = 10 by omega) ⟨List.all_eq_true.mp okm_0 10 (by decide), okc_10⟩
                · exact ok_to (P := fun m => m_okN m = true ∧ m_okC m) (show m = 11 by omega) ⟨List.all_eq_true.mp okm_0 11 (by decide), okc_11⟩
            · rcases Nat.lt_or_ge m 14 with h7 | h7
              · rcases Nat.lt_or_ge m 13 with h8 | h8
                · exact ok_to (P := fun m => m_okN m = true ∧ m_okC m) (show m = 12 by omega) ⟨List.all_eq_true.mp okm_0 12 (by decide), okc_12⟩
                · exact ok_to (P := fun m => m_okN m = true ∧ m_okC m) (show m = 13 by omega) ⟨List.all_eq_true.mp okm_0 13 (by decide), okc_13⟩
              · rcases Nat.lt_or_ge m 15 with h8 | h8
                · exact ok_to (P := fun m => m_okN m = true ∧ m_okC m) (show m = 14 by omega) ⟨List.all_eq_true.mp okm_0 14 (by decide), okc_14⟩
                · exact ok_to (P := fun m => m_okN m = true ∧ m_okC m) (show m = 15 by omega) ⟨List.all_eq_true.mp okm_0 15 (by decide), okc_15⟩
        · rcases Nat.lt_or_ge m 24 with h5 | h5
          · rcases Nat.lt_or_ge m 20 with h6 | h6
            · rcases Nat.lt_or_ge m 18 with h7 | h7
              · rcases Nat.lt_or_ge m 17 with h8 | h8
                · exact ok_to (P := fun m => m_okN m = true ∧ m_okC m) (show m = 16 by omega) ⟨List.all_eq_true.mp okm_0 16 (by decide), okc_16⟩
                · exact ok_to (P := fun m => m_okN m = true ∧ m_okC m) (show m = 17 by omega) ⟨List.all_eq_true.mp okm_0 17 (by decide), okc_17⟩
              · rcases Nat.lt_or_ge m 19 with h8 | h8
                · exact ok_to (P := fun m => m_okN m = true ∧ m_okC m) (show m = 18 by omega) ⟨List.all_eq_true.mp okm_0 18 (by decide), okc_18⟩
                · exact ok_to (P := fun m => m_okN m = true ∧ m_okC m) (show m = 19 by omega) ⟨List.all_eq_true.mp okm_0 19 (by decide), okc_19⟩
            · rcases Nat.lt_or_ge m 22 with h7 | h7
              · rcases Nat.lt_or_ge m 21 with h8 | h8
                · exact ok_to (P := fun m => m_okN m = true ∧ m_okC m) (show m = 20 by omega) ⟨List.all_eq_true.mp okm_1 20 (by decide), okc_20⟩
                · exact ok_to (P := fun m => m_okN m = true ∧ m_okC m) (show m = 21 by omega) ⟨List.all_eq_true.mp okm_1 21 (by decide), okc_21⟩
              · rcases Nat.lt_or_ge m 23 with h8 | h8
                · exact ok_to (P := fun m => m_okN m = true ∧ m_okC m) (show m = 22 by omega) ⟨List.all_eq_true.mp okm_1 22 (by decide), okc_22⟩
                · exact ok_to (P := fun m => m_okN m = true ∧ m_okC m) (show m = 23 by omega) ⟨List.all_eq_true.mp okm_1 23 (by decide), okc_23⟩
          · rcases Nat.lt_or_ge m 28 with h6 | h6
            · rcases Nat.lt_or_ge m 26 with h7 | h7
              · rcases Nat.lt_or_ge m 25 with h8 | h8
                · exact ok_to (P := fun m => m_okN m = true ∧ m_okC m) (show m = 24 by omega) ⟨List.all_eq_true.mp okm_1 24 (by decide), okc_24⟩
                · exact ok_to (P := fun m => m_okN m = true ∧ m_okC m) (show m = 25 by omega) ⟨List.all_eq_true.mp okm_1 25 (by decide), okc_25⟩
              · rcases Nat.lt_or_ge m 27 with h8 | h8
                · exact ok_to (P := fun m => m_okN m = true ∧ m_okC m) (show m = 26 by omega) ⟨List.all_eq_true.mp okm_1 26 (by decide), okc_26⟩
                · exact ok_to (P := fun m => m_okN m = true ∧ m_okC m) (show m = 27 by omega) ⟨List.all_eq_true.mp okm_1 27 (by decide), okc_27⟩
            · rcases Nat.lt_or_ge m 30 with h7 | h7
              · rcases Nat.lt_or_ge m 29 with h8 | h8
                · exact ok_to (P := fun m => m_okN m = true ∧ m_okC m) (show m = 28 by omega) ⟨List.all_eq_true.mp okm_1 28 (by decide), okc_28⟩
                · exact ok_to (P := fun m => m_okN m = true ∧ m_okC m) (show m = 29 by omega) ⟨List.all_eq_true.mp okm_1 29 (by decide), okc_29⟩
              · rcases Nat.lt_or_ge m 31 with h8 | h8
                · exact ok_to (P := fun m => m_okN m = true ∧ m_okC m) (show m = 30 by omega) ⟨List.all_eq_true.mp okm_1 30 (by decide), okc_30⟩
                · exact ok_to (P := fun m => m_okN m = true ∧ m_okC m) (show m = 31 by omega) ⟨List.all_eq_true.mp okm_1 31 (by decide), okc_31⟩
      · rcases Nat.lt_or_ge m 48 with h4 | h4
        · rcases Nat.lt_or_ge m 40 with h5 | h5
          · rcases Nat.lt_or_ge m 36 with h6 | h6
            · rcases Nat.lt_or_ge m 34 with h7 | h7
              · rcases Nat.lt_or_ge m 33 with h8 | h8
                · exact ok_to (P := fun m => m_okN m = true ∧ m_okC m) (show m = 32 by omega) ⟨List.all_eq_true.mp okm_1 32 (by decide), okc_32⟩
                · exact ok_to (P := fun m => m_okN m = true ∧ m_okC m) (show m = 33 by omega) ⟨List.all_eq_true.mp okm_1 33 (by decide), okc_33⟩
              · rcases Nat.lt_or_ge m 35 with h8 | h8
                · exact ok_to (P := fun m => m_okN m = true ∧ m_okC m) (show m = 34 by omega) ⟨List.all_eq_true.mp okm_1 34 (by decide), okc_34⟩
                · exact ok_to (P := fun m => m_okN m = true ∧ m_okC m) (show m = 35 by omega) ⟨List.all_eq_true.mp okm_1 35 (by decide), okc_35⟩
            · rcases Nat.lt_or_ge m 38 with h7 | h7
              · rcases Nat.lt_or_ge m 37 with h8 | h8
                · exact ok_to (P := fun m => m_okN m = true ∧ m_okC m) (show m = 36 by omega) ⟨List.all_eq_true.mp okm_1 36 (by decide), okc_36⟩
                · exact ok_to (P := fun m => m_okN m = true ∧ m_okC m) (show m = 37 by omega) ⟨List.all_eq_true.mp okm_1 37 (by decide), okc_37⟩
              · rcases Nat.lt_or_ge m 39 with h8 | h8
                · exact ok_to (P := fun m => m_okN m = true ∧ m_okC m) (show m = 38 by omega) ⟨List.all_eq_true.mp okm_1 38 (by decide), okc_38⟩
                · exact ok_to (P := fun m => m_okN m = true ∧ m_okC m) (show m = 39 by omega) ⟨List.all_eq_true.mp okm_1 39 (by decide), okc_39⟩
          · rcases Nat.lt_or_ge m 44 with h6 | h6
            · rcases Nat.lt_or_ge m 42 with h7 | h7
              · rcases Nat.lt_or_ge m 41 with h8 | h8
                · exact ok_to (P := fun m => m_okN m = true ∧ m_okC m) (show m = 40 by omega) ⟨List.all_eq_true.mp okm_2 40 (by decide), okc_40⟩
                · exact ok_to (P := fun m => m_okN m = true ∧ m_okC m) (show m = 41 by omega) ⟨List.all_eq_true.mp okm_2 41 (by decide), okc_41⟩
              · rcases Nat.lt_or_ge m 43 with h8 | h8
                · exact ok_to (P := fun m => m_okN m = true ∧ m_okC m) (show m = 42 by omega) ⟨List.all_eq_true.mp okm_2 42 (by decide), okc_42⟩
                · exact ok_to (P := fun m => m_okN m = true ∧ m_okC m) (show m = 43 by omega) ⟨List.all_eq_true.mp okm_2 43 (by decide), okc_43⟩
            · rcases Nat.lt_or_ge m 46 with h7 | h7
              · rcases Nat.lt_or_ge m 45 with h8 | h8
                · exact ok_to (P := fun m => m_okN m = true ∧ m_okC m) (show m = 44 by omega) ⟨List.all_eq_true.mp okm_2 44 (by decide), okc_44⟩
                · exact ok_to (P := fun m => m_okN m = true ∧ m_okC m) (show m = 45 by omega) ⟨List.all_eq_true.mp okm_2 45 (by decide), okc_45⟩
              · rcases Nat.lt_or_ge m 47 with h8 | h8
                · exact ok_to (P := fun m => m_okN m = true ∧ m_okC m) (show m = 46 by omega) ⟨List.all_eq_true.mp okm_2 46 (by decide), okc_46⟩
                · exact ok_to (P := fun m => m_okN m = true ∧ m_okC m) (show m = 47 by omega) ⟨List.all_eq_true.mp okm_2 47 (by decide), okc_47⟩
        · rcases Nat.lt_or_ge m 56 with h5 | h5
          · rcases Nat.lt_or_ge m 52 with h6 | h6
            · rcases Nat.lt_or_ge m 50 with h7 | h7
              · rcases Nat.lt_or_ge m 49 with h8 | h8
                · exact ok_to (P := fun m => m_okN m = true ∧ m_okC m) (show m = 48 by omega) ⟨List.all_eq_true.mp okm_2 48 (by decide), okc_48⟩
                · exact ok_to (P := fun m => m_okN m = true ∧ m_okC m) (show m = 49 by omega) ⟨List.all_eq_true.mp okm_2 49 (by decide), okc_49⟩
              · rcases Nat.lt_or_ge m 51 with h8 | h8
                · exact ok_to (P := fun m => m_okN m = true ∧ m_okC m) (show m = 50 by omega) ⟨List.all_eq_true.mp okm_2 50 (by decide), okc_50⟩
                · exact ok_to (P := fun m => m_okN m = true ∧ m_okC m) (show m = 51 by omega) ⟨List.all_eq_true.mp okm_2 51 (by decide), okc_51⟩
            · rcases Nat.lt_or_ge m 54 with h7 | h7
              · rcases Nat.lt_or_ge m 53 with h8 | h8
                · exact ok_to (P := fun m => m_okN m = true ∧ m_okC m) (show m = 52 by omega) ⟨List.all_eq_true.mp okm_2 52 (by decide), okc_52⟩
                · exact ok_to (P := fun m => m_okN m = true ∧ m_okC m) (show m = 53 by omega) ⟨List.all_eq_true.mp okm_2 53 (by decide), okc_53⟩
              · rcases Nat.lt_or_ge m 55 with h8 | h8
                · exact ok_to (P := fun m => m_okN m = true ∧ m_okC m) (show m = 54 by omega) ⟨List.all_eq_true.mp okm_2 54 (by decide), okc_54⟩
                · exact ok_to (P := fun m => m_okN m = true ∧ m_okC m) (show m = 55 by omega) ⟨List.all_eq_true.mp okm_2 55 (by decide), okc_55⟩
          · rcases Nat.lt_or_ge m 60 with h6 | h6
            · rcases Nat.lt_or_ge m 58 with h7 | h7
              · rcases Nat.lt_or_ge m 57 with h8 | h8
                · exact ok_to (P := fun m => m_okN m = true ∧ m_okC m) (show m = 56 by omega) ⟨List.all_eq_true.mp okm_2 56 (by decide), okc_56⟩
                · exact ok_to (P := fun m => m_okN m = true ∧ m_okC m) (show m = 57 by omega) ⟨List.all_eq_true.mp okm_2 57 (by decide), okc_57⟩
              · rcases Nat.lt_or_ge m 59 with h8 | h8
                · exact ok_to (P := fun m => m_okN m = true ∧ m_okC m) (show m = 58 by omega) ⟨List.all_eq_true.mp okm_2 58 (by decide), okc_58⟩
                · exact ok_to (P := fun m => m_okN m = true ∧ m_okC m) (show m = 59 by omega) ⟨List.all_eq_true.mp okm_2 59 (by decide), okc_59⟩
            · rcases Nat.lt_or_ge m 62 with h7 | h7
              · rcases Nat.lt_or_ge m 61 with h8 | h8
                · exact ok_to (P := fun m => m_okN m = true ∧ m_okC m) (show m = 60 by omega) ⟨List.all_eq_true.mp okm_3 60 (by decide), okc_60⟩
                · exact ok_to (P := fun m => m_okN m = true ∧ m_okC m) (show m = 61 by omega) ⟨List.all_eq_true.mp okm_3 61 (by decide), okc_61⟩
              · rcases Nat.lt_or_ge m 63 with h8 | h8
                · exact ok_to (P := fun m => m_okN m = true ∧ m_okC m) (show m = 62 by omega) ⟨List.all_eq_true.mp okm_3 62 (by decide), okc_62⟩
                · rcases Nat.lt_or_ge m 64 with h9 | h9
                  · exact ok_to (P := fun m => m_okN m = true ∧ m_okC m) (show m = 63 by omega) ⟨List.all_eq_true.mp okm_3 63 (by decide), okc_63⟩
                  · exact ok_to (P := fun m => m_okN m = true ∧ m_okC m) (show m = 64 by omega) ⟨List.all_eq_true.mp okm_3 64 (by decide), okc_64⟩
    · rcases Nat.lt_or_ge m 97 with h3 | h3
      · rcases Nat.lt_or_ge m 81 with h4 | h4
        · rcases Nat.lt_or_ge m 73 with h5 | h5
          · rcases Nat.lt_or_ge m 69 with h6 | h6
            · rcases Nat.lt_or_ge m 67 with h7 | h7
              · rcases Nat.lt_or_ge m 66 with h8 | h8
                · exact ok_to (P := fun m => m_okN m = true ∧ m_okC m) (show m = 65 by omega) ⟨List.all_eq_true.mp okm_3 65 (by decide), okc_65⟩
                · exact ok_to (P := fun m => m_okN m = true ∧ m_okC m) (show m = 66 by omega) ⟨List.all_eq_true.mp okm_3 66 (by decide), okc_66⟩
              · rcases Nat.lt_or_ge m 68 with h8 | h8
                · exact ok_to (P := fun m => m_okN m = true ∧ m_okC m) (show m = 67 by omega) ⟨List.all_eq_true.mp okm_3 67 (by decide), okc_67⟩
                · exact ok_to (P := fun m => m_okN m = true ∧ m_okC m) (show m = 68 by omega) ⟨List.all_eq_true.mp okm_3 68 (by decide), okc_68⟩
            · rcases Nat.lt_or_ge m 71 with h7 | h7
              · rcases Nat.lt_or_ge m 70 with h8 | h8
                · exact ok_to (P := fun m => m_okN m = true ∧ m_okC m) (show m = 69 by omega) ⟨List.all_eq_true.mp okm_3 69 (by decide), okc_69⟩
                · exact ok_to (P := fun m => m_okN m = true ∧ m_okC m) (show m = 70 by omega) ⟨List.all_eq_true.mp okm_3 70 (by decide), okc_70⟩
              · rcases Nat.lt_or_ge m 72 with h8 | h8
                · exact ok_to (P := fun m => m_okN m = true ∧ m_okC m) (show m = 71 by omega) ⟨List.all_eq_true.mp okm_3 71 (by decide), okc_71⟩
                · exact ok_to (P := fun m => m_okN m = true ∧ m_okC m) (show m = 72 by omega) ⟨List.all_eq_true.mp okm_3 72 (by decide), okc_72⟩
          · rcases Nat.lt_or_ge m 77 with h6 | h6
            · rcases Nat.lt_or_ge m 75 with h7 | h7
              · rcases Nat.lt_or_ge m 74 with h8 | h8
                · exact ok_to (P := fun m => m_okN m = true ∧ m_okC m) (show m = 73 by omega) ⟨List.all_eq_true.mp okm_3 73 (by decide), okc_73⟩
                · exact ok_to (P := fun m => m_okN m = true ∧ m_okC m) (show m = 74 by omega) ⟨List.all_eq_true.mp okm_3 74 (by decide), okc_74⟩
              · rcases Nat.lt_or_ge m 76 with h8 | h8
                · exact ok_to (P := fun m => m_okN m = true ∧ m_okC m) (show m = 75 by omega) ⟨List.all_eq_true.mp okm_3 75 (by decide), okc_75⟩
                · exact ok_to (P := fun m => m_okN m = true ∧ m_okC m) (show m = 76 by omega) ⟨List.all_eq_true.mp okm_3 76 (by decide), okc_76⟩
            · rcases Nat.lt_or_ge m 79 with h7 | h7
              · rcases Nat.lt_or_ge m 78 with h8 | h8
                · exact ok_to (P := fun m => m_okN m = true ∧ m_okC m) (show m = 77 by omega) ⟨List.all_eq_true.mp okm_3 77 (by decide), okc_77⟩
                · exact ok_to (P := fun m => m_okN m = true ∧ m_okC m) (show m = 78 by omega) ⟨List.all_eq_true.mp okm_3 78 (by decide), okc_78⟩
              · rcases Nat.lt_or_ge m 80 with h8 | h8
                · exact ok_to (P := fun m => m_okN m = true ∧ m_okC m) (show m = 79 by omega) ⟨List.all_eq_true.mp okm_3 79 (by decide), okc_79⟩
                · exact ok_to (P := fun m => m_okN m = true ∧ m_okC m) (show m = 80 by omega) ⟨List.all_eq_true.mp okm_4 80 (by decide), okc_80⟩
        · rcases Nat.lt_or_ge m 89 with h5 | h5
          · rcases Nat.lt_or_ge m 85 with h6 | h6
            · rcases Nat.lt_or_ge m 83 with h7 | h7
              · rcases Nat.lt_or_ge m 82 with h8 | h8
                · exact ok_to (P := fun m => m_okN m = true ∧ m_okC m) (show m = 81 by omega) ⟨List.all_eq_true.mp okm_4 81 (by decide), okc_81⟩
                · exact ok_to (P := fun m => m_okN m = true ∧ m_okC m) (show m = 82 by omega) ⟨List.all_eq_true.mp okm_4 82 (by decide), okc_82⟩
              · rcases Nat.lt_or_ge m 84 with h8 | h8
                · exact ok_to (P := fun m => m_okN m = true ∧ m_okC m) (show m = 83 by omega) ⟨List.all_eq_true.mp okm_4 83 (by decide), okc_83⟩
                · exact ok_to (P := fun m => m_okN m = true ∧ m_okC m) (show m = 84 by omega) ⟨List.all_eq_true.mp okm_4 84 (by decide), okc_84⟩
            · rcases Nat.lt_or_ge m 87 with h7 | h7
              · rcases Nat.lt_or_ge m 86 with h8 | h8
                · exact ok_to (P := fun m => m_okN m = true ∧ m_okC m) (show m = 85 by omega) ⟨List.all_eq_true.mp okm_4 85 (by decide), okc_85⟩
                · exact ok_to (P := fun m => m_okN m = true ∧ m_okC m) (show m = 86 by omega) ⟨List.all_eq_true.mp okm_4 86 (by decide), okc_86⟩
              · rcases Nat.lt_or_ge m 88 with h8 | h8
                · exact ok_to (P := fun m => m_okN m = true ∧ m_okC m) (show m = 87 by omega) ⟨List.all_eq_true.mp okm_4 87 (by decide), okc_87⟩
                · exact ok_to (P := fun m => m_okN m = true ∧ m_okC m) (show m = 88 by omega) ⟨List.all_eq_true.mp okm_4 88 (by decide), okc_88⟩
          · rcases Nat.lt_or_ge m 93 with h6 | h6
            · rcases Nat.lt_or_ge m 91 with h7 | h7
              · rcases Nat.lt_or_ge m 90 with h8 | h8
                · exact ok_to (P := fun m => m_okN m = true ∧ m_okC m) (show m = 89 by omega) ⟨List.all_eq_true.mp okm_4 89 (by decide), okc_89⟩
                · exact ok_to (P := fun m => m_okN m = true ∧ m_okC m) (show m = 90 by omega) ⟨List.all_eq_true.mp okm_4 90 (by decide), okc_90⟩
              · rcases Nat.lt_or_ge m 92 with h8 | h8
                · exact ok_to (P := fun m => m_okN m = true ∧ m_okC m) (show m = 91 by omega) ⟨List.all_eq_true.mp okm_4 91 (by decide), okc_91⟩
                · exact ok_to (P := fun m => m_okN m = true ∧ m_okC m) (show m = 92 by omega) ⟨List.all_eq_true.mp okm_4 92 (by decide), okc_92⟩
            · rcases Nat.lt_or_ge m 95 with h7 | h7
              · rcases Nat.lt_or_ge m 94 with h8 | h8
                · exact ok_to (P := fun m => m_okN m = true ∧ m_okC m) (show m = 93 by omega) ⟨List.all_eq_true.mp okm_4 93 (by decide), okc_93⟩
                · exact ok_to (P := fun m => m_okN m = true ∧ m_okC m) (show m = 94 by omega) ⟨List.all_eq_true.mp okm_4 94 (by decide), okc_94⟩
              · rcases Nat.lt_or_ge m 96 with h8 | h8
                · exact ok_to (P := fun m => m_okN m = true ∧ m_okC m) (show m = 95 by omega) ⟨List.all_eq_true.mp okm_4 95 (by decide), okc_95⟩
                · exact ok_to (P := fun m => m_okN m = true ∧ m_okC m) (show m = 96 by omega) ⟨List.all_eq_true.mp okm_4 96 (by decide), okc_96⟩
      · rcases Nat.lt_or_ge m 113 with h4 | h4
        · rcases Nat.lt_or_ge m 105 with h5 | h5
          · rcases Nat.lt_or_ge m 101 with h6 | h6
            · rcases Nat.lt_or_ge m 99 with h7 | h7
              · rcases Nat.lt_or_ge m 98 with h8 | h8
                · exact ok_to (P := fun m => m_okN m = true ∧ m_okC m) (show m = 97 by omega) ⟨List.all_eq_true.mp okm_4 97 (by decide), okc_97⟩
                · exact absurd (show m = 98 by omega) hn
              · rcases Nat.lt_or_ge m 100 with h8 | h8
                · exact ok_to (P := fun m => m_okN m = true ∧ m_okC m) (show m = 99 by omega) ⟨List.all_eq_true.mp okm_4 99 (by decide), okc_99⟩
                · exact ok_to (P := fun m => m_okN m = true ∧ m_okC m) (show m = 100 by omega) ⟨List.all_eq_true.mp okm_4 100 (by decide), okc_100⟩
            · rcases Nat.lt_or_ge m 103 with h7 | h7
              · rcases Nat.lt_or_ge m 102 with h8 | h8
                · exact ok_to (P := fun m => m_okN m = true ∧ m_okC m) (show m = 101 by omega) ⟨List.all_eq_true.mp okm_5 101 (by decide), okc_101⟩
                · exact ok_to (P := fun m => m_okN m = true ∧ m_okC m) (show m = 102 by omega) ⟨List.all_eq_true.mp okm_5 102 (by decide), okc_102⟩
              · rcases Nat.lt_or_ge m 104 with h8 | h8
                · exact ok_to (P := fun m => m_okN m = true ∧ m_okC m) (show m = 103 by omega) ⟨List.all_eq_true.mp okm_5 103 (by decide), okc_103⟩
                · exact ok_to (P := fun m => m_okN m = true ∧ m_okC m) (show m = 104 by omega) ⟨List.all_eq_true.mp okm_5 104 (by decide), okc_104⟩
          · rcases Nat.lt_or_ge m 109 with h6 | h6
            · rcases Nat.lt_or_ge m 107 with h7 | h7
              · rcases Nat.lt_or_ge m 106 with h8 | h8
                · exact ok_to (P := fun m => m_okN m = true ∧ m_okC m) (show m = 105 by omega) ⟨List.all_eq_true.mp okm_5 105 (by decide), okc_105⟩
                · exact ok_to (P := fun m => m_okN m = true ∧ m_okC m) (show m = 106 by omega) ⟨List.all_eq_true.mp okm_5 106 (by decide), okc_106⟩
              · rcases Nat.lt_or_ge m 108 with h8 | h8
                · exact ok_to (P := fun m => m_okN m = true ∧ m_okC m) (show m = 107 by omega) ⟨List.all_eq_true.mp okm_5 107 (by decide), okc_107⟩
                · exact ok_to (P := fun m => m_okN m = true ∧ m_okC m) (show m = 108 by omega) ⟨List.all_eq_true.mp okm_5 108 (by decide), okc_108⟩
            · rcases Nat.lt_or_ge m 111 with h7 | h7
              · rcases Nat.lt_or_ge m 110 with h8 | h8
                · exact ok_to (P := fun m => m_okN m = true ∧ m_okC m) (show m = 109 by omega) ⟨List.all_eq_true.mp okm_5 109 (by decide), okc_109⟩
                · exact ok_to (P := fun m => m_okN m = true ∧ m_okC m) (show m = 110 by omega) ⟨List.all_eq_true.mp okm_5 110 (by decide), okc_110⟩
              · rcases Nat.lt_or_ge m 112 with h8 | h8
                · exact ok_to (P := fun m => m_okN m = true ∧ m_okC m) (show m = 111 by omega) ⟨List.all_eq_true.mp okm_5 111 (by decide), okc_111⟩
                · exact ok_to (P := fun m => m_okN m = true ∧ m_okC m) (show m = 112 by omega) ⟨List.all_eq_true.mp okm_5 112 (by decide), okc_112⟩
        · rcases Nat.lt_or_ge m 121 with h5 | h5
          · rcases Nat.lt_or_ge m 117 with h6 | h6
            · rcases Nat.lt_or_ge m 115 with h7 | h7
              · rcases Nat.lt_or_ge m 114 with h8 | h8
                · exact ok_to (P := fun m => m_okN m = true ∧ m_okC m) (show m = 113 by omega) ⟨List.all_eq_true.mp okm_5 113 (by decide), okc_113⟩
                · exact ok_to (P := fun m => m_okN m = true ∧ m_okC m) (show m = 114 by omega) ⟨List.all_eq_true.mp okm_5 114 (by decide), okc_114⟩
              · rcases Nat.lt_or_ge m 116 with h8 | h8
                · exact ok_to (P := fun m => m_okN m = true ∧ m_okC m) (show m = 115 by omega) ⟨List.all_eq_true.mp okm_5 115 (by decide), okc_115⟩
                · exact ok_to (P := fun m => m_okN m = true ∧ m_okC m) (show m = 116 by omega) ⟨List.all_eq_true.mp okm_5 116 (by decide), okc_116⟩
            · rcases Nat.lt_or_ge m 119 with h7 | h7
              · rcases Nat.lt_or_ge m 118 with h8 | h8
                · exact ok_to (P := fun m => m_okN m = true ∧ m_okC m) (show m = 117 by omega) ⟨List.all_eq_true.mp okm_5 117 (by decide), okc_117⟩
                · exact ok_to (P := fun m => m_okN m = true ∧ m_okC m) (show m = 118 by omega) ⟨List.all_eq_true.mp okm_5 118 (by decide), okc_118⟩
              · rcases Nat.lt_or_ge m 120 with h8 | h8
                · exact ok_to (P := fun m => m_okN m = true ∧ m_okC m) (show m = 119 by omega) ⟨List.all_eq_true.mp okm_5 119 (by decide), okc_119⟩
                · exact ok_to (P := fun m => m_okN m = true ∧ m_okC m) (show m = 120 by omega) ⟨List.all_eq_true.mp okm_5 120 (by decide), okc_120⟩
          · rcases Nat.lt_or_ge m 125 with h6 | h6
            · rcases Nat.lt_or_ge m 123 with h7 | h7
              · rcases Nat.lt_or_ge m 122 with h8 | h8
                · exact ok_to (P := fun m => m_okN m = true ∧ m_okC m) (show m = 121 by omega) ⟨List.all_eq_true.mp okm_6 121 (by decide), okc_121⟩
                · exact ok_to (P := fun m => m_okN m = true ∧ m_okC m) (show m = 122 by omega) ⟨List.all_eq_true.mp okm_6 122 (by decide), okc_122⟩
              · rcases Nat.lt_or_ge m 124 with h8 | h8
                · exact ok_to (P := fun m => m_okN m = true ∧ m_okC m) (show m = 123 by omega) ⟨List.all_eq_true.mp okm_6 123 (by decide), okc_123⟩
                · exact ok_to (P := fun m => m_okN m = true ∧ m_okC m) (show m = 124 by omega) ⟨List.all_eq_true.mp okm_6 124 (by decide), okc_124⟩
            · rcases Nat.lt_or_ge m 127 with h7 | h7
              · rcases Nat.lt_or_ge m 126 with h8 | h8
                · exact ok_to (P := fun m => m_okN m = true ∧ m_okC m) (show m = 125 by omega) ⟨List.all_eq_true.mp okm_6 125 (by decide), okc_125⟩
                · exact ok_to (P := fun m => m_okN m = true ∧ m_okC m) (show m = 126 by omega) ⟨List.all_eq_true.mp okm_6 126 (by decide), okc_126⟩
              · rcases Nat.lt_or_ge m 128 with h8 | h8
                · exact ok_to (P := fun m => m_okN m = true ∧ m_okC m) (show m = 127 by omega) ⟨List.all_eq_true.mp okm_6 127 (by decide), okc_127⟩
                · rcases Nat.lt_or_ge m 129 with h9 | h9
                  · exact ok_to (P := fun m => m_okN m = true ∧ m_okC m) (show m = 128 by omega) ⟨List.all_eq_true.mp okm_6 128 (by decide), okc_128⟩
                  · exact ok_to (P := fun m => m_okN m = true ∧ m_okC m) (show m = 129 by omega) ⟨List.all_eq_true.mp okm_6 129 (by decide), okc_129⟩
  · rcases Nat.lt_or_ge m 195 with h2 | h2
    · rcases Nat.lt_or_ge m 162 with h3 | h3
      · rcases Nat.lt_or_ge m 146 with h4 | h4
        · rcases Nat.lt_or_ge m 138 with h5 | h5
          · rcases Nat.lt_or_ge m 134 with h6 | h6
            · rcases Nat.lt_or_ge m 132 with h7 | h7
              · rcases Nat.lt_or_ge m 131 with h8 | h8
                · exact ok_to (P := fun m => m_okN m = true ∧ m_okC m) (show m = 130 by omega) ⟨List.all_eq_true.mp okm_6 130 (by decide), okc_130⟩
                · exact ok_to (P := fun m => m_okN m = true ∧ m_okC m) (show m = 131 by omega) ⟨List.all_eq_true.mp okm_6 131 (by decide), okc_131⟩
              · rcases Nat.lt_or_ge m 133 with h8 | h8
                · exact ok_to (P := fun m => m_okN m = true ∧ m_okC m) (show m = 132 by omega) ⟨List.all_eq_true.mp okm_6 132 (by decide), okc_132⟩
                · exact ok_to (P := fun m => m_okN m = true ∧ m_okC m) (show m = 133 by omega) ⟨List.all_eq_true.mp okm_6 133 (by decide), okc_133⟩
            · rcases Nat.lt_or_ge m 136 with h7 | h7
              · rcases Nat.lt_or_ge m 135 with h8 | h8
                · exact ok_to (P := fun m => m_okN m = true ∧ m_okC m) (show m = 134 by omega) ⟨List.all_eq_true.mp okm_6 134 (by decide), okc_134⟩
                · exact ok_to (P := fun m => m_okN m = true ∧ m_okC m) (show m = 135 by omega) ⟨List.all_eq_true.mp okm_6 135 (by decide), okc_135⟩
              · rcases Nat.lt_or_ge m 137 with h8 | h8
                · exact ok_to (P := fun m => m_okN m = true ∧ m_okC m) (show m = 136 by omega) ⟨List.all_eq_true.mp okm_6 136 (by decide), okc_136⟩
                · exact ok_to (P := fun m => m_okN m = true ∧ m_okC m) (show m = 137 by omega) ⟨List.all_eq_true.mp okm_6 137 (by decide), okc_137⟩
          · rcases Nat.lt_or_ge m 142 with h6 | h6
            · rcases Nat.lt_or_ge m 140 with h7 | h7
              · rcases Nat.lt_or_ge m 139 with h8 | h8
                · exact ok_to (P := fun m => m_okN m = true ∧ m_okC m) (show m = 138 by omega) ⟨List.all_eq_true.mp okm_6 138 (by decide), okc_138⟩
                · exact ok_to (P := fun m => m_okN m = true ∧ m_okC m) (show m = 139 by omega) ⟨List.all_eq_true.mp okm_6 139 (by decide), okc_139⟩
              · rcases Nat.lt_or_ge m 141 with h8 | h8
                · exact ok_to (P := fun m => m_okN m = true ∧ m_okC m) (show m = 140 by omega) ⟨List.all_eq_true.mp okm_6 140 (by decide), okc_140⟩
                · exact ok_to (P := fun m => m_okN m = true ∧ m_okC m) (show m = 141 by omega) ⟨List.all_eq_true.mp okm_7 141 (by decide), okc_141⟩
            · rcases Nat.lt_or_ge m 144 with h7 | h7
              · rcases Nat.lt_or_ge m 143 with h8 | h8
                · exact ok_to (P := fun m => m_okN m = true ∧ m_okC m) (show m = 142 by omega) ⟨List.all_eq_true.mp okm_7 142 (by decide), okc_142⟩
                · exact ok_to (P := fun m => m_okN m = true ∧ m_okC m) (show m = 143 by omega) ⟨List.all_eq_true.mp okm_7 143 (by decide), okc_143⟩
              · rcases Nat.lt_or_ge m 145 with h8 | h8
                · exact ok_to (P := fun m => m_okN m = true ∧ m_okC m) (show m = 144 by omega) ⟨List.all_eq_true.mp okm_7 144 (by decide), okc_144⟩
                · exact ok_to (P := fun m => m_okN m = true ∧ m_okC m) (show m = 145 by omega) ⟨List.all_eq_true.mp okm_7 145 (by decide), okc_145⟩
        · rcases Nat.lt_or_ge m 154 with h5 | h5
          · rcases Nat.lt_or_ge m 150 with h6 | h6
            · rcases Nat.lt_or_ge m 148 with h7 | h7
              · rcases Nat.lt_or_ge m 147 with h8 | h8
                · exact ok_to (P := fun m => m_okN m = true ∧ m_okC m) (show m = 146 by omega) ⟨List.all_eq_true.mp okm_7 146 (by decide), okc_146⟩
                · exact ok_to (P := fun m => m_okN m = true ∧ m_okC m) (show m = 147 by omega) ⟨List.all_eq_true.mp okm_7 147 (by decide), okc_147⟩
              · rcases Nat.lt_or_ge m 149 with h8 | h8
                · exact ok_to (P := fun m => m_okN m = true ∧ m_okC m) (show m = 148 by omega) ⟨List.all_eq_true.mp okm_7 148 (by decide), okc_148⟩
                · exact ok_to (P := fun m => m_okN m = true ∧ m_okC m) (show m = 149 by omega) ⟨List.all_eq_true.mp okm_7 149 (by decide), okc_149⟩
            · rcases Nat.lt_or_ge m 152 with h7 | h7
              · rcases Nat.lt_or_ge m 151 with h8 | h8
                · exact ok_to (P := fun m => m_okN m = true ∧ m_okC m) (show m = 150 by omega) ⟨List.all_eq_true.mp okm_7 150 (by decide), okc_150⟩
                · exact ok_to (P := fun m => m_okN m = true ∧ m_okC m) (show m = 151 by omega) ⟨List.all_eq_true.mp okm_7 151 (by decide), okc_151⟩
              · rcases Nat.lt_or_ge m 153 with h8 | h8
                · exact ok_to (P := fun m => m_okN m = true ∧ m_okC m) (show m = 152 by omega) ⟨List.all_eq_true.mp okm_7 152 (by decide), okc_152⟩
                · exact ok_to (P := fun m => m_okN m = true ∧ m_okC m) (show m = 153 by omega) ⟨List.all_eq_true.mp okm_7 153 (by decide), okc_153⟩
          · rcases Nat.lt_or_ge m 158 with h6 | h6
            · rcases Nat.lt_or_ge m 156 with h7 | h7
              · rcases Nat.lt_or_ge m 155 with h8 | h8
                · exact ok_to (P := fun m => m_okN m = true ∧ m_okC m) (show m = 154 by omega) ⟨List.all_eq_true.mp okm_7 154 (by decide), okc_154⟩
                · exact ok_to (P := fun m => m_okN m = true ∧ m_okC m) (show m = 155 by omega) ⟨List.all_eq_true.mp okm_7 155 (by decide), okc_155⟩
              · rcases Nat.lt_or_ge m 157 with h8 | h8
                · exact ok_to (P := fun m => m_okN m = true ∧ m_okC m) (show m = 156 by omega) ⟨List.all_eq_true.mp okm_7 156 (by decide), okc_156⟩
                · exact ok_to (P := fun m => m_okN m = true ∧ m_okC m) (show m = 157 by omega) ⟨List.all_eq_true.mp okm_7 157 (by decide), okc_157⟩
            · rcases Nat.lt_or_ge m 160 with h7 | h7
              · rcases Nat.lt_or_ge m 159 with h8 | h8
                · exact ok_to (P := fun m => m_okN m = true ∧ m_okC m) (show m = 158 by omega) ⟨List.all_eq_true.mp okm_7 158 (by decide), okc_158⟩
                · exact ok_to (P := fun m => m_okN m = true ∧ m_okC m) (show m = 159 by omega) ⟨List.all_eq_true.mp okm_7 159 (by decide), okc_159⟩
              · rcases Nat.lt_or_ge m 161 with h8 | h8
                · exact ok_to (P := fun m => m_okN m = true ∧ m_okC m) (show m = 160 by omega) ⟨List.all_eq_true.mp okm_7 160 (by decide), okc_160⟩
                · exact ok_to (P := fun m => m_okN m = true ∧ m_okC m) (show m = 161 by omega) ⟨List.all_eq_true.mp okm_8 161 (by decide), okc_161⟩
      · rcases Nat.lt_or_ge m 178 with h4 | h4
        · rcases Nat.lt_or_ge m 170 with h5 | h5
          · rcases Nat.lt_or_ge m 166 with h6 | h6
            · rcases Nat.lt_or_ge m 164 with h7 | h7
              · rcases Nat.lt_or_ge m 163 with h8 | h8
                · exact ok_to (P := fun m => m_okN m = true ∧ m_okC m) (show m = 162 by omega) ⟨List.all_eq_true.mp okm_8 162 (by decide), okc_162⟩
                · exact ok_to (P := fun m => m_okN m = true ∧ m_okC m) (show m = 163 by omega) ⟨List.all_eq_true.mp okm_8 163 (by decide), okc_163⟩
              · rcases Nat.lt_or_ge m 165 with h8 | h8
                · exact ok_to (P := fun m => m_okN m = true ∧ m_okC m) (show m = 164 by omega) ⟨List.all_eq_true.mp okm_8 164 (by decide), okc_164⟩
                · exact ok_to (P := fun m => m_okN m = true ∧ m_okC m) (show m = 165 by omega) ⟨List.all_eq_true.mp okm_8 165 (by decide), okc_165⟩
            · rcases Nat.lt_or_ge m 168 with h7 | h7
              · rcases Nat.lt_or_ge m 167 with h8 | h8
                · exact ok_to (P := fun m => m_okN m = true ∧ m_okC m) (show m = 166 by omega) ⟨List.all_eq_true.mp okm_8 166 (by decide), okc_166⟩
                · exact ok_to (P := fun m => m_okN m = true ∧ m_okC m) (show m = 167 by omega) ⟨List.all_eq_true.mp okm_8 167 (by decide), okc_167⟩
              · rcases Nat.lt_or_ge m 169 with h8 | h8
                · exact ok_to (P := fun m => m_okN m = true ∧ m_okC m) (show m = 168 by omega) ⟨List.all_eq_true.mp okm_8 168 (by decide), okc_168⟩
                · exact ok_to (P := fun m => m_okN m = true ∧ m_okC m) (show m = 169 by omega) ⟨List.all_eq_true.mp okm_8 169 (by decide), okc_169⟩
          · rcases Nat.lt_or_ge m 174 with h6 | h6
            · rcases Nat.lt_or_ge m 172 with h7 | h7
              · rcases Nat.lt_or_ge m 171 with h8 | h8
                · exact ok_to (P := fun m => m_okN m = true ∧ m_okC m) (show m = 170 by omega) ⟨List.all_eq_true.mp okm_8 170 (by decide), okc_170⟩
                · exact ok_to (P := fun m => m_okN m = true ∧ m_okC m) (show m = 171 by omega) ⟨List.all_eq_true.mp okm_8 171 (by decide), okc_171⟩
              · rcases Nat.lt_or_ge m 173 with h8 | h8
                · exact ok_to (P := fun m => m_okN m = true ∧ m_okC m) (show m = 172 by omega) ⟨List.all_eq_true.mp okm_8 172 (by decide), okc_172⟩
                · exact ok_to (P := fun m => m_okN m = true ∧ m_okC m) (show m = 173 by omega) ⟨List.all_eq_true.mp okm_8 173 (by decide), okc_173⟩
            · rcases Nat.lt_or_ge m 176 with h7 | h7
              · rcases Nat.lt_or_ge m 175 with h8 | h8
                · exact ok_to (P := fun m => m_okN m = true ∧ m_okC m) (show m = 174 by omega) ⟨List.all_eq_true.mp okm_8 174 (by decide), okc_174⟩
                · exact ok_to (P := fun m => m_okN m = true ∧ m_okC m) (show m = 175 by omega) ⟨List.all_eq_true.mp okm_8 175 (by decide), okc_175⟩
              · rcases Nat.lt_or_ge m 177 with h8 | h8
                · exact ok_to (P := fun m => m_okN m = true ∧ m_okC m) (show m = 176 by omega) ⟨List.all_eq_true.mp okm_8 176 (by decide), okc_176⟩
                · exact ok_to (P := fun m => m_okN m = true ∧ m_okC m) (show m = 177 by omega) ⟨List.all_eq_true.mp okm_8 177 (by decide), okc_177⟩
        · rcases Nat.lt_or_ge m 186 with h5 | h5
          · rcases Nat.lt_or_ge m 182 with h6 | h6
            · rcases Nat.lt_or_ge m 180 with h7 | h7
              · rcases Nat.lt_or_ge m 179 with h8 | h8
                · exact ok_to (P := fun m => m_okN m = true ∧ m_okC m) (show m = 178 by omega) ⟨List.all_eq_true.mp okm_8 178 (by decide), okc_178⟩
                · exact ok_to (P := fun m => m_okN m = true ∧ m_okC m) (show m = 179 by omega) ⟨List.all_eq_true.mp okm_8 179 (by decide), okc_179⟩
              · rcases Nat.lt_or_ge m 181 with h8 | h8
                · exact ok_to (P := fun m => m_okN m = true ∧ m_okC m) (show m = 180 by omega) ⟨List.all_eq_true.mp okm_8 180 (by decide), okc_180⟩
                · exact ok_to (P := fun m => m_okN m = true ∧ m_okC m) (show m = 181 by omega) ⟨List.all_eq_true.mp okm_9 181 (by decide), okc_181⟩
            · rcases Nat.lt_or_ge m 184 with h7 | h7
              · rcases Nat.lt_or_ge m 183 with h8 | h8
                · exact ok_to (P := fun m => m_okN m = true ∧ m_okC m) (show m = 182 by omega) ⟨List.all_eq_true.mp okm_9 182 (by decide), okc_182⟩
                · exact ok_to (P := fun m => m_okN m = true ∧ m_okC m) (show m = 183 by omega) ⟨List.all_eq_true.mp okm_9 183 (by decide), okc_183⟩
              · rcases Nat.lt_or_ge m 185 with h8 | h8
                · exact ok_to (P := fun m => m_okN m = true ∧ m_okC m) (show m = 184 by omega) ⟨List.all_eq_true.mp okm_9 184 (by decide), okc_184⟩
                · exact ok_to (P := fun m => m_okN m = true ∧ m_okC m) (show m = 185 by omega) ⟨List.all_eq_true.mp okm_9 185 (by decide), okc_185⟩
          · rcases Nat.lt_or_ge m 190 with h6 | h6
            · rcases Nat.lt_or_ge m 188 with h7 | h7
              · rcases Nat.lt_or_ge m 187 with h8 | h8
                · exact ok_to (P := fun m => m_okN m = true ∧ m_okC m) (show m = 186 by omega) ⟨List.all_eq_true.mp okm_9 186 (by decide), okc_186⟩
                · exact ok_to (P := fun m => m_okN m = true ∧ m_okC m) (show m = 187 by omega) ⟨List.all_eq_true.mp okm_9 187 (by decide), okc_187⟩
              · rcases Nat.lt_or_ge m 189 with h8 | h8
                · exact ok_to (P := fun m => m_okN m = true ∧ m_okC m) (show m = 188 by omega) ⟨List.all_eq_true.mp okm_9 188 (by decide), okc_188⟩
                · exact ok_to (P := fun m => m_okN m = true ∧ m_okC m) (show m = 189 by omega) ⟨List.all_eq_true.mp okm_9 189 (by decide), okc_189⟩
            · rcases Nat.lt_or_ge m 192 with h7 | h7
              · rcases Nat.lt_or_ge m 191 with h8 | h8
                · exact ok_to (P := fun m => m_okN m = true ∧ m_okC m) (show m = 190 by omega) ⟨List.all_eq_true.mp okm_9 190 (by decide), okc_190⟩
                · exact ok_to (P := fun m => m_okN m = true ∧ m_okC m) (show m = 191 by omega) ⟨List.all_eq_true.mp okm_9 191 (by decide), okc_191⟩
              · rcases Nat.lt_or_ge m 193 with h8 | h8
                · exact ok_to (P := fun m => m_okN m = true ∧ m_okC m) (show m = 192 by omega) ⟨List.all_eq_true.mp okm_9 192 (by decide), okc_192⟩
                · rcases Nat.lt_or_ge m 194 with h9 | h9
                  · exact ok_to (P := fun m => m_okN m = true ∧ m_okC m) (show m = 193 by omega) ⟨List.all_eq_true.mp okm_9 193 (by decide), okc_193⟩
                  · exact ok_to (P := fun m => m_okN m = true ∧ m_okC m) (show m = 194 by omega) ⟨List.all_eq_true.mp okm_9 194 (by decide), okc_194⟩
    · rcases Nat.lt_or_ge m 227 with h3 | h3
      · rcases Nat.lt_or_ge m 211 with h4 | h4
        · rcases Nat.lt_or_ge m 203 with h5 | h5
          · rcases Nat.lt_or_ge m 199 with h6 | h6
            · rcases Nat.lt_or_ge m 197 with h7 | h7
              · rcases Nat.lt_or_ge m 196 with h8 | h8
                · exact ok_to (P := fun m => m_okN m = true ∧ m_okC m) (show m = 195 by omega) ⟨List.all_eq_true.mp okm_9 195 (by decide), okc_195⟩
                · exact ok_to (P := fun m => m_okN m = true ∧ m_okC m) (show m = 196 by omega) ⟨List.all_eq_true.mp okm_9 196 (by decide), okc_196⟩
              · rcases Nat.lt_or_ge m 198 with h8 | h8
                · exact ok_to (P := fun m => m_okN m = true ∧ m_okC m) (show m = 197 by omega) ⟨List.all_eq_true.mp okm_9 197 (by decide), okc_197⟩
                · exact ok_to (P := fun m => m_okN m = true ∧ m_okC m) (show m = 198 by omega) ⟨List.all_eq_true.mp okm_9 198 (by decide), okc_198⟩
            · rcases Nat.lt_or_ge m 201 with h7 | h7
              · rcases Nat.lt_or_ge m 200 with h8 | h8
                · exact ok_to (P := fun m => m_okN m = true ∧ m_okC m) (show m = 199 by omega) ⟨List.all_eq_true.mp okm_9 199 (by decide), okc_199⟩
                · exact ok_to (P := fun m => m_okN m = true ∧ m_okC m) (show m = 200 by omega) ⟨List.all_eq_true.mp okm_9 200 (by decide), okc_200⟩
              · rcases Nat.lt_or_ge m 202 with h8 | h8
                · exact ok_to (P := fun m => m_okN m = true ∧ m_okC m) (show m = 201 by omega) ⟨List.all_eq_true.mp okm_10 201 (by decide), okc_201⟩
                · exact ok_to (P := fun m => m_okN m = true ∧ m_okC m) (show m = 202 by omega) ⟨List.all_eq_true.mp okm_10 202 (by decide), okc_202⟩
          · rcases Nat.lt_or_ge m 207 with h6 | h6
            · rcases Nat.lt_or_ge m 205 with h7 | h7
              · rcases Nat.lt_or_ge m 204 with h8 | h8
                · exact ok_to (P := fun m => m_okN m = true ∧ m_okC m) (show m = 203 by omega) ⟨List.all_eq_true.mp okm_10 203 (by decide), okc_203⟩
                · exact ok_to (P := fun m => m_okN m = true ∧ m_okC m) (show m = 204 by omega) ⟨List.all_eq_true.mp okm_10 204 (by decide), okc_204⟩
              · rcases Nat.lt_or_ge m 206 with h8 | h8
                · exact ok_to (P := fun m => m_okN m = true ∧ m_okC m) (show m = 205 by omega) ⟨List.all_eq_true.mp okm_10 205 (by decide), okc_205⟩
                · exact ok_to (P := fun m => m_okN m = true ∧ m_okC m) (show m = 206 by omega) ⟨List.all_eq_true.mp okm_10 206 (by decide), okc_206⟩
            · rcases Nat.lt_or_ge m 209 with h7 | h7
              · rcases Nat.lt_or_ge m 208 with h8 | h8
                · exact ok_to (P := fun m => m_okN m = true ∧ m_okC m) (show m = 207 by omega) ⟨List.all_eq_true.mp okm_10 207 (by decide), okc_207⟩
                · exact ok_to (P := fun m => m_okN m = true ∧ m_okC m) (show m = 208 by omega) ⟨List.all_eq_true.mp okm_10 208 (by decide), okc_208⟩
              · rcases Nat.lt_or_ge m 210 with h8 | h8
                · exact ok_to (P := fun m => m_okN m = true ∧ m_okC m) (show m = 209 by omega) ⟨List.all_eq_true.mp okm_10 209 (by decide), okc_209⟩
                · exact ok_to (P := fun m => m_okN m = true ∧ m_okC m) (show m = 210 by omega) ⟨List.all_eq_true.mp okm_10 210 (by decide), okc_210⟩
        · rcases Nat.lt_or_ge m 219 with h5 | h5
          · rcases Nat.lt_or_ge m 215 with h6 | h6
            · rcases Nat.lt_or_ge m 213 with h7 | h7
              · rcases Nat.lt_or_ge m 212 with h8 | h8
                · exact ok_to (P := fun m => m_okN m = true ∧ m_okC m) (show m = 211 by omega) ⟨List.all_eq_true.mp okm_10 211 (by decide), okc_211⟩
                · exact ok_to (P := fun m => m_okN m = true ∧ m_okC m) (show m = 212 by omega) ⟨List.all_eq_true.mp okm_10 212 (by decide), okc_212⟩
              · rcases Nat.lt_or_ge m 214 with h8 | h8
                · exact ok_to (P := fun m => m_okN m = true ∧ m_okC m) (show m = 213 by omega) ⟨List.all_eq_true.mp okm_10 213 (by decide), okc_213⟩
                · exact ok_to (P := fun m => m_okN m = true ∧ m_okC m) (show m = 214 by omega) ⟨List.all_eq_true.mp okm_10 214 (by decide), okc_214⟩
            · rcases Nat.lt_or_ge m 217 with h7 | h7
              · rcases Nat.lt_or_ge m 216 with h8 | h8
                · exact ok_to (P := fun m => m_okN m = true ∧ m_okC m) (show m = 215 by omega) ⟨List.all_eq_true.mp okm_10 215 (by decide), okc_215⟩
                · exact ok_to (P := fun m => m_okN m = true ∧ m_okC m) (show m = 216 by omega) ⟨List.all_eq_true.mp okm_10 216 (by decide), okc_216⟩
              · rcases Nat.lt_or_ge m 218 with h8 | h8
                · exact ok_to (P := fun m => m_okN m = true ∧ m_okC m) (show m = 217 by omega) ⟨List.all_eq_true.mp okm_10 217 (by decide), okc_217⟩
                · exact ok_to (P := fun m => m_okN m = true ∧ m_okC m) (show m = 218 by omega) ⟨List.all_eq_true.mp okm_10 218 (by decide), okc_218⟩
          · rcases Nat.lt_or_ge m 223 with h6 | h6
            · rcases Nat.lt_or_ge m 221 with h7 | h7
              · rcases Nat.lt_or_ge m 220 with h8 | h8
                · exact ok_to (P := fun m => m_okN m = true ∧ m_okC m) (show m = 219 by omega) ⟨List.all_eq_true.mp okm_10 219 (by decide), okc_219⟩
                · exact ok_to (P := fun m => m_okN m = true ∧ m_okC m) (show m = 220 by omega) ⟨List.all_eq_true.mp okm_10 220 (by decide), okc_220⟩
              · rcases Nat.lt_or_ge m 222 with h8 | h8
                · exact ok_to (P := fun m => m_okN m = true ∧ m_okC m) (show m = 221 by omega) ⟨List.all_eq_true.mp okm_11 221 (by decide), okc_221⟩
                · exact ok_to (P := fun m => m_okN m = true ∧ m_okC m) (show m = 222 by omega) ⟨List.all_eq_true.mp okm_11 222 (by decide), okc_222⟩
            · rcases Nat.lt_or_ge m 225 with h7 | h7
              · rcases Nat.lt_or_ge m 224 with h8 | h8
                · exact ok_to (P := fun m => m_okN m = true ∧ m_okC m) (show m = 223 by omega) ⟨List.all_eq_true.mp okm_11 223 (by decide), okc_223⟩
                · exact ok_to (P := fun m => m_okN m = true ∧ m_okC m) (show m = 224 by omega) ⟨List.all_eq_true.mp okm_11 224 (by decide), okc_224⟩
              · rcases Nat.lt_or_ge m 226 with h8 | h8
                · exact ok_to (P := fun m => m_okN m = true ∧ m_okC m) (show m = 225 by omega) ⟨List.all_eq_true.mp okm_11 225 (by decide), okc_225⟩
                · exact ok_to (P := fun m => m_okN m = true ∧ m_okC m) (show m = 226 by omega) ⟨List.all_eq_true.mp okm_11 226 (by decide), okc_226⟩
      · rcases Nat.lt_or_ge m 243 with h4 | h4
        · rcases Nat.lt_or_ge m 235 with h5 | h5
          · rcases Nat.lt_or_ge m 231 with h6 | h6
            · rcases Nat.lt_or_ge m 229 with h7 | h7
              · rcases Nat.lt_or_ge m 228 with h8 | h8
                · exact ok_to (P := fun m => m_okN m = true ∧ m_okC m) (show m = 227 by omega) ⟨List.all_eq_true.mp okm_11 227 (by decide), okc_227⟩
                · exact ok_to (P := fun m => m_okN m = true ∧ m_okC m) (show m = 228 by omega) ⟨List.all_eq_true.mp okm_11 228 (by decide), okc_228⟩
              · rcases Nat.lt_or_ge m 230 with h8 | h8
                · exact ok_to (P := fun m => m_okN m = true ∧ m_okC m) (show m = 229 by omega) ⟨List.all_eq_true.mp okm_11 229 (by decide), okc_229⟩
                · exact ok_to (P := fun m => m_okN m = true ∧ m_okC m) (show m = 230 by omega) ⟨List.all_eq_true.mp okm_11 230 (by decide), okc_230⟩
            · rcases Nat.lt_or_ge m 233 with h7 | h7
              · rcases Nat.lt_or_ge m 232 with h8 | h8
                · exact ok_to (P := fun m => m_okN m = true ∧ m_okC m) (show m = 231 by omega) ⟨List.all_eq_true.mp okm_11 231 (by decide), okc_231⟩
                · exact ok_to (P := fun m => m_okN m = true ∧ m_okC m) (show m = 232 by omega) ⟨List.all_eq_true.mp okm_11 232 (by decide), okc_232⟩
              · rcases Nat.lt_or_ge m 234 with h8 | h8
                · exact ok_to (P := fun m => m_okN m = true ∧ m_okC m) (show m = 233 by omega) ⟨List.all_eq_true.mp okm_11 233 (by decide), okc_233⟩
                · exact ok_to (P := fun m => m_okN m = true ∧ m_okC m) (show m = 234 by omega) ⟨List.all_eq_true.mp okm_11 234 (by decide), okc_234⟩
          · rcases Nat.lt_or_ge m 239 with h6 | h6
            · rcases Nat.lt_or_ge m 237 with h7 | h7
              · rcases Nat.lt_or_ge m 236 with h8 | h8
                · exact ok_to (P := fun m => m_okN m = true ∧ m_okC m) (show m = 235 by omega) ⟨List.all_eq_true.mp okm_11 235 (by decide), okc_235⟩
                · exact ok_to (P := fun m => m_okN m = true ∧ m_okC m) (show m = 236 by omega) ⟨List.all_eq_true.mp okm_11 236 (by decide), okc_236⟩
              · rcases Nat.lt_or_ge m 238 with h8 | h8
                · exact ok_to (P := fun m => m_okN m = true ∧ m_okC m) (show m = 237 by omega) ⟨List.all_eq_true.mp okm_11 237 (by decide), okc_237⟩
                · exact ok_to (P := fun m => m_okN m = true ∧ m_okC m) (show m = 238 by omega) ⟨List.all_eq_true.mp okm_11 238 (by decide), okc_238⟩
            · rcases Nat.lt_or_ge m 241 with h7 | h7
              · rcases Nat.lt_or_ge m 240 with h8 | h8
                · exact ok_to (P := fun m => m_okN m = true ∧ m_okC m) (show m = 239 by omega) ⟨List.all_eq_true.mp okm_11 239 (by decide), okc_239⟩
                · exact ok_to (P := fun m => m_okN m = true ∧ m_okC m) (show m = 240 by omega) ⟨List.all_eq_true.mp okm_11 240 (by decide), okc_240⟩
              · rcases Nat.lt_or_ge m 242 with h8 | h8
                · exact ok_to (P := fun m => m_okN m = true ∧ m_okC m) (show m = 241 by omega) ⟨List.all_eq_true.mp okm_12 241 (by decide), okc_241⟩
                · exact ok_to (P := fun m => m_okN m = true ∧ m_okC m) (show m = 242 by omega) ⟨List.all_eq_true.mp okm_12 242 (by decide), okc_242⟩
        · rcases Nat.lt_or_ge m 251 with h5 | h5
          · rcases Nat.lt_or_ge m 247 with h6 | h6
            · rcases Nat.lt_or_ge m 245 with h7 | h7
              · rcases Nat.lt_or_ge m 244 with h8 | h8
                · exact ok_to (P := fun m => m_okN m = true ∧ m_okC m) (show m = 243 by omega) ⟨List.all_eq_true.mp okm_12 243 (by decide), okc_243⟩
                · exact ok_to (P := fun m => m_okN m = true ∧ m_okC m) (show m = 244 by omega) ⟨List.all_eq_true.mp okm_12 244 (by decide), okc_244⟩
              · rcases Nat.lt_or_ge m 246 with h8 | h8
                · exact ok_to (P := fun m => m_okN m = true ∧ m_okC m) (show m = 245 by omega) ⟨List.all_eq_true.mp okm_12 245 (by decide), okc_245⟩
                · exact ok_to (P := fun m => m_okN m = true ∧ m_okC m) (show m = 246 by omega) ⟨List.all_eq_true.mp okm_12 246 (by decide), okc_246⟩
            · rcases Nat.lt_or_ge m 249 with h7 | h7
              · rcases Nat.lt_or_ge m 248 with h8 | h8
                · exact ok_to (P := fun m => m_okN m = true ∧ m_okC m) (show m = 247 by omega) ⟨List.all_eq_true.mp okm_12 247 (by decide), okc_247⟩
                · exact ok_to (P := fun m => m_okN m = true ∧ m_okC m) (show m = 248 by omega) ⟨List.all_eq_true.mp okm_12 248 (by decide), okc_248⟩
              · rcases Nat.lt_or_ge m 250 with h8 | h8
                · exact ok_to (P := fun m => m_okN m = true ∧ m_okC m) (show m = 249 by omega) ⟨List.all_eq_true.mp okm_12 249 (by decide), okc_249⟩
                · exact ok_to (P := fun m => m_okN m = true ∧ m_okC m) (show m = 250 by omega) ⟨List.all_eq_true.mp okm_12 250 (by decide), okc_250⟩
          · rcases Nat.lt_or_ge m 255 with h6 | h6
            · rcases Nat.lt_or_ge m 253 with h7 | h7
              · rcases Nat.lt_or_ge m 252 with h8 | h8
                · exact ok_to (P := fun m => m_okN m = true ∧ m_okC m) (show m = 251 by omega) ⟨List.all_eq_true.mp okm_12 251 (by decide), okc_251⟩
                · exact ok_to (P := fun m => m_okN m = true ∧ m_okC m) (show m = 252 by omega) ⟨List.all_eq_true.mp okm_12 252 (by decide), okc_252⟩
              · rcases Nat.lt_or_ge m 254 with h8 | h8
                · exact ok_to (P := fun m => m_okN m = true ∧ m_okC m) (show m = 253 by omega) ⟨List.all_eq_true.mp okm_12 253 (by decide), okc_253⟩
                · exact ok_to (P := fun m => m_okN m = true ∧ m_okC m) (show m = 254 by omega) ⟨List.all_eq_true.mp okm_12 254 (by decide), okc_254⟩
            · rcases Nat.lt_or_ge m 257 with h7 | h7
              · rcases Nat.lt_or_ge m 256 with h8 | h8
                · exact ok_to (P := fun m => m_okN m = true ∧ m_okC m) (show m = 255 by omega) ⟨List.all_eq_true.mp okm_12 255 (by decide), okc_255⟩
                · exact ok_to (P := fun m => m_okN m = true ∧ m_okC m) (show m = 256 by omega) ⟨List.all_eq_true.mp okm_12 256 (by decide), okc_256⟩
              · rcases Nat.lt_or_ge m 258 with h8 | h8
                · exact ok_to (P := fun m => m_okN m = true ∧ m_okC m) (show m = 257 by omega) ⟨List.all_eq_true.mp okm_12 257 (by decide), okc_257⟩
                · rcases Nat.lt_or_ge m 259 with h9 | h9
                  · exact ok_to (P := fun m => m_okN m = true ∧ m_okC m) (show m = 258 by omega) ⟨List.all_eq_true.mp okm_12 258 (by decide), okc_258⟩
                  · exact absurd (show m = 259 by omega) hl
theorem okL_all (m : Nat) (h : m < 260) (hn : ¬ m = 98) : m_okL m (mcd m) = true := by
  rcases Nat.lt_or_ge m 130 with h1 | h1
  · rcases Nat.lt_or_ge m 65 with h2 | h2
    · rcases Nat.lt_or_ge m 32 with h3 | h3
      · rcases Nat.lt_or_ge m 16 with h4 | h4
        · rcases Nat.lt_or_ge m 8 with h5 | h5
          · rcases Nat.lt_or_ge m 4 with h6 | h6
            · rcases Nat.lt_or_ge m 2 with h7 | h7
              · rcases Nat.lt_or_ge m 1 with h8 | h8
                · exact ok_to (P := fun m => m_okL m (mcd m) = true) (show m = 0 by omega) ok_Tokens_init
                · exact ok_to (P := fun m => m_okL m (mcd m) = true) (show m = 1 by omega) ok_LawReader_init
              · rcases Nat.lt_or_ge m 3 with h8 | h8
                · exact ok_to (P := fun m => m_okL m (mcd m) = true) (show m = 2 by omega) ok_Laws_init
                · exact ok_to (P := fun m => m_okL m (mcd m) = true) (show m = 3 by omega) ok_Plan_init
            · rcases Nat.lt_or_ge m 6 with h7 | h7
              · rcases Nat.lt_or_ge m 5 with h8 | h8
                · exact ok_to (P := fun m => m_okL m (mcd m) = true) (show m = 4 by omega) ok_LineReader_init
                · exact ok_to (P := fun m => m_okL m (mcd m) = true) (show m = 5 by omega) ok_Day_init
              · rcases Nat.lt_or_ge m 7 with h8 | h8
                · exact ok_to (P := fun m => m_okL m (mcd m) = true) (show m = 6 by omega) ok_Way_init
                · exact ok_to (P := fun m => m_okL m (mcd m) = true) (show m = 7 by omega) ok_Seen_init
          · rcases Nat.lt_or_ge m 12 with h6 | h6
            · rcases Nat.lt_or_ge m 10 with h7 | h7
              · rcases Nat.lt_or_ge m 9 with h8 | h8
                · exact ok_to (P := fun m => m_okL m (mcd m) = true) (show m = 8 by omega) ok_Log_init
                · exact ok_to (P := fun m => m_okL m (mcd m) = true) (show m = 9 by omega) ok_C_init
              · rcases Nat.lt_or_ge m 11 with h8 | h8
                · exact ok_to (P := fun m => m_okL m (mcd m) = true) (show m = 10 by omega) ok_M_plain
                · exact ok_to (P := fun m => m_okL m (mcd m) = true) (show m = 11 by omega) ok_M_copies
            · rcases Nat.lt_or_ge m 14 with h7 | h7
              · rcases Nat.lt_or_ge m 13 with h8 | h8
                · exact ok_to (P := fun m => m_okL m (mcd m) = true) (show m = 12 by omega) ok_M_atFirst
                · exact ok_to (P := fun m => m_okL m (mcd m) = true) (show m = 13 by omega) ok_M_plainTried
              · rcases Nat.lt_or_ge m 15 with h8 | h8
                · exact ok_to (P := fun m => m_okL m (mcd m) = true) (show m = 14 by omega) ok_M_begin
                · exact ok_to (P := fun m => m_okL m (mcd m) = true) (show m = 15 by omega) ok_M_keepText
        · rcases Nat.lt_or_ge m 24 with h5 | h5
          · rcases Nat.lt_or_ge m 20 with h6 | h6
            · rcases Nat.lt_or_ge m 18 with h7 | h7
              · rcases Nat.lt_or_ge m 17 with h8 | h8
                · exact ok_to (P := fun m => m_okL m (mcd m) = true) (show m = 16 by omega) ok_M_init
                · exact ok_to (P := fun m => m_okL m (mcd m) = true) (show m = 17 by omega) ok_C_tapeFour
              · rcases Nat.lt_or_ge m 19 with h8 | h8
                · exact ok_to (P := fun m => m_okL m (mcd m) = true) (show m = 18 by omega) ok_C_feed
                · exact ok_to (P := fun m => m_okL m (mcd m) = true) (show m = 19 by omega) ok_M_feed
            · rcases Nat.lt_or_ge m 22 with h7 | h7
              · rcases Nat.lt_or_ge m 21 with h8 | h8
                · exact ok_to (P := fun m => m_okL m (mcd m) = true) (show m = 20 by omega) ok_Laws_clear
                · exact ok_to (P := fun m => m_okL m (mcd m) = true) (show m = 21 by omega) ok_Plan_clear
              · rcases Nat.lt_or_ge m 23 with h8 | h8
                · exact ok_to (P := fun m => m_okL m (mcd m) = true) (show m = 22 by omega) ok_Tokens_isLetter
                · exact ok_to (P := fun m => m_okL m (mcd m) = true) (show m = 23 by omega) ok_Tokens_wordKind
          · rcases Nat.lt_or_ge m 28 with h6 | h6
            · rcases Nat.lt_or_ge m 26 with h7 | h7
              · rcases Nat.lt_or_ge m 25 with h8 | h8
                · exact ok_to (P := fun m => m_okL m (mcd m) = true) (show m = 24 by omega) ok_Tokens_readWord
                · exact ok_to (P := fun m => m_okL m (mcd m) = true) (show m = 25 by omega) ok_Tokens_isDigit
              · rcases Nat.lt_or_ge m 27 with h8 | h8
                · exact ok_to (P := fun m => m_okL m (mcd m) = true) (show m = 26 by omega) ok_Tokens_readNumber
                · exact ok_to (P := fun m => m_okL m (mcd m) = true) (show m = 27 by omega) ok_Tokens_signKind
            · rcases Nat.lt_or_ge m 30 with h7 | h7
              · rcases Nat.lt_or_ge m 29 with h8 | h8
                · exact ok_to (P := fun m => m_okL m (mcd m) = true) (show m = 28 by omega) ok_Tokens_lengthenSign
                · exact ok_to (P := fun m => m_okL m (mcd m) = true) (show m = 29 by omega) ok_Tokens_advance
              · rcases Nat.lt_or_ge m 31 with h8 | h8
                · exact ok_to (P := fun m => m_okL m (mcd m) = true) (show m = 30 by omega) ok_Tokens_begin
                · exact ok_to (P := fun m => m_okL m (mcd m) = true) (show m = 31 by omega) ok_LineReader_fails
      · rcases Nat.lt_or_ge m 48 with h4 | h4
        · rcases Nat.lt_or_ge m 40 with h5 | h5
          · rcases Nat.lt_or_ge m 36 with h6 | h6
            · rcases Nat.lt_or_ge m 34 with h7 | h7
              · rcases Nat.lt_or_ge m 33 with h8 | h8
                · exact ok_to (P := fun m => m_okL m (mcd m) = true) (show m = 32 by omega) ok_Plan_numberOf
                · exact ok_to (P := fun m => m_okL m (mcd m) = true) (show m = 33 by omega) ok_LineReader_readsNumber
              · rcases Nat.lt_or_ge m 35 with h8 | h8
                · exact ok_to (P := fun m => m_okL m (mcd m) = true) (show m = 34 by omega) ok_LineReader_skipsMinus
                · exact ok_to (P := fun m => m_okL m (mcd m) = true) (show m = 35 by omega) ok_LineReader_readsMan
            · rcases Nat.lt_or_ge m 38 with h7 | h7
              · rcases Nat.lt_or_ge m 37 with h8 | h8
                · exact ok_to (P := fun m => m_okL m (mcd m) = true) (show m = 36 by omega) ok_LineReader_readsEnd
                · exact ok_to (P := fun m => m_okL m (mcd m) = true) (show m = 37 by omega) ok_LineReader_readsPerson
              · rcases Nat.lt_or_ge m 39 with h8 | h8
                · exact ok_to (P := fun m => m_okL m (mcd m) = true) (show m = 38 by omega) ok_LineReader_readsRing
                · exact ok_to (P := fun m => m_okL m (mcd m) = true) (show m = 39 by omega) ok_LineReader_readsMeet
          · rcases Nat.lt_or_ge m 44 with h6 | h6
            · rcases Nat.lt_or_ge m 42 with h7 | h7
              · rcases Nat.lt_or_ge m 41 with h8 | h8
                · exact ok_to (P := fun m => m_okL m (mcd m) = true) (show m = 40 by omega) ok_LineReader_readsCold
                · exact ok_to (P := fun m => m_okL m (mcd m) = true) (show m = 41 by omega) ok_LineReader_readsCrowd
              · rcases Nat.lt_or_ge m 43 with h8 | h8
                · exact ok_to (P := fun m => m_okL m (mcd m) = true) (show m = 42 by omega) ok_LineReader_readsSeed
                · exact ok_to (P := fun m => m_okL m (mcd m) = true) (show m = 43 by omega) ok_Laws_isTold
            · rcases Nat.lt_or_ge m 46 with h7 | h7
              · rcases Nat.lt_or_ge m 45 with h8 | h8
                · exact ok_to (P := fun m => m_okL m (mcd m) = true) (show m = 44 by omega) ok_LawReader_levelOf
                · exact ok_to (P := fun m => m_okL m (mcd m) = true) (show m = 45 by omega) ok_Laws_add
              · rcases Nat.lt_or_ge m 47 with h8 | h8
                · exact ok_to (P := fun m => m_okL m (mcd m) = true) (show m = 46 by omega) ok_LawReader_unpile
                · exact ok_to (P := fun m => m_okL m (mcd m) = true) (show m = 47 by omega) ok_LawReader_pileUp
        · rcases Nat.lt_or_ge m 56 with h5 | h5
          · rcases Nat.lt_or_ge m 52 with h6 | h6
            · rcases Nat.lt_or_ge m 50 with h7 | h7
              · rcases Nat.lt_or_ge m 49 with h8 | h8
                · exact ok_to (P := fun m => m_okL m (mcd m) = true) (show m = 48 by omega) ok_LawReader_topLevel
                · exact ok_to (P := fun m => m_okL m (mcd m) = true) (show m = 49 by omega) ok_LawReader_pilesKnot
              · rcases Nat.lt_or_ge m 51 with h8 | h8
                · exact ok_to (P := fun m => m_okL m (mcd m) = true) (show m = 50 by omega) ok_LawReader_takesValue
                · exact ok_to (P := fun m => m_okL m (mcd m) = true) (show m = 51 by omega) ok_LawReader_takesSign
            · rcases Nat.lt_or_ge m 54 with h7 | h7
              · rcases Nat.lt_or_ge m 53 with h8 | h8
                · exact ok_to (P := fun m => m_okL m (mcd m) = true) (show m = 52 by omega) ok_LawReader_readsLaw
                · exact ok_to (P := fun m => m_okL m (mcd m) = true) (show m = 53 by omega) ok_LineReader_readsLaw
              · rcases Nat.lt_or_ge m 55 with h8 | h8
                · exact ok_to (P := fun m => m_okL m (mcd m) = true) (show m = 54 by omega) ok_LineReader_readsLine
                · exact ok_to (P := fun m => m_okL m (mcd m) = true) (show m = 55 by omega) ok_LineReader_readsAll
          · rcases Nat.lt_or_ge m 60 with h6 | h6
            · rcases Nat.lt_or_ge m 58 with h7 | h7
              · rcases Nat.lt_or_ge m 57 with h8 | h8
                · exact ok_to (P := fun m => m_okL m (mcd m) = true) (show m = 56 by omega) ok_Day_begin
                · exact ok_to (P := fun m => m_okL m (mcd m) = true) (show m = 57 by omega) ok_Seen_forget
              · rcases Nat.lt_or_ge m 59 with h8 | h8
                · exact ok_to (P := fun m => m_okL m (mcd m) = true) (show m = 58 by omega) ok_C_text
                · exact ok_to (P := fun m => m_okL m (mcd m) = true) (show m = 59 by omega) ok_M_isSmall
            · rcases Nat.lt_or_ge m 62 with h7 | h7
              · rcases Nat.lt_or_ge m 61 with h8 | h8
                · exact ok_to (P := fun m => m_okL m (mcd m) = true) (show m = 60 by omega) ok_M_wordAt
                · exact ok_to (P := fun m => m_okL m (mcd m) = true) (show m = 61 by omega) ok_M_packed
              · rcases Nat.lt_or_ge m 63 with h8 | h8
                · exact ok_to (P := fun m => m_okL m (mcd m) = true) (show m = 62 by omega) ok_M_isDigit
                · rcases Nat.lt_or_ge m 64 with h9 | h9
                  · exact ok_to (P := fun m => m_okL m (mcd m) = true) (show m = 63 by omega) ok_M_signToken
                  · exact ok_to (P := fun m => m_okL m (mcd m) = true) (show m = 64 by omega) ok_M_token
    · rcases Nat.lt_or_ge m 97 with h3 | h3
      · rcases Nat.lt_or_ge m 81 with h4 | h4
        · rcases Nat.lt_or_ge m 73 with h5 | h5
          · rcases Nat.lt_or_ge m 69 with h6 | h6
            · rcases Nat.lt_or_ge m 67 with h7 | h7
              · rcases Nat.lt_or_ge m 66 with h8 | h8
                · exact ok_to (P := fun m => m_okL m (mcd m) = true) (show m = 65 by omega) ok_M_wrong
                · exact ok_to (P := fun m => m_okL m (mcd m) = true) (show m = 66 by omega) ok_M_find
              · rcases Nat.lt_or_ge m 68 with h8 | h8
                · exact ok_to (P := fun m => m_okL m (mcd m) = true) (show m = 67 by omega) ok_M_isIn
                · exact ok_to (P := fun m => m_okL m (mcd m) = true) (show m = 68 by omega) ok_M_number
            · rcases Nat.lt_or_ge m 71 with h7 | h7
              · rcases Nat.lt_or_ge m 70 with h8 | h8
                · exact ok_to (P := fun m => m_okL m (mcd m) = true) (show m = 69 by omega) ok_M_isSign
                · exact ok_to (P := fun m => m_okL m (mcd m) = true) (show m = 70 by omega) ok_M_signed
              · rcases Nat.lt_or_ge m 72 with h8 | h8
                · exact ok_to (P := fun m => m_okL m (mcd m) = true) (show m = 71 by omega) ok_M_manLine
                · exact ok_to (P := fun m => m_okL m (mcd m) = true) (show m = 72 by omega) ok_M_manThere
          · rcases Nat.lt_or_ge m 77 with h6 | h6
            · rcases Nat.lt_or_ge m 75 with h7 | h7
              · rcases Nat.lt_or_ge m 74 with h8 | h8
                · exact ok_to (P := fun m => m_okL m (mcd m) = true) (show m = 73 by omega) ok_M_ringLine
                · exact ok_to (P := fun m => m_okL m (mcd m) = true) (show m = 74 by omega) ok_M_meetLine
              · rcases Nat.lt_or_ge m 76 with h8 | h8
                · exact ok_to (P := fun m => m_okL m (mcd m) = true) (show m = 75 by omega) ok_M_coldLine
                · exact ok_to (P := fun m => m_okL m (mcd m) = true) (show m = 76 by omega) ok_M_onceLine
            · rcases Nat.lt_or_ge m 79 with h7 | h7
              · rcases Nat.lt_or_ge m 78 with h8 | h8
                · exact ok_to (P := fun m => m_okL m (mcd m) = true) (show m = 77 by omega) ok_M_waitsFor
                · exact ok_to (P := fun m => m_okL m (mcd m) = true) (show m = 78 by omega) ok_M_isKey
              · rcases Nat.lt_or_ge m 80 with h8 | h8
                · exact ok_to (P := fun m => m_okL m (mcd m) = true) (show m = 79 by omega) ok_M_isCounted
                · exact ok_to (P := fun m => m_okL m (mcd m) = true) (show m = 80 by omega) ok_M_nameMet
        · rcases Nat.lt_or_ge m 89 with h5 | h5
          · rcases Nat.lt_or_ge m 85 with h6 | h6
            · rcases Nat.lt_or_ge m 83 with h7 | h7
              · rcases Nat.lt_or_ge m 82 with h8 | h8
                · exact ok_to (P := fun m => m_okL m (mcd m) = true) (show m = 81 by omega) ok_M_grown
                · exact ok_to (P := fun m => m_okL m (mcd m) = true) (show m = 82 by omega) ok_M_leafRead
              · rcases Nat.lt_or_ge m 84 with h8 | h8
                · exact ok_to (P := fun m => m_okL m (mcd m) = true) (show m = 83 by omega) ok_M_rank
                · exact ok_to (P := fun m => m_okL m (mcd m) = true) (show m = 84 by omega) ok_M_dropHeld
            · rcases Nat.lt_or_ge m 87 with h7 | h7
              · rcases Nat.lt_or_ge m 86 with h8 | h8
                · exact ok_to (P := fun m => m_okL m (mcd m) = true) (show m = 85 by omega) ok_M_bind
                · exact ok_to (P := fun m => m_okL m (mcd m) = true) (show m = 86 by omega) ok_M_signs
              · rcases Nat.lt_or_ge m 88 with h8 | h8
                · exact ok_to (P := fun m => m_okL m (mcd m) = true) (show m = 87 by omega) ok_M_sumRead
                · exact ok_to (P := fun m => m_okL m (mcd m) = true) (show m = 88 by omega) ok_M_lineRead
          · rcases Nat.lt_or_ge m 93 with h6 | h6
            · rcases Nat.lt_or_ge m 91 with h7 | h7
              · rcases Nat.lt_or_ge m 90 with h8 | h8
                · exact ok_to (P := fun m => m_okL m (mcd m) = true) (show m = 89 by omega) ok_M_text
                · exact ok_to (P := fun m => m_okL m (mcd m) = true) (show m = 90 by omega) ok_C_fault
              · rcases Nat.lt_or_ge m 92 with h8 | h8
                · exact ok_to (P := fun m => m_okL m (mcd m) = true) (show m = 91 by omega) ok_M_fault
                · exact ok_to (P := fun m => m_okL m (mcd m) = true) (show m = 92 by omega) ok_C_named
            · rcases Nat.lt_or_ge m 95 with h7 | h7
              · rcases Nat.lt_or_ge m 94 with h8 | h8
                · exact ok_to (P := fun m => m_okL m (mcd m) = true) (show m = 93 by omega) ok_M_named
                · exact ok_to (P := fun m => m_okL m (mcd m) = true) (show m = 94 by omega) ok_C_isPerson
              · rcases Nat.lt_or_ge m 96 with h8 | h8
                · exact ok_to (P := fun m => m_okL m (mcd m) = true) (show m = 95 by omega) ok_Day_placeOf
                · exact ok_to (P := fun m => m_okL m (mcd m) = true) (show m = 96 by omega) ok_Day_modeOf
      · rcases Nat.lt_or_ge m 113 with h4 | h4
        · rcases Nat.lt_or_ge m 105 with h5 | h5
          · rcases Nat.lt_or_ge m 101 with h6 | h6
            · rcases Nat.lt_or_ge m 99 with h7 | h7
              · rcases Nat.lt_or_ge m 98 with h8 | h8
                · exact ok_to (P := fun m => m_okL m (mcd m) = true) (show m = 97 by omega) ok_C_man
                · exact absurd (show m = 98 by omega) hn
              · rcases Nat.lt_or_ge m 100 with h8 | h8
                · exact ok_to (P := fun m => m_okL m (mcd m) = true) (show m = 99 by omega) ok_M_isMan
                · exact ok_to (P := fun m => m_okL m (mcd m) = true) (show m = 100 by omega) ok_M_fails
            · rcases Nat.lt_or_ge m 103 with h7 | h7
              · rcases Nat.lt_or_ge m 102 with h8 | h8
                · exact ok_to (P := fun m => m_okL m (mcd m) = true) (show m = 101 by omega) ok_M_placeOf
                · exact ok_to (P := fun m => m_okL m (mcd m) = true) (show m = 102 by omega) ok_M_man
              · rcases Nat.lt_or_ge m 104 with h8 | h8
                · exact ok_to (P := fun m => m_okL m (mcd m) = true) (show m = 103 by omega) ok_M_thrown
                · exact ok_to (P := fun m => m_okL m (mcd m) = true) (show m = 104 by omega) ok_C_isMeeting
          · rcases Nat.lt_or_ge m 109 with h6 | h6
            · rcases Nat.lt_or_ge m 107 with h7 | h7
              · rcases Nat.lt_or_ge m 106 with h8 | h8
                · exact ok_to (P := fun m => m_okL m (mcd m) = true) (show m = 105 by omega) ok_C_meeting
                · exact ok_to (P := fun m => m_okL m (mcd m) = true) (show m = 106 by omega) ok_M_isMeeting
              · rcases Nat.lt_or_ge m 108 with h8 | h8
                · exact ok_to (P := fun m => m_okL m (mcd m) = true) (show m = 107 by omega) ok_M_meeting
                · exact ok_to (P := fun m => m_okL m (mcd m) = true) (show m = 108 by omega) ok_C_shows
            · rcases Nat.lt_or_ge m 111 with h7 | h7
              · rcases Nat.lt_or_ge m 110 with h8 | h8
                · exact ok_to (P := fun m => m_okL m (mcd m) = true) (show m = 109 by omega) ok_M_shows
                · exact ok_to (P := fun m => m_okL m (mcd m) = true) (show m = 110 by omega) ok_Way_follow
              · rcases Nat.lt_or_ge m 112 with h8 | h8
                · exact ok_to (P := fun m => m_okL m (mcd m) = true) (show m = 111 by omega) ok_Laws_joined
                · exact ok_to (P := fun m => m_okL m (mcd m) = true) (show m = 112 by omega) ok_Laws_valueOf
        · rcases Nat.lt_or_ge m 121 with h5 | h5
          · rcases Nat.lt_or_ge m 117 with h6 | h6
            · rcases Nat.lt_or_ge m 115 with h7 | h7
              · rcases Nat.lt_or_ge m 114 with h8 | h8
                · exact ok_to (P := fun m => m_okL m (mcd m) = true) (show m = 113 by omega) ok_Way_lawOf
                · exact ok_to (P := fun m => m_okL m (mcd m) = true) (show m = 114 by omega) ok_C_law
              · rcases Nat.lt_or_ge m 116 with h8 | h8
                · exact ok_to (P := fun m => m_okL m (mcd m) = true) (show m = 115 by omega) ok_M_waitsOf
                · exact ok_to (P := fun m => m_okL m (mcd m) = true) (show m = 116 by omega) ok_M_rateIn
            · rcases Nat.lt_or_ge m 119 with h7 | h7
              · rcases Nat.lt_or_ge m 118 with h8 | h8
                · exact ok_to (P := fun m => m_okL m (mcd m) = true) (show m = 117 by omega) ok_M_layNames
                · exact ok_to (P := fun m => m_okL m (mcd m) = true) (show m = 118 by omega) ok_M_bounded
              · rcases Nat.lt_or_ge m 120 with h8 | h8
                · exact ok_to (P := fun m => m_okL m (mcd m) = true) (show m = 119 by omega) ok_M_times
                · exact ok_to (P := fun m => m_okL m (mcd m) = true) (show m = 120 by omega) ok_M_compares
          · rcases Nat.lt_or_ge m 125 with h6 | h6
            · rcases Nat.lt_or_ge m 123 with h7 | h7
              · rcases Nat.lt_or_ge m 122 with h8 | h8
                · exact ok_to (P := fun m => m_okL m (mcd m) = true) (show m = 121 by omega) ok_M_valueOf
                · exact ok_to (P := fun m => m_okL m (mcd m) = true) (show m = 122 by omega) ok_M_lawOf
              · rcases Nat.lt_or_ge m 124 with h8 | h8
                · exact ok_to (P := fun m => m_okL m (mcd m) = true) (show m = 123 by omega) ok_M_law
                · exact ok_to (P := fun m => m_okL m (mcd m) = true) (show m = 124 by omega) ok_Day_takesIn
            · rcases Nat.lt_or_ge m 127 with h7 | h7
              · rcases Nat.lt_or_ge m 126 with h8 | h8
                · exact ok_to (P := fun m => m_okL m (mcd m) = true) (show m = 125 by omega) ok_Log_note
                · exact ok_to (P := fun m => m_okL m (mcd m) = true) (show m = 126 by omega) ok_C_ring
              · rcases Nat.lt_or_ge m 128 with h8 | h8
                · exact ok_to (P := fun m => m_okL m (mcd m) = true) (show m = 127 by omega) ok_M_put
                · rcases Nat.lt_or_ge m 129 with h9 | h9
                  · exact ok_to (P := fun m => m_okL m (mcd m) = true) (show m = 128 by omega) ok_M_remember
                  · exact ok_to (P := fun m => m_okL m (mcd m) = true) (show m = 129 by omega) ok_M_joins
  · rcases Nat.lt_or_ge m 195 with h2 | h2
    · rcases Nat.lt_or_ge m 162 with h3 | h3
      · rcases Nat.lt_or_ge m 146 with h4 | h4
        · rcases Nat.lt_or_ge m 138 with h5 | h5
          · rcases Nat.lt_or_ge m 134 with h6 | h6
            · rcases Nat.lt_or_ge m 132 with h7 | h7
              · rcases Nat.lt_or_ge m 131 with h8 | h8
                · exact ok_to (P := fun m => m_okL m (mcd m) = true) (show m = 130 by omega) ok_M_ring
                · exact ok_to (P := fun m => m_okL m (mcd m) = true) (show m = 131 by omega) ok_Day_takeOut
              · rcases Nat.lt_or_ge m 133 with h8 | h8
                · exact ok_to (P := fun m => m_okL m (mcd m) = true) (show m = 132 by omega) ok_C_hangUp
                · exact ok_to (P := fun m => m_okL m (mcd m) = true) (show m = 133 by omega) ok_M_leaves
            · rcases Nat.lt_or_ge m 136 with h7 | h7
              · rcases Nat.lt_or_ge m 135 with h8 | h8
                · exact ok_to (P := fun m => m_okL m (mcd m) = true) (show m = 134 by omega) ok_M_hangUp
                · exact ok_to (P := fun m => m_okL m (mcd m) = true) (show m = 135 by omega) ok_C_set
              · rcases Nat.lt_or_ge m 137 with h8 | h8
                · exact ok_to (P := fun m => m_okL m (mcd m) = true) (show m = 136 by omega) ok_M_set
                · exact ok_to (P := fun m => m_okL m (mcd m) = true) (show m = 137 by omega) ok_Day_isOneThere
          · rcases Nat.lt_or_ge m 142 with h6 | h6
            · rcases Nat.lt_or_ge m 140 with h7 | h7
              · rcases Nat.lt_or_ge m 139 with h8 | h8
                · exact ok_to (P := fun m => m_okL m (mcd m) = true) (show m = 138 by omega) ok_C_putOff
                · exact ok_to (P := fun m => m_okL m (mcd m) = true) (show m = 139 by omega) ok_M_isOpen
              · rcases Nat.lt_or_ge m 141 with h8 | h8
                · exact ok_to (P := fun m => m_okL m (mcd m) = true) (show m = 140 by omega) ok_M_putOff
                · exact ok_to (P := fun m => m_okL m (mcd m) = true) (show m = 141 by omega) ok_Way_takeRings
            · rcases Nat.lt_or_ge m 144 with h7 | h7
              · rcases Nat.lt_or_ge m 143 with h8 | h8
                · exact ok_to (P := fun m => m_okL m (mcd m) = true) (show m = 142 by omega) ok_Day_drawNumber
                · exact ok_to (P := fun m => m_okL m (mcd m) = true) (show m = 143 by omega) ok_Way_isStrangerRinging
              · rcases Nat.lt_or_ge m 145 with h8 | h8
                · exact ok_to (P := fun m => m_okL m (mcd m) = true) (show m = 144 by omega) ok_Day_takesStranger
                · exact ok_to (P := fun m => m_okL m (mcd m) = true) (show m = 145 by omega) ok_C_within
        · rcases Nat.lt_or_ge m 154 with h5 | h5
          · rcases Nat.lt_or_ge m 150 with h6 | h6
            · rcases Nat.lt_or_ge m 148 with h7 | h7
              · rcases Nat.lt_or_ge m 147 with h8 | h8
                · exact ok_to (P := fun m => m_okL m (mcd m) = true) (show m = 146 by omega) ok_Way_isCold
                · exact ok_to (P := fun m => m_okL m (mcd m) = true) (show m = 147 by omega) ok_Way_startTalk
              · rcases Nat.lt_or_ge m 149 with h8 | h8
                · exact ok_to (P := fun m => m_okL m (mcd m) = true) (show m = 148 by omega) ok_Way_goOnTalking
                · exact ok_to (P := fun m => m_okL m (mcd m) = true) (show m = 149 by omega) ok_Way_driftAll
            · rcases Nat.lt_or_ge m 152 with h7 | h7
              · rcases Nat.lt_or_ge m 151 with h8 | h8
                · exact ok_to (P := fun m => m_okL m (mcd m) = true) (show m = 150 by omega) ok_Way_meet
                · exact ok_to (P := fun m => m_okL m (mcd m) = true) (show m = 151 by omega) ok_Way_passMinute
              · rcases Nat.lt_or_ge m 153 with h8 | h8
                · exact ok_to (P := fun m => m_okL m (mcd m) = true) (show m = 152 by omega) ok_C_go
                · exact ok_to (P := fun m => m_okL m (mcd m) = true) (show m = 153 by omega) ok_M_number1
          · rcases Nat.lt_or_ge m 158 with h6 | h6
            · rcases Nat.lt_or_ge m 156 with h7 | h7
              · rcases Nat.lt_or_ge m 155 with h8 | h8
                · exact ok_to (P := fun m => m_okL m (mcd m) = true) (show m = 154 by omega) ok_M_isStranger
                · exact ok_to (P := fun m => m_okL m (mcd m) = true) (show m = 155 by omega) ok_M_boundLaw
              · rcases Nat.lt_or_ge m 157 with h8 | h8
                · exact ok_to (P := fun m => m_okL m (mcd m) = true) (show m = 156 by omega) ok_M_isCold
                · exact ok_to (P := fun m => m_okL m (mcd m) = true) (show m = 157 by omega) ok_M_begins
            · rcases Nat.lt_or_ge m 160 with h7 | h7
              · rcases Nat.lt_or_ge m 159 with h8 | h8
                · exact ok_to (P := fun m => m_okL m (mcd m) = true) (show m = 158 by omega) ok_M_isTold
                · exact ok_to (P := fun m => m_okL m (mcd m) = true) (show m = 159 by omega) ok_M_within
              · rcases Nat.lt_or_ge m 161 with h8 | h8
                · exact ok_to (P := fun m => m_okL m (mcd m) = true) (show m = 160 by omega) ok_M_drifts
                · exact ok_to (P := fun m => m_okL m (mcd m) = true) (show m = 161 by omega) ok_M_comes
      · rcases Nat.lt_or_ge m 178 with h4 | h4
        · rcases Nat.lt_or_ge m 170 with h5 | h5
          · rcases Nat.lt_or_ge m 166 with h6 | h6
            · rcases Nat.lt_or_ge m 164 with h7 | h7
              · rcases Nat.lt_or_ge m 163 with h8 | h8
                · exact ok_to (P := fun m => m_okL m (mcd m) = true) (show m = 162 by omega) ok_M_meets
                · exact ok_to (P := fun m => m_okL m (mcd m) = true) (show m = 163 by omega) ok_M_minuteGoes
              · rcases Nat.lt_or_ge m 165 with h8 | h8
                · exact ok_to (P := fun m => m_okL m (mcd m) = true) (show m = 164 by omega) ok_M_go
                · exact ok_to (P := fun m => m_okL m (mcd m) = true) (show m = 165 by omega) ok_Day_copy
            · rcases Nat.lt_or_ge m 168 with h7 | h7
              · rcases Nat.lt_or_ge m 167 with h8 | h8
                · exact ok_to (P := fun m => m_okL m (mcd m) = true) (show m = 166 by omega) ok_C_startTrial
                · exact ok_to (P := fun m => m_okL m (mcd m) = true) (show m = 167 by omega) ok_C_passTrial
              · rcases Nat.lt_or_ge m 169 with h8 | h8
                · exact ok_to (P := fun m => m_okL m (mcd m) = true) (show m = 168 by omega) ok_Day_howMany
                · exact ok_to (P := fun m => m_okL m (mcd m) = true) (show m = 169 by omega) ok_C_ahead
          · rcases Nat.lt_or_ge m 174 with h6 | h6
            · rcases Nat.lt_or_ge m 172 with h7 | h7
              · rcases Nat.lt_or_ge m 171 with h8 | h8
                · exact ok_to (P := fun m => m_okL m (mcd m) = true) (show m = 170 by omega) ok_M_layTried
                · exact ok_to (P := fun m => m_okL m (mcd m) = true) (show m = 171 by omega) ok_M_goMany
              · rcases Nat.lt_or_ge m 173 with h8 | h8
                · exact ok_to (P := fun m => m_okL m (mcd m) = true) (show m = 172 by omega) ok_M_are
                · exact ok_to (P := fun m => m_okL m (mcd m) = true) (show m = 173 by omega) ok_M_ahead
            · rcases Nat.lt_or_ge m 176 with h7 | h7
              · rcases Nat.lt_or_ge m 175 with h8 | h8
                · exact ok_to (P := fun m => m_okL m (mcd m) = true) (show m = 174 by omega) ok_C_minutesTillTold
                · exact ok_to (P := fun m => m_okL m (mcd m) = true) (show m = 175 by omega) ok_C_delay
              · rcases Nat.lt_or_ge m 177 with h8 | h8
                · exact ok_to (P := fun m => m_okL m (mcd m) = true) (show m = 176 by omega) ok_M_toldBy
                · exact ok_to (P := fun m => m_okL m (mcd m) = true) (show m = 177 by omega) ok_M_delay
        · rcases Nat.lt_or_ge m 186 with h5 | h5
          · rcases Nat.lt_or_ge m 182 with h6 | h6
            · rcases Nat.lt_or_ge m 180 with h7 | h7
              · rcases Nat.lt_or_ge m 179 with h8 | h8
                · exact ok_to (P := fun m => m_okL m (mcd m) = true) (show m = 178 by omega) ok_C_bestRing
                · exact ok_to (P := fun m => m_okL m (mcd m) = true) (show m = 179 by omega) ok_M_bestRing
              · rcases Nat.lt_or_ge m 181 with h8 | h8
                · exact ok_to (P := fun m => m_okL m (mcd m) = true) (show m = 180 by omega) ok_J_bitCount
                · exact ok_to (P := fun m => m_okL m (mcd m) = true) (show m = 181 by omega) ok_Day_spread
            · rcases Nat.lt_or_ge m 184 with h7 | h7
              · rcases Nat.lt_or_ge m 183 with h8 | h8
                · exact ok_to (P := fun m => m_okL m (mcd m) = true) (show m = 182 by omega) ok_C_spreadIfRinging
                · exact ok_to (P := fun m => m_okL m (mcd m) = true) (show m = 183 by omega) ok_C_near
              · rcases Nat.lt_or_ge m 185 with h8 | h8
                · exact ok_to (P := fun m => m_okL m (mcd m) = true) (show m = 184 by omega) ok_M_manyOf
                · exact ok_to (P := fun m => m_okL m (mcd m) = true) (show m = 185 by omega) ok_M_isOf
          · rcases Nat.lt_or_ge m 190 with h6 | h6
            · rcases Nat.lt_or_ge m 188 with h7 | h7
              · rcases Nat.lt_or_ge m 187 with h8 | h8
                · exact ok_to (P := fun m => m_okL m (mcd m) = true) (show m = 186 by omega) ok_M_spread
                · exact ok_to (P := fun m => m_okL m (mcd m) = true) (show m = 187 by omega) ok_M_near
              · rcases Nat.lt_or_ge m 189 with h8 | h8
                · exact ok_to (P := fun m => m_okL m (mcd m) = true) (show m = 188 by omega) ok_C_liars
                · exact ok_to (P := fun m => m_okL m (mcd m) = true) (show m = 189 by omega) ok_M_liars
            · rcases Nat.lt_or_ge m 192 with h7 | h7
              · rcases Nat.lt_or_ge m 191 with h8 | h8
                · exact ok_to (P := fun m => m_okL m (mcd m) = true) (show m = 190 by omega) ok_Day_howManySlower
                · exact ok_to (P := fun m => m_okL m (mcd m) = true) (show m = 191 by omega) ok_C_median
              · rcases Nat.lt_or_ge m 193 with h8 | h8
                · exact ok_to (P := fun m => m_okL m (mcd m) = true) (show m = 192 by omega) ok_M_median
                · rcases Nat.lt_or_ge m 194 with h9 | h9
                  · exact ok_to (P := fun m => m_okL m (mcd m) = true) (show m = 193 by omega) ok_C_agree
                  · exact ok_to (P := fun m => m_okL m (mcd m) = true) (show m = 194 by omega) ok_M_agree
    · rcases Nat.lt_or_ge m 227 with h3 | h3
      · rcases Nat.lt_or_ge m 211 with h4 | h4
        · rcases Nat.lt_or_ge m 203 with h5 | h5
          · rcases Nat.lt_or_ge m 199 with h6 | h6
            · rcases Nat.lt_or_ge m 197 with h7 | h7
              · rcases Nat.lt_or_ge m 196 with h8 | h8
                · exact ok_to (P := fun m => m_okL m (mcd m) = true) (show m = 195 by omega) ok_C_isKeptInTrial
                · exact ok_to (P := fun m => m_okL m (mcd m) = true) (show m = 196 by omega) ok_C_needs
              · rcases Nat.lt_or_ge m 198 with h8 | h8
                · exact ok_to (P := fun m => m_okL m (mcd m) = true) (show m = 197 by omega) ok_M_needs
                · exact ok_to (P := fun m => m_okL m (mcd m) = true) (show m = 198 by omega) ok_C_certain
            · rcases Nat.lt_or_ge m 201 with h7 | h7
              · rcases Nat.lt_or_ge m 200 with h8 | h8
                · exact ok_to (P := fun m => m_okL m (mcd m) = true) (show m = 199 by omega) ok_M_certain
                · exact ok_to (P := fun m => m_okL m (mcd m) = true) (show m = 200 by omega) ok_C_latest
              · rcases Nat.lt_or_ge m 202 with h8 | h8
                · exact ok_to (P := fun m => m_okL m (mcd m) = true) (show m = 201 by omega) ok_M_latest
                · exact ok_to (P := fun m => m_okL m (mcd m) = true) (show m = 202 by omega) ok_C_areTwo
          · rcases Nat.lt_or_ge m 207 with h6 | h6
            · rcases Nat.lt_or_ge m 205 with h7 | h7
              · rcases Nat.lt_or_ge m 204 with h8 | h8
                · exact ok_to (P := fun m => m_okL m (mcd m) = true) (show m = 203 by omega) ok_C_gain
                · exact ok_to (P := fun m => m_okL m (mcd m) = true) (show m = 204 by omega) ok_C_isRest
              · rcases Nat.lt_or_ge m 206 with h8 | h8
                · exact ok_to (P := fun m => m_okL m (mcd m) = true) (show m = 205 by omega) ok_C_rests
                · exact ok_to (P := fun m => m_okL m (mcd m) = true) (show m = 206 by omega) ok_M_areTwo
            · rcases Nat.lt_or_ge m 209 with h7 | h7
              · rcases Nat.lt_or_ge m 208 with h8 | h8
                · exact ok_to (P := fun m => m_okL m (mcd m) = true) (show m = 207 by omega) ok_M_hasBy
                · exact ok_to (P := fun m => m_okL m (mcd m) = true) (show m = 208 by omega) ok_M_restAt
              · rcases Nat.lt_or_ge m 210 with h8 | h8
                · exact ok_to (P := fun m => m_okL m (mcd m) = true) (show m = 209 by omega) ok_M_rests
                · exact ok_to (P := fun m => m_okL m (mcd m) = true) (show m = 210 by omega) ok_C_rest
        · rcases Nat.lt_or_ge m 219 with h5 | h5
          · rcases Nat.lt_or_ge m 215 with h6 | h6
            · rcases Nat.lt_or_ge m 213 with h7 | h7
              · rcases Nat.lt_or_ge m 212 with h8 | h8
                · exact ok_to (P := fun m => m_okL m (mcd m) = true) (show m = 211 by omega) ok_M_rest
                · exact ok_to (P := fun m => m_okL m (mcd m) = true) (show m = 212 by omega) ok_C_apart
              · rcases Nat.lt_or_ge m 214 with h8 | h8
                · exact ok_to (P := fun m => m_okL m (mcd m) = true) (show m = 213 by omega) ok_M_apart
                · exact ok_to (P := fun m => m_okL m (mcd m) = true) (show m = 214 by omega) ok_C_quiet
            · rcases Nat.lt_or_ge m 217 with h7 | h7
              · rcases Nat.lt_or_ge m 216 with h8 | h8
                · exact ok_to (P := fun m => m_okL m (mcd m) = true) (show m = 215 by omega) ok_M_quiet
                · exact ok_to (P := fun m => m_okL m (mcd m) = true) (show m = 216 by omega) ok_C_firstMissed
              · rcases Nat.lt_or_ge m 218 with h8 | h8
                · exact ok_to (P := fun m => m_okL m (mcd m) = true) (show m = 217 by omega) ok_M_firstMissed
                · exact ok_to (P := fun m => m_okL m (mcd m) = true) (show m = 218 by omega) ok_C_longest
          · rcases Nat.lt_or_ge m 223 with h6 | h6
            · rcases Nat.lt_or_ge m 221 with h7 | h7
              · rcases Nat.lt_or_ge m 220 with h8 | h8
                · exact ok_to (P := fun m => m_okL m (mcd m) = true) (show m = 219 by omega) ok_M_longest
                · exact ok_to (P := fun m => m_okL m (mcd m) = true) (show m = 220 by omega) ok_C_queue
              · rcases Nat.lt_or_ge m 222 with h8 | h8
                · exact ok_to (P := fun m => m_okL m (mcd m) = true) (show m = 221 by omega) ok_M_queue
                · exact ok_to (P := fun m => m_okL m (mcd m) = true) (show m = 222 by omega) ok_C_there
            · rcases Nat.lt_or_ge m 225 with h7 | h7
              · rcases Nat.lt_or_ge m 224 with h8 | h8
                · exact ok_to (P := fun m => m_okL m (mcd m) = true) (show m = 223 by omega) ok_M_there
                · exact ok_to (P := fun m => m_okL m (mcd m) = true) (show m = 224 by omega) ok_Seen_addSight
              · rcases Nat.lt_or_ge m 226 with h8 | h8
                · exact ok_to (P := fun m => m_okL m (mcd m) = true) (show m = 225 by omega) ok_C_see
                · exact ok_to (P := fun m => m_okL m (mcd m) = true) (show m = 226 by omega) ok_M_noted
      · rcases Nat.lt_or_ge m 243 with h4 | h4
        · rcases Nat.lt_or_ge m 235 with h5 | h5
          · rcases Nat.lt_or_ge m 231 with h6 | h6
            · rcases Nat.lt_or_ge m 229 with h7 | h7
              · rcases Nat.lt_or_ge m 228 with h8 | h8
                · exact ok_to (P := fun m => m_okL m (mcd m) = true) (show m = 227 by omega) ok_M_see
                · exact ok_to (P := fun m => m_okL m (mcd m) = true) (show m = 228 by omega) ok_Seen_addStrike
              · rcases Nat.lt_or_ge m 230 with h8 | h8
                · exact ok_to (P := fun m => m_okL m (mcd m) = true) (show m = 229 by omega) ok_C_strike
                · exact ok_to (P := fun m => m_okL m (mcd m) = true) (show m = 230 by omega) ok_M_strike
            · rcases Nat.lt_or_ge m 233 with h7 | h7
              · rcases Nat.lt_or_ge m 232 with h8 | h8
                · exact ok_to (P := fun m => m_okL m (mcd m) = true) (show m = 231 by omega) ok_C_known
                · exact ok_to (P := fun m => m_okL m (mcd m) = true) (show m = 232 by omega) ok_M_known
              · rcases Nat.lt_or_ge m 234 with h8 | h8
                · exact ok_to (P := fun m => m_okL m (mcd m) = true) (show m = 233 by omega) ok_Seen_knownBy
                · exact ok_to (P := fun m => m_okL m (mcd m) = true) (show m = 234 by omega) ok_Seen_judge
          · rcases Nat.lt_or_ge m 239 with h6 | h6
            · rcases Nat.lt_or_ge m 237 with h7 | h7
              · rcases Nat.lt_or_ge m 236 with h8 | h8
                · exact ok_to (P := fun m => m_okL m (mcd m) = true) (show m = 235 by omega) ok_Seen_lastMinute
                · exact ok_to (P := fun m => m_okL m (mcd m) = true) (show m = 236 by omega) ok_Seen_isSo
              · rcases Nat.lt_or_ge m 238 with h8 | h8
                · exact ok_to (P := fun m => m_okL m (mcd m) = true) (show m = 237 by omega) ok_C_isAllSeenSo
                · exact ok_to (P := fun m => m_okL m (mcd m) = true) (show m = 238 by omega) ok_C_rates
            · rcases Nat.lt_or_ge m 241 with h7 | h7
              · rcases Nat.lt_or_ge m 240 with h8 | h8
                · exact ok_to (P := fun m => m_okL m (mcd m) = true) (show m = 239 by omega) ok_M_knownBy
                · exact ok_to (P := fun m => m_okL m (mcd m) = true) (show m = 240 by omega) ok_M_isSo
              · rcases Nat.lt_or_ge m 242 with h8 | h8
                · exact ok_to (P := fun m => m_okL m (mcd m) = true) (show m = 241 by omega) ok_M_fits
                · exact ok_to (P := fun m => m_okL m (mcd m) = true) (show m = 242 by omega) ok_M_rates
        · rcases Nat.lt_or_ge m 251 with h5 | h5
          · rcases Nat.lt_or_ge m 247 with h6 | h6
            · rcases Nat.lt_or_ge m 245 with h7 | h7
              · rcases Nat.lt_or_ge m 244 with h8 | h8
                · exact ok_to (P := fun m => m_okL m (mcd m) = true) (show m = 243 by omega) ok_C_chance
                · exact ok_to (P := fun m => m_okL m (mcd m) = true) (show m = 244 by omega) ok_M_chance
              · rcases Nat.lt_or_ge m 246 with h8 | h8
                · exact ok_to (P := fun m => m_okL m (mcd m) = true) (show m = 245 by omega) ok_Way_change
                · exact ok_to (P := fun m => m_okL m (mcd m) = true) (show m = 246 by omega) ok_C_tried
            · rcases Nat.lt_or_ge m 249 with h7 | h7
              · rcases Nat.lt_or_ge m 248 with h8 | h8
                · exact ok_to (P := fun m => m_okL m (mcd m) = true) (show m = 247 by omega) ok_M_tried
                · exact ok_to (P := fun m => m_okL m (mcd m) = true) (show m = 248 by omega) ok_Day_putIn
              · rcases Nat.lt_or_ge m 250 with h8 | h8
                · exact ok_to (P := fun m => m_okL m (mcd m) = true) (show m = 249 by omega) ok_C_undo
                · exact ok_to (P := fun m => m_okL m (mcd m) = true) (show m = 250 by omega) ok_M_take
          · rcases Nat.lt_or_ge m 255 with h6 | h6
            · rcases Nat.lt_or_ge m 253 with h7 | h7
              · rcases Nat.lt_or_ge m 252 with h8 | h8
                · exact ok_to (P := fun m => m_okL m (mcd m) = true) (show m = 251 by omega) ok_M_undo
                · exact ok_to (P := fun m => m_okL m (mcd m) = true) (show m = 252 by omega) ok_C_keep
              · rcases Nat.lt_or_ge m 254 with h8 | h8
                · exact ok_to (P := fun m => m_okL m (mcd m) = true) (show m = 253 by omega) ok_M_keep
                · exact ok_to (P := fun m => m_okL m (mcd m) = true) (show m = 254 by omega) ok_C_back
            · rcases Nat.lt_or_ge m 257 with h7 | h7
              · rcases Nat.lt_or_ge m 256 with h8 | h8
                · exact ok_to (P := fun m => m_okL m (mcd m) = true) (show m = 255 by omega) ok_M_back
                · exact ok_to (P := fun m => m_okL m (mcd m) = true) (show m = 256 by omega) ok_Day_toldInAll
              · rcases Nat.lt_or_ge m 258 with h8 | h8
                · exact ok_to (P := fun m => m_okL m (mcd m) = true) (show m = 257 by omega) ok_C_count
                · rcases Nat.lt_or_ge m 259 with h9 | h9
                  · exact ok_to (P := fun m => m_okL m (mcd m) = true) (show m = 258 by omega) ok_M_count
                  · exact ok_to (P := fun m => m_okL m (mcd m) = true) (show m = 259 by omega) ok_L_law
end
section
/-! ===== the heap that a memory of the mini machine tells ===== -/
/-- what stands fast: the script's cell, its length, the first new cell, the script, where references lie, the tables' numbers, the array classes, what is known of texts -/
abbrev mGl : Type := Nat × Nat × Nat × (Nat → Int32) × (Nat → Nat) × va_G × (ClassId × ClassId × ClassId × ClassId) × (State → Prop)
abbrev g_b (G : mGl) : Nat := G.1
abbrev g_L (G : mGl) : Nat := G.2.1
abbrev g_z (G : mGl) : Nat := G.2.2.1
abbrev g_x (G : mGl) : Nat → Int32 := G.2.2.2.1
abbrev g_a (G : mGl) : Nat → Nat := G.2.2.2.2.1
abbrev g_D (G : mGl) : va_G := G.2.2.2.2.2.1
abbrev g_c (G : mGl) : ClassId × ClassId × ClassId × ClassId := G.2.2.2.2.2.2.1
abbrev g_S (G : mGl) : State → Prop := G.2.2.2.2.2.2.2
def trr (G : mGl) (k : Nat) : Value := match k with
  | 0 => .null
  | 1 => .ref (g_b G)
  | k + 2 => .ref (g_a G k)
def tr (G : mGl) (v : mV) : Value := match v with
  | .inl x => .int (Int32.ofInt x)
  | .inr (.inl x) => .long (Int64.ofInt x)
  | .inr (.inr k) => trr G k
def trq (G : mGl) (q : Nat × mV) : Nat × Value := (q.1, tr G q.2)
def fv (G : mGl) (R : Nat → Nat) (I L : Nat → Int) (j t : Nat) : Value := match t with
  | 1 => .long (Int64.ofInt (L j))
  | 2 => trr G (R j)
  | _ => .int (Int32.ofInt (I j))
def flds (G : mGl) (R : Nat → Nat) (I L : Nat → Int) (c : Nat) : List Value := (List.range (m_cl c).2.2).map (fun j => fv G R I L j (m_tc (m_ty c j)))
def ent0 (G : mGl) (x : Nat × Nat) (R : Nat → Nat) (I L : Nat → Int) : va_E := match x with
  | (0, n) => .inl ((g_c G).1, n, .inl (fun j => Int32.ofInt (I j)))
  | (1, n) => .inl ((g_c G).2.1, n, .inr (.inl (fun j => Int64.ofInt (L j))))
  | (2, n) => .inl ((g_c G).2.2.1, n, .inl (fun j => Int32.ofInt (I j)))
  | (3, n) => .inl ((g_c G).2.2.2, n, .inl (fun j => Int32.ofInt (I j)))
  | (c + 4, _) => .inr (c, flds G R I L c)
def ent (G : mGl) (M : mM) (k : Nat) : va_E := ent0 G (M.2.1 k) (M.2.2.1 k) (M.2.2.2.1 k) (M.2.2.2.2 k)
def wsM (G : mGl) (M : mM) : va_W := (List.range (M.1 - 2)).map (fun k => (g_a G k, ent G M (k + 2)))
def wfV (v : mV) : Prop := match v with
  | .inl x => wr x = x
  | .inr (.inl x) => wl x = x
  | .inr (.inr _) => True
def wfM (G : mGl) (M : mM) : Prop := 2 ≤ M.1 ∧ M.1 ≤ 144 ∧ (∀ k, M.1 ≤ k → (M.2.1 k).1 = 99) ∧ (M.2.1 0).1 = 99 ∧ M.2.1 1 = (98, g_L G) ∧ (∀ j, M.2.2.2.1 1 j = (g_x G j).toInt) ∧ (∀ k j, wr (M.2.2.2.1 k j) = M.2.2.2.1 k j) ∧ (∀ k j, wl (M.2.2.2.2 k j) = M.2.2.2.2 k j) ∧ ∀ k, 2 ≤ k → k < M.1 → (M.2.1 k).1 < 15
theorem wr_ofInt (z : Int) : Int32.ofInt (wr z) = Int32.ofInt z := Int32.ofInt_toInt _
theorem wl_ofInt (z : Int) : Int64.ofInt (wl z) = Int64.ofInt z := Int64.ofInt_toInt _
theorem wr_wr (z : Int) : wr (wr z) = wr z := by unfold wr; rw [Int32.ofInt_toInt]
theorem wl_wl (z : Int) : wl (wl z) = wl z := by unfold wl; rw [Int64.ofInt_toInt]
theorem wr_toInt (x : Int32) : wr x.toInt = x.toInt := by unfold wr; rw [Int32.ofInt_toInt]
theorem wl_toInt (x : Int64) : wl x.toInt = x.toInt := by unfold wl; rw [Int64.ofInt_toInt]
theorem wr_bounds {z : Int} (h : wr z = z) : -2147483648 ≤ z ∧ z ≤ 2147483647 := by
  rw [← h]
  exact ⟨Int32.le_toInt _, by have := Int32.toInt_lt (Int32.ofInt z); unfold wr; omega⟩
theorem wr_of {z : Int} (h1 : -2147483648 ≤ z) (h2 : z ≤ 2147483647) : wr z = z := by
  unfold wr
  rw [Int32.toInt_ofInt, show Int32.size = 4294967296 from rfl]
  exact Int.bmod_eq_of_le (by omega) (by omega)
theorem wl_of {z : Int} (h1 : -9223372036854775808 ≤ z) (h2 : z ≤ 9223372036854775807) : wl z = z := by
  unfold wl
  rw [Int64.toInt_ofInt, show Int64.size = 18446744073709551616 from rfl]
  exact Int.bmod_eq_of_le (by omega) (by omega)
theorem wl_of_wr {z : Int} (h : wr z = z) : wl z = z := by
  have := wr_bounds h
  exact wl_of (by omega) (by omega)
theorem wsM_get {G : mGl} {M : mM} {k : Nat} (h : k + 2 < M.1) : (wsM G M)[k]? = some (g_a G k, ent G M (k + 2)) := by
  unfold wsM
  rw [List.getElem?_map, List.getElem?_range (by omega)]
  rfl
theorem wsM_len {G : mGl} {M : mM} : (wsM G M).length = M.1 - 2 := by unfold wsM; simp
theorem wsM_set {G : mGl} {M M' : mM} {k : Nat} (hk : k + 2 < M.1) (hn : M'.1 = M.1) (ho : ∀ i, i ≠ k + 2 → ent G M' i = ent G M i) : wsM G M' = (wsM G M).set k (g_a G k, ent G M' (k + 2)) := by
  apply List.ext_getElem?
  intro i
  by_cases hi : i + 2 < M.1
  · rw [wsM_get (by omega)]
    by_cases hik : i = k
    · subst hik
      rw [List.getElem?_set_self (by rw [wsM_len]; omega)]
    · rw [List.getElem?_set_ne (Ne.symm hik), wsM_get hi, ho (i + 2) (by omega)]
  · rw [List.getElem?_eq_none (by rw [wsM_len]; omega), List.getElem?_eq_none (by rw [List.length_set, wsM_len]; omega)]
theorem wsM_push {G : mGl} {M M' : mM} (h2 : 2 ≤ M.1) (hn : M'.1 = M.1 + 1) (ho : ∀ i, i < M.1 → ent G M' i = ent G M i) : wsM G M' = wsM G M ++ [(g_a G (M.1 - 2), ent G M' M.1)] := by
  unfold wsM
  rw [hn, show M.1 + 1 - 2 = (M.1 - 2) + 1 by omega, List.range_succ, List.map_append]
  congr 1
  · apply List.map_congr_left
    intro k hk
    have := List.mem_range.mp hk
    rw [ho (k + 2) (by omega)]
  · simp only [List.map_cons, List.map_nil]
    rw [show M.1 - 2 + 2 = M.1 by omega]
theorem flds_get {G : mGl} {R : Nat → Nat} {I L : Nat → Int} {c j : Nat} (h : j < (m_cl c).2.2) : (flds G R I L c)[j]? = some (fv G R I L j (m_tc (m_ty c j))) := by
  unfold flds
  rw [List.getElem?_map, List.getElem?_range h]
  rfl
theorem flds_len {G : mGl} {R : Nat → Nat} {I L : Nat → Int} {c : Nat} : (flds G R I L c).length = (m_cl c).2.2 := by unfold flds; simp
/-- a field is written: R', I', L' are as before but at j -/
theorem flds_set {G : mGl} {R R' : Nat → Nat} {I I' L L' : Nat → Int} {c j : Nat} (hj : j < (m_cl c).2.2) (hR : ∀ i, i ≠ j → R' i = R i) (hI : ∀ i, i ≠ j → I' i = I i) (hL : ∀ i, i ≠ j → L' i = L i) : flds G R' I' L' c = (flds G R I L c).set j (fv G R' I' L' j (m_tc (m_ty c j))) := by
  apply List.ext_getElem?
  intro i
  by_cases hi : i < (m_cl c).2.2
  · rw [flds_get hi]
    by_cases hij : i = j
    · subst hij
      rw [List.getElem?_set_self (by rw [flds_len]; omega)]
    · rw [List.getElem?_set_ne (Ne.symm hij), flds_get hi]
      unfold fv
      rw [hR i hij, hI i hij, hL i hij]
  · rw [List.getElem?_eq_none (by rw [flds_len]; omega), List.getElem?_eq_none (by rw [List.length_set, flds_len]; omega)]
def nstB (w : Cond) : Bool := match w with
  | .methodLinkNest _ _ _ _ => true
  | _ => false
def nstW : List Cond := lw_tbl.filter nstB
def tysG (G : mGl) : List (ClassId × FieldType) := [((g_c G).1, .int), ((g_c G).2.1, .long), ((g_c G).2.2.1, .byte), ((g_c G).2.2.2, .boolean)]
abbrev g_A (G : mGl) : Nat → Prop := fun q => g_z G ≤ q
/-- what holds of every state in which a method of the system begins -/
def Base (G : mGl) (s : State) : Prop := va_K (g_D G) vwCl (tysG G) s ∧ va_X (g_b G) (g_L G) (g_x G) s s.heap ∧ g_b G < g_z G ∧ g_z G ≤ s.heap.size ∧ (∀ w ∈ nstW, va_Nw w s) ∧ g_S G s
/-- the world: the state's heap holds the memory M -/
def Wd (G : mGl) (M : mM) (U : State) : Prop := Base G U ∧ wfM G M ∧ va_P (g_D G) vwCl (wsM G M) U.heap ∧ va_D (g_A G) (wsM G M) ∧ (M.1 < 144 → U.heap.size = g_z G + (M.1 - 2))
/-- what is asked of the texts: they stay where they are -/
def StrOK (G : mGl) : Prop := ∀ s U : State, g_S G s → s.WarmedH U.vm → (∀ q : Nat, q < s.heap.size → ¬ g_A G q → U.heap[q]? = s.heap[q]?) → g_S G U
theorem Base.moved {G : mGl} (hG : StrOK G) {s U : State} (h : Base G s) (hW : s.WarmedH U.vm) (hz : s.heap.size ≤ U.heap.size) (hk : ∀ q : Nat, q < s.heap.size → ¬ g_A G q → U.heap[q]? = s.heap[q]?) : Base G U := by
  obtain ⟨h1, h2, h3, h4, h5, h6⟩ := h
  refine ⟨va_K.moved hW.alike h1, ?_, h3, Nat.le_trans h4 hz, fun w hw => ?_, hG s U h6 hW hk⟩
  · have h7 : va_X (g_b G) (g_L G) (g_x G) s U.heap := va_X.kept h2 (hk (g_b G) (Nat.lt_of_lt_of_le h3 h4) (Nat.not_le.mpr h3))
    exact va_X.moved hW.alike h7
  · have h8 := h5 w hw
    have h9 := (List.mem_filter.mp hw).2
    cases w <;> first | (cases h9; done) | exact va_Nw.warmM hW h8
end
section
/-! ===== a step of the mini machine is a step of the machine ===== -/
def Ctx (G : mGl) (mid : Nat) (p : Program) (R : Room) (s : State) (m : MethodId) (args : Array Value) (meth : Method) (c : Code) : Prop :=
  p.tables.exec = Jvm.exec ∧ c.code = mB mid ∧ c.maxLocals = mL mid ∧ s.vm.findClass (mY mid).cls = some m.cls ∧ (∀ w ∈ gT, w.before args s = true) ∧ (R.cells = mC mid ∧ R.slots = mS mid ∧ mFr mid ≤ R.frames ∧ mLo mid ≤ R.locals) ∧ ((mY mid).name = "<init>" → meth.name = "<init>") ∧ Base G s
def Frm (G : mGl) (mid : Nat) (s : State) (kc ks : Nat) (lv : List (Nat × mV)) (st : List mV) (M : mM) (H : Heap) (locs : List Loc) (ls : Array Slot) : Prop :=
  lv_has ls (mL mid) (lv.map (trq G)) ∧ (∀ q ∈ lv, wfV q.2) ∧ (∀ v ∈ st, wfV v) ∧ wfM G M ∧ va_P (g_D G) vwCl (wsM G M) H ∧ va_D (g_A G) (wsM G M) ∧ va_S (g_A G) s.heap H locs ∧ (M.1 < 144 → H.size = g_z G + (M.1 - 2)) ∧ kc ≤ mC mid ∧ ks ≤ mS mid
section RW1
variable {p : Program} {l : Launch} {e : Env} {R : Room} {s : State} {m : MethodId} {args : Array Value} {below : List Frame} {meth : Method} {c : Code} {Q : State → Prop} {G : mGl} {mid n : Nat} {q : List mV × mM} {r : List mE} {pc kc ks : Nat} {lv : List (Nat × mV)} {st st' : List mV} {M : mM} {H : Heap} {locs : List Loc} {ls : Array Slot}
/-- the run goes on from r, at pc -/
def GoP (p : Program) (l : Launch) (e : Env) (R : Room) (s : State) (m : MethodId) (args : Array Value) (below : List Frame) (meth : Method) (c : Code) (Q : State → Prop) (G : mGl) (mid n : Nat) (q : List mV × mM) (r : List mE) (pc : Nat) : Prop :=
  ∀ (kc ks : Nat) (lv : List (Nat × mV)) (st : List mV) (M : mM) (H : Heap) (locs : List Loc) (ls : Array Slot), m_exec n mid (r, kc, ks, lv, st, M) = some q → Frm G mid s kc ks lv st M H locs ls → W p l e R s m args below meth c H locs kc ks Q (F0 m pc ls (st.map (tr G)))
theorem s_st (go : GoP p l e R s m args below meth c Q G mid n q r pc) (hF : Frm G mid s kc ks lv st M H locs ls) (hw : ∀ v ∈ st', wfV v) (h : m_exec n mid (r, kc, ks, lv, st', M) = some q) : W p l e R s m args below meth c H locs kc ks Q (F0 m pc ls (st'.map (tr G))) :=
  go _ _ _ _ _ _ _ _ h ⟨hF.1, hF.2.1, hw, hF.2.2.2⟩
theorem wf_cons {v : mV} (h1 : wfV v) (h2 : ∀ w ∈ st, wfV w) : ∀ w ∈ v :: st, wfV w := List.forall_mem_cons.mpr ⟨h1, h2⟩
theorem wf_tail {v : mV} (h : ∀ w ∈ v :: st, wfV w) : ∀ w ∈ st, wfV w := (List.forall_mem_cons.mp h).2
theorem wf_head {v : mV} (h : ∀ w ∈ v :: st, wfV w) : wfV v := (List.forall_mem_cons.mp h).1
theorem lk_mem : ∀ {lv : List (Nat × mV)} {i : Nat} {v : mV}, m_lk lv i = some v → (i, v) ∈ lv := by
  intro lv
  induction lv with
  | nil => intro i v h; cases h
  | cons a t ih =>
    intro i v h
    obtain ⟨j, w⟩ := a
    unfold m_lk at h
    cases hb : Nat.beq j i
    · rw [hb] at h
      exact List.mem_cons_of_mem _ (ih h)
    · rw [hb] at h
      have := Nat.eq_of_beq_eq_true hb
      subst this
      cases h
      exact List.mem_cons_self
theorem lk_at (hl : lv_has ls (mL mid) (lv.map (trq G))) {i : Nat} {v : mV} (h : m_lk lv i = some v) : ls[i]? = some (.val (tr G v)) := hl.2.2 (i, tr G v) (List.mem_map.mpr ⟨(i, v), lk_mem h, rfl⟩)
theorem lk_wf (hw : ∀ q ∈ lv, wfV q.2) {i : Nat} {v : mV} (h : m_lk lv i = some v) : wfV v := hw (i, v) (lk_mem h)
theorem lk_place : ∀ {lv : List (Nat × mV)} {i : Nat} {v : mV}, m_lk lv i = some v → ∃ k : Nat, (lv.map (trq G))[k]? = some (i, tr G v) := by
  intro lv i v h
  have h1 : (i, tr G v) ∈ lv.map (trq G) := List.mem_map.mpr ⟨(i, v), lk_mem h, rfl⟩
  exact List.getElem?_of_mem h1
theorem tr_cat (v : mV) (h : m_isL v = false) : (tr G v).category = 1 := by
  rcases v with x | x | x
  · rfl
  · cases h
  · match x with
    | 0 => rfl
    | 1 => rfl
    | k + 2 => rfl
theorem tr_catL (v : mV) (h : m_isL v = true) : (tr G v).category = 2 := by
  rcases v with x | x | x
  · cases h
  · rfl
  · cases h
theorem tr_cat_iff (v : mV) : ((tr G v).category == 2) = m_isL v := by
  cases h : m_isL v
  · rw [tr_cat v h]; rfl
  · rw [tr_catL v h]; rfl
theorem ins_mem {lv : List (Nat × mV)} {i : Nat} {v : mV} {q : Nat × mV} : q ∈ m_ins lv i v → q = (i, v) ∨ q ∈ lv := by
  induction lv with
  | nil => intro h; exact Or.inl (List.mem_singleton.mp h)
  | cons a t ih =>
    intro h
    obtain ⟨j, w⟩ := a
    unfold m_ins at h
    cases hb : Nat.blt i j
    · rw [hb] at h
      rcases List.mem_cons.mp h with h | h
      · exact Or.inr (List.mem_cons.mpr (Or.inl h))
      · rcases ih h with h | h
        · exact Or.inl h
        · exact Or.inr (List.mem_cons_of_mem _ h)
    · rw [hb] at h
      rcases List.mem_cons.mp h with h | h
      · exact Or.inl h
      · exact Or.inr h
theorem clear_mem {lv : List (Nat × mV)} {i : Nat} {v : mV} {q : Nat × mV} : q ∈ m_clear i v lv → q ∈ lv ∧ ¬ q.1 = i ∧ ¬ (q.1 + 1 = i ∧ m_isL q.2 = true) ∧ ¬ (m_isL v = true ∧ q.1 = i + 1) := by
  induction lv with
  | nil => intro h; cases h
  | cons a t ih =>
    intro h
    obtain ⟨j, w⟩ := a
    unfold m_clear at h
    cases hb : (Nat.beq j i || (Nat.beq (j + 1) i && m_isL w) || (m_isL v && Nat.beq j (i + 1)))
    · rw [hb] at h
      rcases List.mem_cons.mp h with h | h
      · subst h
        simp only [Bool.or_eq_false_iff, Bool.and_eq_false_iff] at hb
        refine ⟨List.mem_cons_self, fun z => ?_, fun z => ?_, fun z => ?_⟩
        · have h1 := hb.1.1
          dsimp only at z
          rw [z, Nat.beq_refl] at h1
          cases h1
        · rcases hb.1.2 with h1 | h1
          · have h2 := z.1
            dsimp only at h2
            rw [h2, Nat.beq_refl] at h1
            cases h1
          · rw [z.2] at h1; cases h1
        · rcases hb.2 with h1 | h1
          · rw [z.1] at h1; cases h1
          · have h2 := z.2
            dsimp only at h2
            rw [h2, Nat.beq_refl] at h1
            cases h1
      · exact ⟨List.mem_cons_of_mem _ (ih h).1, (ih h).2⟩
    · rw [hb] at h
      exact ⟨List.mem_cons_of_mem _ (ih h).1, (ih h).2⟩
theorem sto_wf {i : Nat} {v : mV} (hw : ∀ q ∈ lv, wfV q.2) (hv : wfV v) : ∀ q ∈ m_sto lv i v, wfV q.2 := by
  intro q hq
  rcases ins_mem hq with h | h
  · rw [h]; exact hv
  · exact hw q (clear_mem h).1
/-- fewer listed values -/
theorem has_sub {l1 l2 : List (Nat × Value)} {nL : Nat} (h : lv_has ls nL l1) (hs : ∀ q ∈ l2, q ∈ l1) : lv_has ls nL l2 := ⟨h.1, h.2.1, fun q hq => h.2.2 q (hs q hq)⟩
theorem sto_sub1 {i : Nat} {v : mV} (hv : m_isL v = false) : ∀ q ∈ (m_sto lv i v).map (trq G), q ∈ (i, tr G v) :: (lv.map (trq G)).filter (fun q => !(q.1 == i) && !(q.1 + 1 == i && q.2.category == 2)) := by
  intro q hq
  obtain ⟨a, ha, rfl⟩ := List.mem_map.mp hq
  rcases ins_mem ha with h | h
  · subst h; exact List.mem_cons_self
  · obtain ⟨h1, h2, h3, -⟩ := clear_mem h
    refine List.mem_cons_of_mem _ (List.mem_filter.mpr ⟨List.mem_map.mpr ⟨a, h1, rfl⟩, ?_⟩)
    show (!(a.1 == i) && !(a.1 + 1 == i && ((tr G a.2).category == 2))) = true
    rw [tr_cat_iff]
    simp only [Bool.and_eq_true, Bool.not_eq_true', beq_eq_false_iff_ne, ne_eq, Bool.and_eq_false_iff]
    refine ⟨h2, ?_⟩
    by_cases hz : a.1 + 1 = i
    · right
      cases hb : m_isL a.2
      · rfl
      · exact absurd ⟨hz, hb⟩ h3
    · exact Or.inl hz
theorem sto_sub2 {i : Nat} {v : mV} (hv : m_isL v = true) : ∀ q ∈ (m_sto lv i v).map (trq G), q ∈ (i, tr G v) :: (lv.map (trq G)).filter (fun q => !(q.1 == i) && (!(q.1 == i + 1) && !(q.1 + 1 == i && q.2.category == 2))) := by
  intro q hq
  obtain ⟨a, ha, rfl⟩ := List.mem_map.mp hq
  rcases ins_mem ha with h | h
  · subst h; exact List.mem_cons_self
  · obtain ⟨h1, h2, h3, h4⟩ := clear_mem h
    refine List.mem_cons_of_mem _ (List.mem_filter.mpr ⟨List.mem_map.mpr ⟨a, h1, rfl⟩, ?_⟩)
    show (!(a.1 == i) && (!(a.1 == i + 1) && !(a.1 + 1 == i && ((tr G a.2).category == 2)))) = true
    rw [tr_cat_iff]
    simp only [Bool.and_eq_true, Bool.not_eq_true', beq_eq_false_iff_ne, ne_eq, Bool.and_eq_false_iff]
    refine ⟨h2, fun z => h4 ⟨hv, z⟩, ?_⟩
    by_cases hz : a.1 + 1 = i
    · right
      cases hb : m_isL a.2
      · rfl
      · exact absurd ⟨hz, hb⟩ h3
    · exact Or.inl hz
/-- locals and stack change -/
theorem s_lv {lv' : List (Nat × mV)} {ls' : Array Slot} {kc' ks' : Nat} (go : GoP p l e R s m args below meth c Q G mid n q r pc) (hF : Frm G mid s kc ks lv st M H locs ls) (hl : lv_has ls' (mL mid) (lv'.map (trq G))) (hw' : ∀ q ∈ lv', wfV q.2) (hw : ∀ v ∈ st', wfV v) (h : m_exec n mid (r, kc, ks, lv', st', M) = some q) : W p l e R s m args below meth c H locs kc ks Q (F0 m pc ls' (st'.map (tr G))) :=
  go _ _ _ _ _ _ _ _ h ⟨hl, hw', hw, hF.2.2.2⟩
theorem keep_mem {k : Nat} : ∀ {lv : List (Nat × mV)} {q : Nat × mV}, q ∈ m_keep k lv → q ∈ lv := by
  intro lv
  induction lv with
  | nil => intro q h; cases h
  | cons a t ih =>
    intro q h
    obtain ⟨j, w⟩ := a
    unfold m_keep at h
    cases hb : Nat.beq (Nat.mod (Nat.div k (Nat.pow 2 j)) 2) 1
    · rw [hb] at h; exact List.mem_cons_of_mem _ (ih h)
    · rw [hb] at h
      rcases List.mem_cons.mp h with h | h
      · exact List.mem_cons.mpr (Or.inl h)
      · exact List.mem_cons_of_mem _ (ih h)
theorem i_lt {x y : Int} (hx : wr x = x) (hy : wr y = y) : Int32.ofInt x < Int32.ofInt y ↔ x < y := by
  rw [Int32.lt_iff_toInt_lt]
  show wr x < wr y ↔ _
  rw [hx, hy]
theorem i_le {x y : Int} (hx : wr x = x) (hy : wr y = y) : Int32.ofInt x ≤ Int32.ofInt y ↔ x ≤ y := by
  rw [Int32.le_iff_toInt_le]
  show wr x ≤ wr y ↔ _
  rw [hx, hy]
theorem i_eq {x y : Int} (hx : wr x = x) (hy : wr y = y) : Int32.ofInt x = Int32.ofInt y ↔ x = y := by
  rw [← Int32.toInt_inj]
  show wr x = wr y ↔ _
  rw [hx, hy]
theorem l_lt {x y : Int} (hx : wl x = x) (hy : wl y = y) : Int64.ofInt x < Int64.ofInt y ↔ x < y := by
  rw [Int64.lt_iff_toInt_lt]
  show wl x < wl y ↔ _
  rw [hx, hy]
theorem l_le {x y : Int} (hx : wl x = x) (hy : wl y = y) : Int64.ofInt x ≤ Int64.ofInt y ↔ x ≤ y := by
  rw [Int64.le_iff_toInt_le]
  show wl x ≤ wl y ↔ _
  rw [hx, hy]
theorem l_eq {x y : Int} (hx : wl x = x) (hy : wl y = y) : Int64.ofInt x = Int64.ofInt y ↔ x = y := by
  rw [← Int64.toInt_inj]
  show wl x = wl y ↔ _
  rw [hx, hy]
theorem wr0 : wr 0 = 0 := by decide +kernel
theorem i_div {x y : Int} (hx : wr x = x) (hy : wr y = y) : Int32.ofInt (wr (x.tdiv y)) = Int32.ofInt x / Int32.ofInt y := by
  rw [wr_ofInt, ← Int32.toInt_inj, Int32.toInt_div, Int32.toInt_ofInt]
  show _ = ((wr x).tdiv (wr y)).bmod _
  rw [hx, hy]
theorem i_rem {x y : Int} (hx : wr x = x) (hy : wr y = y) : (Int32.ofInt x - Int32.ofInt x / Int32.ofInt y * Int32.ofInt y).toInt = x.tmod y := by
  rw [rem_toInt]
  show (wr x).tmod (wr y) = _
  rw [hx, hy]
theorem l_div {x y : Int} (hx : wl x = x) (hy : wl y = y) : Int64.ofInt (wl (x.tdiv y)) = Int64.ofInt x / Int64.ofInt y := by
  rw [wl_ofInt, ← Int64.toInt_inj, Int64.toInt_div, Int64.toInt_ofInt]
  show _ = ((wl x).tdiv (wl y)).bmod _
  rw [hx, hy]
theorem int_in {x : Int} {k : Nat} (hx : wr x = x) (h : 0 ≤ x ∧ x < (k : Int)) : vp_in (Int32.ofInt x) k := by
  intro z
  rcases z with z | z
  · have := (i_lt hx wr0).mp z
    omega
  · have h2 : (Int32.ofInt x).toNatClampNeg = x.toNat := congrArg Int.toNat hx
    rw [h2] at z
    omega
theorem int_nat {x : Int} (hx : wr x = x) : (Int32.ofInt x).toNatClampNeg = x.toNat := congrArg Int.toNat hx
end RW1
end
section
/-! ===== fields, arrays, new things ===== -/
theorem cl_get : ∀ c, c < 11 → vwCl[c]? = some (m_cl c) := by
  intro c h
  match c, h with
  | 0, _ => rfl
  | 1, _ => rfl
  | 2, _ => rfl
  | 3, _ => rfl
  | 4, _ => rfl
  | 5, _ => rfl
  | 6, _ => rfl
  | 7, _ => rfl
  | 8, _ => rfl
  | 9, _ => rfl
  | 10, _ => rfl
  | k + 11, h => exact absurd h (by omega)
theorem cl_ty : ∀ c, c < 11 → ∀ j, j < (m_cl c).2.2 → parseFieldDescriptor ((m_cl c).2.1 j).2.2.1 = some (m_ty c j) := by
  intro c h
  match c, h with
  | 0, _ => exact tyX0_ok
  | 1, _ => exact tyX1_ok
  | 2, _ => exact tyX2_ok
  | 3, _ => exact tyX3_ok
  | 4, _ => exact tyX4_ok
  | 5, _ => exact tyX5_ok
  | 6, _ => exact tyX6_ok
  | 7, _ => exact tyX7_ok
  | 8, _ => exact tyX8_ok
  | 9, _ => exact tyX9_ok
  | 10, _ => exact tyX10_ok
  | k + 11, h => exact absurd h (by omega)
theorem cl_nm : ∀ c, c < 11 → ∀ a, a < (m_cl c).2.2 → ∀ b, b < (m_cl c).2.2 → a ≠ b → ((m_cl c).2.1 a).2.1 ≠ ((m_cl c).2.1 b).2.1 := by
  intro c h
  match c, h with
  | 0, _ => exact nmX0
  | 1, _ => exact nmX1
  | 2, _ => exact nmX2
  | 3, _ => exact nmX3
  | 4, _ => exact nmX4
  | 5, _ => exact nmX5
  | 6, _ => exact nmX6
  | 7, _ => exact nmX7
  | 8, _ => exact nmX8
  | 9, _ => exact nmX9
  | 10, _ => exact nmX10
  | k + 11, h => exact absurd h (by omega)
def m_rty (t : FieldType) : Bool := match t with
  | .object _ => true
  | .array _ => true
  | _ => false
def m_cty (c j : Nat) : Bool := match m_ty c j with
  | .int => true
  | .long => true
  | .boolean => true
  | .object _ => true
  | .array _ => true
  | _ => false
theorem cl_cty0 : (List.range 11).all (fun c => (List.range (m_cl c).2.2).all (m_cty c)) = true := by decide +kernel
theorem cl_cty {c j : Nat} (hc : c < 11) (hj : j < (m_cl c).2.2) : m_cty c j = true := List.all_eq_true.mp (List.all_eq_true.mp cl_cty0 c (List.mem_range.mpr hc)) j (List.mem_range.mpr hj)
/-- the type of a field by its number -/
theorem ty_of0 {c j : Nat} (hc : c < 11) (hj : j < (m_cl c).2.2) (h : m_tc (m_ty c j) = 0) : m_ty c j = .int := by
  have h1 := cl_cty hc hj
  unfold m_cty at h1
  cases ht : m_ty c j <;> rw [ht] at h h1 <;> first | rfl | (cases h; done) | (cases h1; done)
theorem ty_of1 {c j : Nat} (hc : c < 11) (hj : j < (m_cl c).2.2) (h : m_tc (m_ty c j) = 1) : m_ty c j = .long := by
  have h1 := cl_cty hc hj
  unfold m_cty at h1
  cases ht : m_ty c j <;> rw [ht] at h h1 <;> first | rfl | (cases h; done) | (cases h1; done)
theorem ty_of3 {c j : Nat} (hc : c < 11) (hj : j < (m_cl c).2.2) (h : m_tc (m_ty c j) = 3) : m_ty c j = .boolean := by
  have h1 := cl_cty hc hj
  unfold m_cty at h1
  cases ht : m_ty c j <;> rw [ht] at h h1 <;> first | rfl | (cases h; done) | (cases h1; done)
theorem ty_of2 {c j : Nat} (hc : c < 11) (hj : j < (m_cl c).2.2) (h : m_tc (m_ty c j) = 2) : (∃ n, m_ty c j = .object n) ∨ ∃ t, m_ty c j = .array t := by
  have h1 := cl_cty hc hj
  unfold m_cty at h1
  cases ht : m_ty c j <;> rw [ht] at h h1 <;> first | exact Or.inl ⟨_, rfl⟩ | exact Or.inr ⟨_, rfl⟩ | (cases h; done) | (cases h1; done)
theorem ty_code {c j : Nat} (hc : c < 11) (hj : j < (m_cl c).2.2) : m_tc (m_ty c j) = 0 ∨ m_tc (m_ty c j) = 1 ∨ m_tc (m_ty c j) = 2 ∨ m_tc (m_ty c j) = 3 := by
  cases m_ty c j <;> simp [m_tc]
theorem ent_obj {G : mGl} {M : mM} {k c : Nat} (h : (M.2.1 k).1 = c + 4) : ent G M k = .inr (c, flds G (M.2.2.1 k) (M.2.2.2.1 k) (M.2.2.2.2 k) c) := by
  unfold ent
  rcases hx : M.2.1 k with ⟨a, b⟩
  rw [hx] at h
  dsimp only at h
  subst h
  rfl
theorem ent_int {G : mGl} {M : mM} {k : Nat} (h : (M.2.1 k).1 = 0) : ent G M k = .inl ((g_c G).1, (M.2.1 k).2, .inl (fun j => Int32.ofInt (M.2.2.2.1 k j))) := by
  unfold ent
  rcases hx : M.2.1 k with ⟨a, b⟩
  rw [hx] at h
  dsimp only at h
  subst h
  rfl
theorem ent_long {G : mGl} {M : mM} {k : Nat} (h : (M.2.1 k).1 = 1) : ent G M k = .inl ((g_c G).2.1, (M.2.1 k).2, .inr (.inl (fun j => Int64.ofInt (M.2.2.2.2 k j)))) := by
  unfold ent
  rcases hx : M.2.1 k with ⟨a, b⟩
  rw [hx] at h
  dsimp only at h
  subst h
  rfl
theorem ent_byte {G : mGl} {M : mM} {k : Nat} (h : (M.2.1 k).1 = 2) : ent G M k = .inl ((g_c G).2.2.1, (M.2.1 k).2, .inl (fun j => Int32.ofInt (M.2.2.2.1 k j))) := by
  unfold ent
  rcases hx : M.2.1 k with ⟨a, b⟩
  rw [hx] at h
  dsimp only at h
  subst h
  rfl
theorem ent_bool {G : mGl} {M : mM} {k : Nat} (h : (M.2.1 k).1 = 3) : ent G M k = .inl ((g_c G).2.2.2, (M.2.1 k).2, .inl (fun j => Int32.ofInt (M.2.2.2.1 k j))) := by
  unfold ent
  rcases hx : M.2.1 k with ⟨a, b⟩
  rw [hx] at h
  dsimp only at h
  subst h
  rfl
theorem wf_in {G : mGl} {M : mM} {k : Nat} (h : wfM G M) (hk : (M.2.1 k).1 < 15) : k < M.1 ∧ 2 ≤ k := by
  obtain ⟨h1, h2, h3, h4, h5, h6⟩ := h
  refine ⟨?_, ?_⟩
  · rcases Nat.lt_or_ge k M.1 with z | z
    · exact z
    · rw [h3 k z] at hk; omega
  · match k, hk with
    | 0, hk => rw [h4] at hk; omega
    | 1, hk => rw [h5] at hk; dsimp only at hk; omega
    | k + 2, _ => omega
theorem mup_self (I : Nat → Nat → Int) (k j : Nat) (x : Int) : mup I k j x k = fun b => if b = j then x else I k b := by unfold mup; rw [if_pos rfl]
theorem mup_other {I : Nat → Nat → Int} {k j : Nat} {x : Int} {i : Nat} (h : i ≠ k) : mup I k j x i = I i := by unfold mup; rw [if_neg h]
theorem mupR_self (I : Nat → Nat → Nat) (k j : Nat) (x : Nat) : mupR I k j x k = fun b => if b = j then x else I k b := by unfold mupR; rw [if_pos rfl]
theorem mupR_other {I : Nat → Nat → Nat} {k j : Nat} {x : Nat} {i : Nat} (h : i ≠ k) : mupR I k j x i = I i := by unfold mupR; rw [if_neg h]
theorem mup_wr {I : Nat → Nat → Int} {k j : Nat} {x : Int} (h : ∀ a b, wr (I a b) = I a b) (hx : wr x = x) : ∀ a b, wr (mup I k j x a b) = mup I k j x a b := by
  intro a b
  unfold mup
  by_cases h1 : a = k
  · rw [if_pos h1]
    by_cases h2 : b = j
    · simp only [h2, if_true]; exact hx
    · simp only [h2, if_false]; exact h a b
  · rw [if_neg h1]; exact h a b
theorem mup_wl {I : Nat → Nat → Int} {k j : Nat} {x : Int} (h : ∀ a b, wl (I a b) = I a b) (hx : wl x = x) : ∀ a b, wl (mup I k j x a b) = mup I k j x a b := by
  intro a b
  unfold mup
  by_cases h1 : a = k
  · rw [if_pos h1]
    by_cases h2 : b = j
    · simp only [h2, if_true]; exact hx
    · simp only [h2, if_false]; exact h a b
  · rw [if_neg h1]; exact h a b
/-- the memory with other ints still is one -/
theorem wfM_I {G : mGl} {n : Nat} {sh : Nat → Nat × Nat} {R : Nat → Nat → Nat} {I L : Nat → Nat → Int} {k j : Nat} {x : Int} (h : wfM G (n, sh, R, I, L)) (hk : 2 ≤ k) (hx : wr x = x) : wfM G (n, sh, R, mup I k j x, L) := by
  obtain ⟨h1, h2, h3, h4, h5, h6, h7, h8⟩ := h
  refine ⟨h1, h2, h3, h4, h5, fun i => ?_, mup_wr h7 hx, h8⟩
  show mup I k j x 1 i = _
  rw [mup_other (by omega)]
  exact h6 i
theorem wfM_L {G : mGl} {n : Nat} {sh : Nat → Nat × Nat} {R : Nat → Nat → Nat} {I L : Nat → Nat → Int} {k j : Nat} {x : Int} (h : wfM G (n, sh, R, I, L)) (hx : wl x = x) : wfM G (n, sh, R, I, mup L k j x) := by
  obtain ⟨h1, h2, h3, h4, h5, h6, h7, h8, h9⟩ := h
  exact ⟨h1, h2, h3, h4, h5, h6, h7, mup_wl h8 hx, h9⟩
theorem wfM_R {G : mGl} {n : Nat} {sh : Nat → Nat × Nat} {R R' : Nat → Nat → Nat} {I L : Nat → Nat → Int} (h : wfM G (n, sh, R, I, L)) : wfM G (n, sh, R', I, L) := h
def ClOK : Prop := ∀ c, c < 11 → (∀ w ∈ u_ws (m_cl c).1 (m_cl c).2.1 (m_cl c).2.2, w ∈ gT) ∧ Cond.instantiable (m_cl c).1 (m_cl c).2.2 ∈ gT ∧ Cond.initialized (m_cl c).1 ∈ gT
section RW2
variable {p : Program} {l : Launch} {e : Env} {R : Room} {s : State} {m : MethodId} {args : Array Value} {below : List Frame} {meth : Method} {c : Code} {Q : State → Prop} {G : mGl} {mid n : Nat} {q : List mV × mM} {r : List mE} {pc kc ks : Nat} {lv : List (Nat × mV)} {st st' : List mV} {M : mM} {H : Heap} {locs : List Loc} {ls : Array Slot}
variable {nn : Nat} {sh : Nat → Nat × Nat} {RR : Nat → Nat → Nat} {I L : Nat → Nat → Int}
theorem s_getf (hCl : ClOK) (hC : Ctx G mid p R s m args meth c) {idx k ci j : Nat} (hd : decode (mB mid) pc = .ok (.getfield idx, 3)) (hci : ci < 11) (hj : j < (m_cl ci).2.2) (hw : Cond.fieldLink (mY mid).cls idx ((m_cl ci).2.1 j).1 ((m_cl ci).2.1 j).2.1 ((m_cl ci).2.1 j).2.2.1 ∈ gT)
    (hF : Frm G mid s kc ks lv (.inr (.inr (k + 2)) :: st) (nn, sh, RR, I, L) H locs ls) (hsh : (sh (k + 2)).1 = ci + 4)
    (kk : W p l e R s m args below meth c H locs kc ks Q (F0 m (pc + 3) ls (fv G (RR (k + 2)) (I (k + 2)) (L (k + 2)) j (m_tc (m_ty ci j)) :: st.map (tr G)))) : W p l e R s m args below meth c H locs kc ks Q (F0 m pc ls ((.inr (.inr (k + 2)) :: st).map (tr G))) := by
  obtain ⟨hx, hb, hml, hown, hts, hR, hin, hB⟩ := hC
  obtain ⟨f1, f2, f3, f4, f5, f6, f7, f8⟩ := hF
  have hlt : k + 2 < nn := (wf_in (M := (nn, sh, RR, I, L)) f4 (by show (sh (k + 2)).1 < 15; omega)).1
  have he : (wsM G (nn, sh, RR, I, L))[k]? = some (g_a G k, .inr (ci, flds G (RR (k + 2)) (I (k + 2)) (L (k + 2)) ci)) := by
    rw [wsM_get hlt, ent_obj (c := ci) hsh]
  exact va_get (D := g_D G) (ci := ci) (C := (m_cl ci).1) (T := (m_cl ci).2.1) (N := (m_cl ci).2.2) hx hb hts (hCl ci hci).1 hown hB.1 f5 k he (cl_get ci hci) j hj (hts _ hw) (fun _ h9 => h9) (flds_get hj) hd kk
/-- what stands in the heap once a cell of the memory is written -/
theorem s_setP {M M' : mM} {k : Nat} {x : va_E} {H1 : Heap} (hk : k + 2 < M.1) (hn : M'.1 = M.1) (ho : ∀ i, i ≠ k + 2 → ent G M' i = ent G M i) (hx : ent G M' (k + 2) = x) (hP : va_P (g_D G) vwCl ((wsM G M).set k (g_a G k, x)) H1) (hD : va_D (g_A G) ((wsM G M).set k (g_a G k, x))) :
    va_P (g_D G) vwCl (wsM G M') H1 ∧ va_D (g_A G) (wsM G M') := by
  rw [wsM_set hk hn ho, hx]
  exact ⟨hP, hD⟩
/-- a field is written: the kit's row, and the heap's size -/
theorem p_put {k ci j idx : Nat} {fs : List Value} {v : Value} (hCl : ClOK) (hC : Ctx G mid p R s m args meth c) (hd : decode (mB mid) pc = .ok (.putfield idx, 3)) (hci : ci < 11) (hj : j < (m_cl ci).2.2) (hw : Cond.fieldLink (mY mid).cls idx ((m_cl ci).2.1 j).1 ((m_cl ci).2.1 j).2.1 ((m_cl ci).2.1 j).2.2.1 ∈ gT)
    (hfin : ((m_cl ci).2.1 j).2.2.2 = false ∨ ((mY mid).name = "<init>" ∧ ((m_cl ci).2.1 j).1 = (mY mid).cls)) (hn : narrow (m_ty ci j) v = v) (hfit : fits (m_ty ci j) v = true) {ws : va_W} {a : Nat} {rest : List Value}
    (hP : va_P (g_D G) vwCl ws H) (hD : va_D (g_A G) ws) (hS : va_S (g_A G) s.heap H locs) (he : ws[k]? = some (a, .inr (ci, fs))) (hl : j < fs.length)
    (kk : ∀ (H1 : Heap) (locs1 : List Loc), H1.size = H.size → va_P (g_D G) vwCl (ws.set k (a, .inr (ci, fs.set j v))) H1 → va_D (g_A G) (ws.set k (a, .inr (ci, fs.set j v))) → va_S (g_A G) s.heap H1 locs1 → W p l e R s m args below meth c H1 locs1 kc ks Q (F0 m (pc + 3) ls rest)) : W p l e R s m args below meth c H locs kc ks Q (F0 m pc ls (v :: .ref a :: rest)) := by
  obtain ⟨hx, hb, hml, hown, hts, hR, hin2, hB⟩ := hC
  have hK := hB.1
  have hin := (hCl ci hci).1
  have hc := cl_get ci hci
  have hap := va_apart (own := (mY mid).cls) hts hin (m_ty ci) (cl_ty ci hci) (cl_nm ci hci) hK hc
  obtain ⟨r, h1, cell, q1, q2, q3, q4⟩ := hP k _ he
  have hr : r = m_cl ci := Option.some.inj (h1.symm.trans hc)
  subst hr
  obtain ⟨hS0, hfc, kC, hkC, hkind⟩ := hK.1 ci _ hc
  obtain ⟨cf, kf, fi, f, hi, hsl⟩ := hS0 j hj
  have hlay := hts _ (hin _ (u_in_lay hj))
  unfold u_lay at hlay
  have hst := (u_facts hfc hkC (u_lays hts hin hj) hi).1
  have hdd := cl_ty ci hci j hj
  rcases hfin with hfin | ⟨hi1, hi2⟩
  · rw [if_neg (by rw [hfin]; decide)] at hlay
    have h6 := u_store hfc hkC hkind hlay hi hdd hn hfit
    refine W.putK hx hb (f := f) ⟨hown, hts _ hw, ⟨_, _, _, hi⟩, hst⟩ (by rw [q2]; exact h6) q1 q3 (by rw [hsl]; exact k2_hasslot (q4 j hj)) rfl rfl hd fun H' e1 e2 e3 => ?_
    rw [hsl] at e1 ⊢
    exact kk H' _ e2 (hP.set hD he ⟨_, hc, t_OB.to (V := updV (vp_V fs) j v) ⟨_, e1, q2, q3, t_set q4 hap hj v⟩ (fun z _ => vp_updV_set hl v z)⟩ e3) (hD.set he) (hS.put e2 e3 (hD.2 k _ he))
  · cases hf : ((m_cl ci).2.1 j).2.2.2
    · rw [if_neg (by rw [hf]; decide)] at hlay
      have h6 := u_store hfc hkC hkind hlay hi hdd hn hfit
      refine W.putK hx hb (f := f) ⟨hown, hts _ hw, ⟨_, _, _, hi⟩, hst⟩ (by rw [q2]; exact h6) q1 q3 (by rw [hsl]; exact k2_hasslot (q4 j hj)) rfl rfl hd fun H' e1 e2 e3 => ?_
      rw [hsl] at e1 ⊢
      exact kk H' _ e2 (hP.set hD he ⟨_, hc, t_OB.to (V := updV (vp_V fs) j v) ⟨_, e1, q2, q3, t_set q4 hap hj v⟩ (fun z _ => vp_updV_set hl v z)⟩ e3) (hD.set he) (hS.put e2 e3 (hD.2 k _ he))
    · rw [if_pos hf] at hlay
      have hcf : m.cls = cf := by
        obtain ⟨_, _, c', _, _, _, -, -, hf', -, -, -, hown2, -⟩ := Cond.laysFinal_spec hlay
        have e1 : c' = cf := by have := hi.symm.trans hf'; simp at this; exact this.1.symm
        rw [hi2] at hown2
        rw [← e1]; exact Option.some.inj (hown.symm.trans hown2)
      have h6 := u_fits hfc hkC hkind (Or.inr hlay) hi hdd hn hfit
      refine W.putFinK hx hb hown (hts _ hw) hi hst hcf (hin2 hi1) (by rw [q2]; exact h6) q1 q3 (by rw [hsl]; exact k2_hasslot (q4 j hj)) rfl rfl hd fun H' e1 e2 e3 => ?_
      rw [hsl] at e1 ⊢
      exact kk H' _ e2 (hP.set hD he ⟨_, hc, t_OB.to (V := updV (vp_V fs) j v) ⟨_, e1, q2, q3, t_set q4 hap hj v⟩ (fun z _ => vp_updV_set hl v z)⟩ e3) (hD.set he) (hS.put e2 e3 (hD.2 k _ he))
/-- a field of the memory is written: R', I', L' are as before but at the cell k + 2, field j -/
theorem s_putf (hCl : ClOK) (hC : Ctx G mid p R s m args meth c) {idx k ci j : Nat} {v : mV} {RR' : Nat → Nat → Nat} {I' L' : Nat → Nat → Int} (hd : decode (mB mid) pc = .ok (.putfield idx, 3)) (hci : ci < 11) (hj : j < (m_cl ci).2.2) (hw : Cond.fieldLink (mY mid).cls idx ((m_cl ci).2.1 j).1 ((m_cl ci).2.1 j).2.1 ((m_cl ci).2.1 j).2.2.1 ∈ gT)
    (hfin : ((m_cl ci).2.1 j).2.2.2 = false ∨ ((mY mid).name = "<init>" ∧ ((m_cl ci).2.1 j).1 = (mY mid).cls)) (hn : narrow (m_ty ci j) (tr G v) = tr G v) (hfit : fits (m_ty ci j) (tr G v) = true)
    (hF : Frm G mid s kc ks lv (v :: .inr (.inr (k + 2)) :: st) (nn, sh, RR, I, L) H locs ls) (hsh : (sh (k + 2)).1 = ci + 4)
    (hR1 : ∀ i, i ≠ k + 2 → RR' i = RR i) (hI1 : ∀ i, i ≠ k + 2 → I' i = I i) (hL1 : ∀ i, i ≠ k + 2 → L' i = L i)
    (hR2 : ∀ i, i ≠ j → RR' (k + 2) i = RR (k + 2) i) (hI2 : ∀ i, i ≠ j → I' (k + 2) i = I (k + 2) i) (hL2 : ∀ i, i ≠ j → L' (k + 2) i = L (k + 2) i)
    (hv : fv G (RR' (k + 2)) (I' (k + 2)) (L' (k + 2)) j (m_tc (m_ty ci j)) = tr G v) (hwf : wfM G (nn, sh, RR', I', L'))
    (go : GoP p l e R s m args below meth c Q G mid n q r (pc + 3)) (h : m_exec n mid (r, kc, ks, lv, st, (nn, sh, RR', I', L')) = some q) : W p l e R s m args below meth c H locs kc ks Q (F0 m pc ls ((v :: .inr (.inr (k + 2)) :: st).map (tr G))) := by
  obtain ⟨f1, f2, f3, f4, f5, f6, f7, f8, f9⟩ := hF
  have hlt : k + 2 < nn := (wf_in (M := (nn, sh, RR, I, L)) f4 (by show (sh (k + 2)).1 < 15; omega)).1
  have he : (wsM G (nn, sh, RR, I, L))[k]? = some (g_a G k, .inr (ci, flds G (RR (k + 2)) (I (k + 2)) (L (k + 2)) ci)) := by
    rw [wsM_get hlt, ent_obj (c := ci) hsh]
  refine p_put hCl hC hd hci hj hw hfin hn hfit f5 f6 f7 he (by rw [flds_len]; exact hj) (fun H1 locs1 hz hP hD hS => ?_)
  obtain ⟨hP', hD'⟩ := s_setP (M := (nn, sh, RR, I, L)) (M' := (nn, sh, RR', I', L')) (x := .inr (ci, (flds G (RR (k + 2)) (I (k + 2)) (L (k + 2)) ci).set j (tr G v))) hlt rfl (fun i hi => by unfold ent; dsimp only; rw [hR1 i hi, hI1 i hi, hL1 i hi]) (by
    rw [ent_obj (c := ci) hsh]
    dsimp only
    rw [flds_set (R := RR (k + 2)) (I := I (k + 2)) (L := L (k + 2)) hj hR2 hI2 hL2, hv]) hP hD
  exact go _ _ _ _ _ _ _ _ h ⟨f1, f2, wf_tail (wf_tail f3), hwf, hP', hD', hS, fun z => hz.trans (f8 z), f9⟩
/-- an int of an array of the memory is written: the array's class has the number t0 -/
theorem s_astI (hC : Ctx G mid p R s m args meth c) {k : Nat} {i x : Int} (hin : 0 ≤ i ∧ i < ((sh (k + 2)).2 : Int))
    (hF : Frm G mid s kc ks lv (.inl x :: .inl i :: .inr (.inr (k + 2)) :: st) (nn, sh, RR, I, L) H locs ls)
    (hk : ((sh (k + 2)).1 = 0 ∧ decode (mB mid) pc = .ok (.iastore, 1)) ∨ ((sh (k + 2)).1 = 2 ∧ decode (mB mid) pc = .ok (.bastore, 1) ∧ -128 ≤ x ∧ x ≤ 127) ∨ ((sh (k + 2)).1 = 3 ∧ decode (mB mid) pc = .ok (.bastore, 1) ∧ (x = 0 ∨ x = 1)))
    (go : GoP p l e R s m args below meth c Q G mid n q r (pc + 1)) (h : m_exec n mid (r, kc, ks, lv, st, (nn, sh, RR, mup I (k + 2) i.toNat x, L)) = some q) : W p l e R s m args below meth c H locs kc ks Q (F0 m pc ls ((.inl x :: .inl i :: .inr (.inr (k + 2)) :: st).map (tr G))) := by
  obtain ⟨hx, hb, hml, hown, hts, hR, hin2, hB⟩ := hC
  obtain ⟨f1, f2, f3, f4, f5, f6, f7, f8, f9⟩ := hF
  have hK := hB.1
  have hxw : wr x = x := wf_head f3
  have hiw : wr i = i := wf_head (wf_tail f3)
  have hlt : k + 2 < nn := (wf_in (M := (nn, sh, RR, I, L)) f4 (by show (sh (k + 2)).1 < 15; omega)).1
  have hvi := int_in hiw hin
  have hni := int_nat hiw
  have fin : ∀ (cA : ClassId) (H1 : Heap) (loc : Loc), (wsM G (nn, sh, RR, I, L))[k]? = some (g_a G k, .inl (cA, (sh (k + 2)).2, .inl (fun j => Int32.ofInt (I (k + 2) j)))) → ent G (nn, sh, RR, mup I (k + 2) i.toNat x, L) (k + 2) = .inl (cA, (sh (k + 2)).2, .inl (fun j => Int32.ofInt (mup I (k + 2) i.toNat x (k + 2) j))) →
      H1[g_a G k]? = some ((vp_cell cA ((sh (k + 2)).2, .inl (fun j => Int32.ofInt (I (k + 2) j)))).setSlot (Int32.ofInt i).toNatClampNeg (.int (Int32.ofInt x))) → H1.size = H.size → (∀ q : Nat, q ≠ g_a G k → H1[q]? = H[q]?) →
      W p l e R s m args below meth c H1 (locs ++ [⟨g_a G k, (Int32.ofInt i).toNatClampNeg⟩]) kc ks Q (F0 m (pc + 1) ls (st.map (tr G))) := by
    intro cA H1 loc ha hen e z oq
    have hat : va_at (g_D G) vwCl (g_a G k, .inl (cA, (sh (k + 2)).2, .inl (fun j => Int32.ofInt (mup I (k + 2) i.toNat x (k + 2) j)))) H1 := by
      show H1[g_a G k]? = some (vp_cell _ _)
      rw [e, vp_cell_i, vp_cell_i, arrV_store]
      congr 2
      funext q
      rw [mup_self, hni]
      by_cases hq : q = i.toNat
      · subst hq; simp [updV]
      · simp [updV, hq]
    obtain ⟨hP', hD'⟩ := s_setP (M := (nn, sh, RR, I, L)) (M' := (nn, sh, RR, mup I (k + 2) i.toNat x, L)) hlt rfl (fun j hj => by unfold ent; dsimp only; rw [mup_other hj]) hen (f5.set f6 ha hat oq) (f6.set ha)
    exact go _ _ _ _ _ _ _ _ h ⟨f1, f2, wf_tail (wf_tail (wf_tail f3)), wfM_I f4 (by omega) hxw, hP', hD', f7.put z oq (f6.2 k _ ha), fun y => z.trans (f8 y), f9⟩
  have hbd : ∀ (cA : ClassId), ¬ (Int32.ofInt i < 0 ∨ (vp_cell cA ((sh (k + 2)).2, .inl (fun j => Int32.ofInt (I (k + 2) j)))).slots.size ≤ (Int32.ofInt i).toNatClampNeg) := by
    intro cA
    rw [vp_cell_i, arrV_size]
    exact hvi
  rcases hk with ⟨hs, hd⟩ | ⟨hs, hd, hv⟩ | ⟨hs, hd, hv⟩
  · have ha : (wsM G (nn, sh, RR, I, L))[k]? = some (g_a G k, .inl ((g_c G).1, (sh (k + 2)).2, .inl (fun j => Int32.ofInt (I (k + 2) j)))) := by rw [wsM_get hlt, ent_int hs]
    exact W.iast hx hb (f5 k _ ha) ((hK.2 0 ((g_c G).1, .int) rfl).1 _ (fun j => .int (Int32.ofInt (I (k + 2) j)))) (fun q => by cases q) (hbd _) rfl rfl hd fun H1 e z oq => fin (g_c G).1 H1 ⟨0, 0⟩ ha (ent_int (M := (nn, sh, RR, mup I (k + 2) i.toNat x, L)) hs) e z oq
  · have ha : (wsM G (nn, sh, RR, I, L))[k]? = some (g_a G k, .inl ((g_c G).2.2.1, (sh (k + 2)).2, .inl (fun j => Int32.ofInt (I (k + 2) j)))) := by rw [wsM_get hlt, ent_byte hs]
    have hnr : narrow .byte (.int (Int32.ofInt x)) = .int (Int32.ofInt x) := by
      show Value.int (Int32.ofInt x).toInt8.toInt32 = _
      congr 1
      rw [← Int32.toInt_inj]
      show (Int32.ofInt x).toInt8.toInt32.toInt = wr x
      rw [Int8.toInt_toInt32, Int32.toInt_toInt8]
      show (wr x).bmod _ = wr x
      rw [hxw]
      exact Int.bmod_eq_of_le (by omega) (by omega)
    exact W.bast hx hb (f5 k _ ha) ((hK.2 2 ((g_c G).2.2.1, .byte) rfl).1 _ (fun j => .int (Int32.ofInt (I (k + 2) j)))) (fun q => by cases q) (hbd _) rfl rfl hd fun H1 e z oq => fin (g_c G).2.2.1 H1 ⟨0, 0⟩ ha (ent_byte (M := (nn, sh, RR, mup I (k + 2) i.toNat x, L)) hs) (by rw [← hnr]; exact e) z oq
  · have ha : (wsM G (nn, sh, RR, I, L))[k]? = some (g_a G k, .inl ((g_c G).2.2.2, (sh (k + 2)).2, .inl (fun j => Int32.ofInt (I (k + 2) j)))) := by rw [wsM_get hlt, ent_bool hs]
    have hnr : narrow .boolean (.int (Int32.ofInt x)) = .int (Int32.ofInt x) := by
      rcases hv with rfl | rfl <;> decide +kernel
    exact W.zast hx hb (f5 k _ ha) ((hK.2 3 ((g_c G).2.2.2, .boolean) rfl).1 _ (fun j => .int (Int32.ofInt (I (k + 2) j)))) (fun q => by cases q) (hbd _) rfl rfl hd fun H1 e z oq => fin (g_c G).2.2.2 H1 ⟨0, 0⟩ ha (ent_bool (M := (nn, sh, RR, mup I (k + 2) i.toNat x, L)) hs) (by rw [← hnr]; exact e) z oq
theorem s_astL (hC : Ctx G mid p R s m args meth c) {k : Nat} {i x : Int} (hin : 0 ≤ i ∧ i < ((sh (k + 2)).2 : Int))
    (hF : Frm G mid s kc ks lv (.inr (.inl x) :: .inl i :: .inr (.inr (k + 2)) :: st) (nn, sh, RR, I, L) H locs ls) (hs : (sh (k + 2)).1 = 1) (hd : decode (mB mid) pc = .ok (.lastore, 1))
    (go : GoP p l e R s m args below meth c Q G mid n q r (pc + 1)) (h : m_exec n mid (r, kc, ks, lv, st, (nn, sh, RR, I, mup L (k + 2) i.toNat x)) = some q) : W p l e R s m args below meth c H locs kc ks Q (F0 m pc ls ((.inr (.inl x) :: .inl i :: .inr (.inr (k + 2)) :: st).map (tr G))) := by
  obtain ⟨hx, hb, hml, hown, hts, hR, hin2, hB⟩ := hC
  obtain ⟨f1, f2, f3, f4, f5, f6, f7, f8, f9⟩ := hF
  have hK := hB.1
  have hxw : wl x = x := wf_head f3
  have hiw : wr i = i := wf_head (wf_tail f3)
  have hlt : k + 2 < nn := (wf_in (M := (nn, sh, RR, I, L)) f4 (by show (sh (k + 2)).1 < 15; omega)).1
  have hvi := int_in hiw hin
  have hni := int_nat hiw
  have ha : (wsM G (nn, sh, RR, I, L))[k]? = some (g_a G k, .inl ((g_c G).2.1, (sh (k + 2)).2, .inr (.inl (fun j => Int64.ofInt (L (k + 2) j))))) := by rw [wsM_get hlt, ent_long hs]
  refine W.last hx hb (f5 k _ ha) ((hK.2 1 ((g_c G).2.1, .long) rfl).1 _ (fun j => .long (Int64.ofInt (L (k + 2) j)))) (fun q => by cases q) (by rw [vp_cell_l, arrV_size]; exact hvi) rfl rfl hd fun H1 e z oq => ?_
  have hat : va_at (g_D G) vwCl (g_a G k, .inl ((g_c G).2.1, (sh (k + 2)).2, .inr (.inl (fun j => Int64.ofInt (mup L (k + 2) i.toNat x (k + 2) j))))) H1 := by
    show H1[g_a G k]? = some (vp_cell _ _)
    rw [e, vp_cell_l, vp_cell_l, arrV_store]
    congr 2
    funext q
    rw [mup_self, hni]
    by_cases hq : q = i.toNat
    · subst hq; simp [updV]
    · simp [updV, hq]
  obtain ⟨hP', hD'⟩ := s_setP (M := (nn, sh, RR, I, L)) (M' := (nn, sh, RR, I, mup L (k + 2) i.toNat x)) hlt rfl (fun j hj => by unfold ent; dsimp only; rw [mup_other hj]) (ent_long (M := (nn, sh, RR, I, mup L (k + 2) i.toNat x)) hs) (f5.set f6 ha hat oq) (f6.set ha)
  exact go _ _ _ _ _ _ _ _ h ⟨f1, f2, wf_tail (wf_tail (wf_tail f3)), wfM_L f4 hxw, hP', hD', f7.put z oq (f6.2 k _ ha), fun y => z.trans (f8 y), f9⟩
end RW2
end
section
/-! ===== loads from arrays, new things, copies ===== -/
theorem mrow_self (I : Nat → Nat → Int) (k : Nat) : mrow I k k = fun _ => 0 := by unfold mrow; rw [if_pos rfl]
theorem mrow_other {I : Nat → Nat → Int} {k i : Nat} (h : i ≠ k) : mrow I k i = I i := by unfold mrow; rw [if_neg h]
theorem mrowR_self (I : Nat → Nat → Nat) (k : Nat) : mrowR I k k = fun _ => 0 := by unfold mrowR; rw [if_pos rfl]
theorem mrowR_other {I : Nat → Nat → Nat} {k i : Nat} (h : i ≠ k) : mrowR I k i = I i := by unfold mrowR; rw [if_neg h]
theorem mshp_self (sh : Nat → Nat × Nat) (k : Nat) (x : Nat × Nat) : mshp sh k x k = x := by unfold mshp; rw [if_pos rfl]
theorem mshp_other {sh : Nat → Nat × Nat} {k i : Nat} {x : Nat × Nat} (h : i ≠ k) : mshp sh k x i = sh i := by unfold mshp; rw [if_neg h]
theorem wfM_new {G : mGl} {n : Nat} {sh : Nat → Nat × Nat} {R : Nat → Nat → Nat} {I L : Nat → Nat → Int} {x : Nat × Nat} (h : wfM G (n, sh, R, I, L)) (hn : n < 144) (hx : x.1 < 15) : wfM G (n + 1, mshp sh n x, mrowR R n, mrow I n, mrow L n) := by
  obtain ⟨h1, h2, h3, h4, h5, h6, h7, h8, h9⟩ := h
  dsimp only at h1 h2 h3 h4 h5 h6 h7 h8 h9
  refine ⟨by show 2 ≤ n + 1; omega, by show n + 1 ≤ 144; omega, fun k hk => ?_, ?_, ?_, fun j => ?_, fun k j => ?_, fun k j => ?_, fun k hk1 hk2 => ?_⟩
  · dsimp only at hk ⊢
    rw [mshp_other (by omega)]; exact h3 k (by omega)
  · dsimp only; rw [mshp_other (by omega)]; exact h4
  · dsimp only; rw [mshp_other (by omega)]; exact h5
  · dsimp only; rw [mrow_other (by omega)]; exact h6 j
  · dsimp only
    by_cases hk : k = n
    · subst hk; rw [mrow_self]; exact wr0
    · rw [mrow_other hk]; exact h7 k j
  · dsimp only
    by_cases hk : k = n
    · subst hk; rw [mrow_self]; exact wl_of (z := 0) (by omega) (by omega)
    · rw [mrow_other hk]; exact h8 k j
  · dsimp only at hk2 ⊢
    by_cases hk : k = n
    · subst hk; rw [mshp_self]; exact hx
    · rw [mshp_other hk]; exact h9 k hk1 (by omega)
theorem wf_98 {G : mGl} {M : mM} {k : Nat} (h : wfM G M) (hk : (M.2.1 k).1 = 98) : k = 1 := by
  obtain ⟨h1, h2, h3, h4, h5, h6, h7, h8, h9⟩ := h
  by_cases hz : M.1 ≤ k
  · have := h3 k hz; omega
  · by_cases hz2 : 2 ≤ k
    · have := h9 k hz2 (by omega); omega
    · by_cases hz3 : k = 0
      · subst hz3; omega
      · omega
/-- where the cells lie -/
def AdOK (G : mGl) : Prop := ∀ k, k < 142 → g_a G k = g_z G + k
section RW3
variable {p : Program} {l : Launch} {e : Env} {R : Room} {s : State} {m : MethodId} {args : Array Value} {below : List Frame} {meth : Method} {c : Code} {Q : State → Prop} {G : mGl} {mid n : Nat} {q : List mV × mM} {r : List mE} {pc kc ks : Nat} {lv : List (Nat × mV)} {st st' : List mV} {M : mM} {H : Heap} {locs : List Loc} {ls : Array Slot}
variable {nn : Nat} {sh : Nat → Nat × Nat} {RR : Nat → Nat → Nat} {I L : Nat → Nat → Int}
theorem s_push {x : Nat × Nat} {H1 : Heap} (hF : Frm G mid s kc ks lv st (nn, sh, RR, I, L) H locs ls) (hA : AdOK G) (hB : Base G s) (hn : nn < 144) (hx : x.1 < 15) {en : va_E} (hen : ent0 G x (fun _ => 0) (fun _ => 0) (fun _ => 0) = en) (hat : va_at (g_D G) vwCl (H.size, en) H1) (hz : H1.size = H.size + 1) (ho : ∀ q, q < H.size → H1[q]? = H[q]?) :
    g_a G (nn - 2) = H.size ∧ va_P (g_D G) vwCl (wsM G (nn + 1, mshp sh nn x, mrowR RR nn, mrow I nn, mrow L nn)) H1 ∧ va_D (g_A G) (wsM G (nn + 1, mshp sh nn x, mrowR RR nn, mrow I nn, mrow L nn)) ∧ va_S (g_A G) s.heap H1 locs ∧ (nn + 1 < 144 → H1.size = g_z G + (nn + 1 - 2)) := by
  obtain ⟨f1, f2, f3, f4, f5, f6, f7, f8, f9⟩ := hF
  have h2 : 2 ≤ nn := f4.1
  have hsz : H.size = g_z G + (nn - 2) := f8 hn
  have had : g_a G (nn - 2) = H.size := by rw [hA _ (by omega), hsz]
  have hk : ∀ (k : Nat) (x : Nat × va_E), (wsM G (nn, sh, RR, I, L))[k]? = some x → H1[x.1]? = H[x.1]? := fun k x hx => ho x.1 ((f5 k x hx).lt)
  have hw : wsM G (nn + 1, mshp sh nn x, mrowR RR nn, mrow I nn, mrow L nn) = wsM G (nn, sh, RR, I, L) ++ [(H.size, en)] := by
    rw [wsM_push (M := (nn, sh, RR, I, L)) h2 rfl (fun i hi => by
      dsimp only at hi
      unfold ent
      dsimp only
      rw [mshp_other (by omega), mrowR_other (by omega), mrow_other (by omega), mrow_other (by omega)])]
    dsimp only
    rw [had]
    congr 3
    unfold ent
    dsimp only
    rw [mshp_self, mrowR_self, mrow_self, mrow_self]
    exact hen
  rw [hw]
  refine ⟨had, (f5.kept hk).app (fun k x hx => ?_), f6.push f5 rfl (by show g_z G ≤ H.size; omega), ⟨Nat.le_trans f7.1 (by omega), fun x h1 h2 => (ho x (Nat.lt_of_lt_of_le h1 f7.1)).trans (f7.2.1 x h1 h2), f7.2.2⟩, fun _ => by omega⟩
  have hz : k < 1 := (List.getElem?_eq_some_iff.mp hx).1
  rw [show k = 0 by omega] at hx
  cases hx
  exact hat
theorem s_new (hCl : ClOK) (hA : AdOK G) (hC : Ctx G mid p R s m args meth c) {idx ci : Nat} (hd : decode (mB mid) pc = .ok (.new idx, 3)) (hci : ci < 11) (hw : Cond.classLink (mY mid).cls idx (m_cl ci).1 ∈ gT) (hn : nn < 144) (hr1 : kc + 1 ≤ mC mid) (hr2 : ks + (m_cl ci).2.2 ≤ mS mid)
    (hF : Frm G mid s kc ks lv st (nn, sh, RR, I, L) H locs ls)
    (go : GoP p l e R s m args below meth c Q G mid n q r (pc + 3)) (h : m_exec n mid (r, kc + 1, ks + (m_cl ci).2.2, lv, .inr (.inr nn) :: st, (nn + 1, mshp sh nn (ci + 4, 0), mrowR RR nn, mrow I nn, mrow L nn)) = some q) : W p l e R s m args below meth c H locs kc ks Q (F0 m pc ls (st.map (tr G))) := by
  obtain ⟨hx, hb, hml, hown, hts, hR, hin2, hB⟩ := id hC
  have hcg := cl_get ci hci
  have hKn := hB.1.1 ci _ hcg
  obtain ⟨c1, c2, c3⟩ := hCl ci hci
  refine W.newcK hx hb hown (hts _ hw) (hts _ c2) (hts _ c3) rfl hd (by rw [hR.1]; exact hr1) (by rw [hR.2.1]; exact hr2) hKn.2.1 rfl fun H1 kC hkC e1 z1 o1 => ?_
  have hfs : ∀ j, j < (m_cl ci).2.2 → defaultValue (m_ty ci j) = vp_V (flds G (fun _ => 0) (fun _ => 0) (fun _ => 0) ci) j := by
    intro j hj
    unfold vp_V
    rw [List.getD_eq_getElem?_getD, flds_get hj]
    rcases ty_code hci hj with ht | ht | ht | ht
    · rw [ht, ty_of0 hci hj ht]; rfl
    · rw [ht, ty_of1 hci hj ht]; rfl
    · rw [ht]
      rcases ty_of2 hci hj ht with ⟨z, hz⟩ | ⟨z, hz⟩ <;> rw [hz] <;> rfl
    · rw [ht, ty_of3 hci hj ht]; rfl
  have hat : va_at (g_D G) vwCl (H.size, .inr (ci, flds G (fun _ => 0) (fun _ => 0) (fun _ => 0) ci)) H1 := ⟨_, hcg, (u_born (m_ty ci) hts c1 hKn hkC e1 (cl_ty ci hci)).to hfs⟩
  obtain ⟨had, hP, hD, hS, hz⟩ := s_push (x := (ci + 4, 0)) hF hA hB hn (by show ci + 4 < 15; omega) rfl hat z1 o1
  obtain ⟨f1, f2, f3, f4, f5, f6, f7, f8, f9, f10⟩ := hF
  have k := go _ _ _ _ _ _ _ _ h ⟨f1, f2, wf_cons trivial f3, wfM_new f4 hn (by show ci + 4 < 15; omega), hP, hD, hS, hz, hr1, hr2⟩
  have h2 : 2 ≤ nn := f4.1
  have ht : tr G (.inr (.inr nn)) = .ref H.size := by
    obtain ⟨z, rfl⟩ : ∃ z, nn = z + 2 := ⟨nn - 2, by omega⟩
    show Value.ref (g_a G z) = _
    rw [← had, show z + 2 - 2 = z by omega]
  rw [List.map_cons, ht] at k
  exact k
theorem s_newa (hA : AdOK G) (hC : Ctx G mid p R s m args meth c) {at_ : ArrayType} {kd : Nat} {x : Int} (hd : decode (mB mid) pc = .ok (.newarray at_, 2)) (hw : Cond.arrayClass (newarray.typeOf at_) ∈ gT)
    (hk : (kd = 0 ∧ newarray.typeOf at_ = .int) ∨ (kd = 1 ∧ newarray.typeOf at_ = .long) ∨ (kd = 2 ∧ newarray.typeOf at_ = .byte) ∨ (kd = 3 ∧ newarray.typeOf at_ = .boolean)) (hn : nn < 144) (hx0 : 0 ≤ x) (hx1 : x ≤ 10000) (hr1 : kc + 1 ≤ mC mid) (hr2 : ks + x.toNat ≤ mS mid)
    (hF : Frm G mid s kc ks lv (.inl x :: st) (nn, sh, RR, I, L) H locs ls)
    (go : GoP p l e R s m args below meth c Q G mid n q r (pc + 2)) (h : m_exec n mid (r, kc + 1, ks + x.toNat, lv, .inr (.inr nn) :: st, (nn + 1, mshp sh nn (kd, x.toNat), mrowR RR nn, mrow I nn, mrow L nn)) = some q) : W p l e R s m args below meth c H locs kc ks Q (F0 m pc ls ((.inl x :: st).map (tr G))) := by
  obtain ⟨hx, hb, hml, hown, hts, hR, hin2, hB⟩ := id hC
  have hxw : wr x = x := wf_head hF.2.2.1
  have hni := int_nat hxw
  have hneg : ¬ Int32.ofInt x < 0 := fun z => by have := (i_lt hxw wr0).mp z; omega
  have hbytes : x.toNat * componentBytes (newarray.typeOf at_) ≤ 536870912 := by
    have : componentBytes (newarray.typeOf at_) ≤ 8 := by
      rcases hk with ⟨-, hk⟩ | ⟨-, hk⟩ | ⟨-, hk⟩ | ⟨-, hk⟩ <;> rw [hk] <;> decide
    calc x.toNat * componentBytes (newarray.typeOf at_) ≤ 10000 * 8 := Nat.mul_le_mul (by omega) this
      _ ≤ 536870912 := by omega
  refine va_newaK hx hb (hts _ hw) (g := F0 m pc ls (.int (Int32.ofInt x) :: st.map (tr G))) rfl hd rfl hneg hni hbytes (by rw [hR.1]; exact hr1) (by rw [hR.2.1]; exact hr2) rfl fun H1 cA e1 z1 o1 hAr hNm => ?_
  have h2 : 2 ≤ nn := hF.2.2.2.1.1
  have fin : ∀ en, ent0 G (kd, x.toNat) (fun _ => 0) (fun _ => 0) (fun _ => 0) = en → kd < 15 → va_at (g_D G) vwCl (H.size, en) H1 → W p l e R s m args below meth c H1 locs (kc + 1) (ks + x.toNat) Q (F0 m (pc + 2) ls (.ref H.size :: st.map (tr G))) := by
    intro en hen hkd hat
    obtain ⟨had, hP, hD, hS, hz⟩ := s_push (x := (kd, x.toNat)) hF hA hB hn hkd hen hat z1 o1
    obtain ⟨f1, f2, f3, f4, f5, f6, f7, f8, f9, f10⟩ := hF
    have k := go _ _ _ _ _ _ _ _ h ⟨f1, f2, wf_cons trivial (wf_tail f3), wfM_new f4 hn hkd, hP, hD, hS, hz, hr1, hr2⟩
    have ht : tr G (.inr (.inr nn)) = .ref H.size := by
      obtain ⟨z, rfl⟩ : ∃ z, nn = z + 2 := ⟨nn - 2, by omega⟩
      show Value.ref (g_a G z) = _
      rw [← had, show z + 2 - 2 = z by omega]
    rw [List.map_cons, ht] at k
    exact k
  have hcl : ∀ {t0 : Nat} {cx : ClassId} {ty : FieldType}, (tysG G)[t0]? = some (cx, ty) → va_RA s cx ty := fun h => (hB.1.2 _ _ h).2
  rcases hk with ⟨rfl, hk⟩ | ⟨rfl, hk⟩ | ⟨rfl, hk⟩ | ⟨rfl, hk⟩
  · rw [hk] at hNm e1
    have hq : s.vm.findClass ("[" ++ FieldType.int.toString) = some (g_c G).1 := hcl (t0 := 0) rfl
    have : cA = (g_c G).1 := Option.some.inj (hNm.symm.trans hq)
    subst this
    exact fin _ rfl (by omega) e1
  · rw [hk] at hNm e1
    have hq : s.vm.findClass ("[" ++ FieldType.long.toString) = some (g_c G).2.1 := hcl (t0 := 1) rfl
    have : cA = (g_c G).2.1 := Option.some.inj (hNm.symm.trans hq)
    subst this
    exact fin _ rfl (by omega) e1
  · rw [hk] at hNm e1
    have hq : s.vm.findClass ("[" ++ FieldType.byte.toString) = some (g_c G).2.2.1 := hcl (t0 := 2) rfl
    have : cA = (g_c G).2.2.1 := Option.some.inj (hNm.symm.trans hq)
    subst this
    exact fin _ rfl (by omega) e1
  · rw [hk] at hNm e1
    have hq : s.vm.findClass ("[" ++ FieldType.boolean.toString) = some (g_c G).2.2.2 := hcl (t0 := 3) rfl
    have : cA = (g_c G).2.2.2 := Option.some.inj (hNm.symm.trans hq)
    subst this
    exact fin _ rfl (by omega) e1
/-- an int of an array, or of the script -/
theorem s_aldI (hC : Ctx G mid p R s m args meth c) {k : Nat} {i : Int} (hin : 0 ≤ i ∧ i < ((sh (k + 1)).2 : Int)) (hF : Frm G mid s kc ks lv (.inl i :: .inr (.inr (k + 1)) :: st) (nn, sh, RR, I, L) H locs ls)
    (hk : ((sh (k + 1)).1 = 0 ∧ decode (mB mid) pc = .ok (.iaload, 1)) ∨ ((sh (k + 1)).1 = 98 ∧ decode (mB mid) pc = .ok (.iaload, 1)) ∨ ((sh (k + 1)).1 = 2 ∧ decode (mB mid) pc = .ok (.baload, 1)) ∨ ((sh (k + 1)).1 = 3 ∧ decode (mB mid) pc = .ok (.baload, 1)))
    (go : GoP p l e R s m args below meth c Q G mid n q r (pc + 1)) (h : m_exec n mid (r, kc, ks, lv, .inl (I (k + 1) i.toNat) :: st, (nn, sh, RR, I, L)) = some q) : W p l e R s m args below meth c H locs kc ks Q (F0 m pc ls ((.inl i :: .inr (.inr (k + 1)) :: st).map (tr G))) := by
  obtain ⟨hx, hb, hml, hown, hts, hR, hin2, hB⟩ := hC
  have hiw : wr i = i := wf_head hF.2.2.1
  have hvi := int_in hiw hin
  have hni := int_nat hiw
  have hK := hB.1
  obtain ⟨f1, f2, f3, f4, f5, f6, f7, f8, f9⟩ := id hF
  have hIw : ∀ a b, wr (I a b) = I a b := f4.2.2.2.2.2.2.1
  have kk := s_st go hF (wf_cons (v := .inl (I (k + 1) i.toNat)) (hIw _ _) (wf_tail (wf_tail f3))) h
  rw [List.map_cons] at kk
  by_cases h98 : (sh (k + 1)).1 = 98
  · have hk0 : k = 0 := by have := wf_98 (M := (nn, sh, RR, I, L)) f4 h98; omega
    subst hk0
    have hd : decode (mB mid) pc = .ok (.iaload, 1) := by
      rcases hk with ⟨z, hd⟩ | ⟨z, hd⟩ | ⟨z, hd⟩ | ⟨z, hd⟩
      · exact hd
      · exact hd
      · exact absurd z (by rw [h98]; omega)
      · exact absurd z (by rw [h98]; omega)
    have hL : (sh 1).2 = g_L G := by
      have h5 : sh 1 = (98, g_L G) := f4.2.2.2.2.1
      rw [h5]
    have hvi' : vp_in (Int32.ofInt i) (g_L G) := hL ▸ hvi
    have hI : (tr G (.inl (I 1 i.toNat))) = .int (g_x G (Int32.ofInt i).toNatClampNeg) := by
      show Value.int (Int32.ofInt (I 1 i.toNat)) = _
      have h6 : I 1 i.toNat = (g_x G i.toNat).toInt := f4.2.2.2.2.2.1 i.toNat
      rw [h6, Int32.ofInt_toInt, hni]
    rw [hI] at kk
    exact va_sld hx hb hB.2.1 (Nat.lt_of_lt_of_le hB.2.2.1 hB.2.2.2.1) (Nat.not_le.mpr hB.2.2.1) f7 hvi' hd kk
  · have hlt15 : (sh (k + 1)).1 < 15 := by rcases hk with ⟨z, -⟩ | ⟨z, -⟩ | ⟨z, -⟩ | ⟨z, -⟩ <;> omega
    have hwi := wf_in (M := (nn, sh, RR, I, L)) f4 hlt15
    obtain ⟨k, rfl⟩ : ∃ z, k = z + 1 := ⟨k - 1, by omega⟩
    have hlt : k + 2 < nn := hwi.1
    have hv : tr G (.inl (I (k + 1 + 1) i.toNat)) = .int ((fun j => Int32.ofInt (I (k + 2) j)) (Int32.ofInt i).toNatClampNeg) := by
      show Value.int _ = _
      rw [hni]
    rw [hv] at kk
    rcases hk with ⟨z, hd⟩ | ⟨z, hd⟩ | ⟨z, hd⟩ | ⟨z, hd⟩
    · exact va_iald (D := g_D G) hx hb hK f5 k 0 (by rw [wsM_get hlt, ent_int z]) rfl hvi hd kk
    · exact absurd z h98
    · exact va_bald (D := g_D G) hx hb hK f5 k 2 (by rw [wsM_get hlt, ent_byte z]) rfl hvi hd kk
    · exact va_zald (D := g_D G) hx hb hK f5 k 3 (by rw [wsM_get hlt, ent_bool z]) rfl hvi hd kk
theorem s_aldL (hC : Ctx G mid p R s m args meth c) {k : Nat} {i : Int} (hin : 0 ≤ i ∧ i < ((sh (k + 1)).2 : Int)) (hF : Frm G mid s kc ks lv (.inl i :: .inr (.inr (k + 1)) :: st) (nn, sh, RR, I, L) H locs ls) (hs : (sh (k + 1)).1 = 1) (hd : decode (mB mid) pc = .ok (.laload, 1))
    (go : GoP p l e R s m args below meth c Q G mid n q r (pc + 1)) (h : m_exec n mid (r, kc, ks, lv, .inr (.inl (L (k + 1) i.toNat)) :: st, (nn, sh, RR, I, L)) = some q) : W p l e R s m args below meth c H locs kc ks Q (F0 m pc ls ((.inl i :: .inr (.inr (k + 1)) :: st).map (tr G))) := by
  obtain ⟨hx, hb, hml, hown, hts, hR, hin2, hB⟩ := hC
  have hiw : wr i = i := wf_head hF.2.2.1
  have hvi := int_in hiw hin
  have hni := int_nat hiw
  have hK := hB.1
  obtain ⟨f1, f2, f3, f4, f5, f6, f7, f8, f9⟩ := id hF
  have hLw : ∀ a b, wl (L a b) = L a b := f4.2.2.2.2.2.2.2.1
  have kk := s_st go hF (wf_cons (v := .inr (.inl (L (k + 1) i.toNat))) (hLw _ _) (wf_tail (wf_tail f3))) h
  rw [List.map_cons] at kk
  have hwi := wf_in (M := (nn, sh, RR, I, L)) f4 (by show (sh (k + 1)).1 < 15; omega)
  obtain ⟨k, rfl⟩ : ∃ z, k = z + 1 := ⟨k - 1, by omega⟩
  have hlt : k + 2 < nn := hwi.1
  have hv : tr G (.inr (.inl (L (k + 1 + 1) i.toNat))) = .long ((fun j => Int64.ofInt (L (k + 2) j)) (Int32.ofInt i).toNatClampNeg) := by
    show Value.long _ = _
    rw [hni]
  rw [hv] at kk
  exact va_lald (D := g_D G) hx hb hK f5 k 1 (by rw [wsM_get hlt, ent_long hs]) rfl hvi hd kk
theorem s_len (hC : Ctx G mid p R s m args meth c) {k : Nat} (hF : Frm G mid s kc ks lv (.inr (.inr (k + 1)) :: st) (nn, sh, RR, I, L) H locs ls) (hs : (sh (k + 1)).1 ≤ 3 ∨ (sh (k + 1)).1 = 98) (hd : decode (mB mid) pc = .ok (.arraylength, 1)) (hlen : (sh (k + 1)).2 < 2147483648)
    (go : GoP p l e R s m args below meth c Q G mid n q r (pc + 1)) (h : m_exec n mid (r, kc, ks, lv, .inl ((sh (k + 1)).2 : Nat) :: st, (nn, sh, RR, I, L)) = some q) : W p l e R s m args below meth c H locs kc ks Q (F0 m pc ls ((.inr (.inr (k + 1)) :: st).map (tr G))) := by
  obtain ⟨hx, hb, hml, hown, hts, hR, hin2, hB⟩ := hC
  have hK := hB.1
  obtain ⟨f1, f2, f3, f4, f5, f6, f7, f8, f9⟩ := id hF
  have kk := s_st go hF (wf_cons (v := .inl ((sh (k + 1)).2 : Nat)) (wr_of (by omega) (by omega)) (wf_tail f3)) h
  rw [List.map_cons] at kk
  have hv : tr G (.inl ((sh (k + 1)).2 : Nat)) = .int (Int32.ofNat (sh (k + 1)).2) := by
    show Value.int _ = _
    congr 1
  rw [hv] at kk
  by_cases h98 : (sh (k + 1)).1 = 98
  · have hk0 : k = 0 := by have := wf_98 (M := (nn, sh, RR, I, L)) f4 h98; omega
    subst hk0
    have hL : (sh 1).2 = g_L G := by
      have h5 : sh 1 = (98, g_L G) := f4.2.2.2.2.1
      rw [h5]
    rw [show (0 + 1 : Nat) = 1 from rfl, hL] at kk
    exact va_slen hx hb hB.2.1 (Nat.lt_of_lt_of_le hB.2.2.1 hB.2.2.2.1) (Nat.not_le.mpr hB.2.2.1) f7 hd kk
  · have hwi := wf_in (M := (nn, sh, RR, I, L)) f4 (by show (sh (k + 1)).1 < 15; omega)
    obtain ⟨k, rfl⟩ : ∃ z, k = z + 1 := ⟨k - 1, by omega⟩
    have hlt : k + 2 < nn := hwi.1
    rcases hx4 : (sh (k + 2)).1 with _ | _ | _ | _ | z
    · exact va_alen (D := g_D G) hx hb hK f5 k 0 (by rw [wsM_get hlt, ent_int hx4]) rfl rfl hd kk
    · exact va_alen (D := g_D G) hx hb hK f5 k 1 (by rw [wsM_get hlt, ent_long hx4]) rfl rfl hd kk
    · exact va_alen (D := g_D G) hx hb hK f5 k 2 (by rw [wsM_get hlt, ent_byte hx4]) rfl rfl hd kk
    · exact va_alen (D := g_D G) hx hb hK f5 k 3 (by rw [wsM_get hlt, ent_bool hx4]) rfl rfl hd kk
    · have : (sh (k + 1 + 1)).1 = z + 1 + 1 + 1 + 1 := hx4
      omega
end RW3
end
section
/-! ===== calls ===== -/
def mW (m : Nat) : List Cond := Cond.code (mY m) (mB m) (mL m) (mRt m) :: gT
def mRm (m : Nat) : Room := { frames := mFr m, cells := mC m, slots := mS m, locals := mLo m }
def QR (G : mGl) (q : List mV × mM) : Array Value → State → Outcome → State → Prop := match q.1 with
  | [] => va_Qv (S := Unit) (fun _ => True) (fun _ t => Wd G q.2 t) (g_A G)
  | [.inl x] => va_Qi (S := Unit) (fun v _ => v = Int32.ofInt x ∧ wr x = x) (fun _ t => Wd G q.2 t) (g_A G)
  | [.inr (.inl x)] => va_Ql (S := Unit) (fun v _ => v = Int64.ofInt x ∧ wl x = x) (fun _ t => Wd G q.2 t) (g_A G)
  | _ => fun _ _ _ _ => False
/-- a method's contract: from the memory M with the arguments as, it answers q -/
def Con (G : mGl) (l : Launch) (m : Nat) (as : List mV) (M : mM) (q : List mV × mM) : Prop := Met l (mY m) (mW m) (mRm m) (va_Pc (as.map (tr G)) (Wd G M)) (QR G q) (mC m) (mS m) (g_A G)
theorem Wd.moved {G : mGl} (hG : StrOK G) {M : mM} {s U : State} (h : Base G s) (hW : s.WarmedH U.vm) {H : Heap} {locs : List Loc} (hU : U.heap = H) (hm : wfM G M) (hP : va_P (g_D G) vwCl (wsM G M) H) (hD : va_D (g_A G) (wsM G M)) (hS : va_S (g_A G) s.heap H locs) (hz : M.1 < 144 → H.size = g_z G + (M.1 - 2)) : Wd G M U := by
  subst hU
  exact ⟨h.moved hG hW hS.1 hS.2.1, hm, hP, hD, hz⟩
theorem Wd.blind {G : mGl} (hG : StrOK G) {M : mM} {as : List Value} : FrameBlind (va_Pc as (Wd G M)) := by
  intro a U g mk h
  obtain ⟨h1, h2, h3, h4, h5, h6⟩ := h
  exact ⟨h1, Base.moved hG h2 (State.WarmedH.refl U) (Nat.le_refl _) (fun _ _ _ => rfl), h3, h4, h5, h6⟩
theorem pop_spec : ∀ (n : Nat) {st acc as s' : List mV}, m_pop n st acc = some (as, s') → ∃ pre : List mV, st = pre ++ s' ∧ as = pre.reverse ++ acc ∧ pre.length = n := by
  intro n
  induction n with
  | zero =>
    intro st acc as s' h
    cases h
    exact ⟨[], rfl, rfl, rfl⟩
  | succ n ih =>
    intro st acc as s' h
    cases st with
    | nil => cases h
    | cons v st =>
      obtain ⟨pre, h1, h2, h3⟩ := ih (show m_pop n st (v :: acc) = some (as, s') from h)
      exact ⟨v :: pre, by rw [h1]; rfl, by rw [h2]; simp, by simp [h3]⟩
theorem cats_eq (G : mGl) : ∀ st : List mV, ((st.map (tr G)).map fun v => v.category).sum = m_cats st := by
  intro st
  induction st with
  | nil => rfl
  | cons v t ih =>
    simp only [List.map_cons, List.sum_cons, m_cats, ih]
    cases h : m_isL v
    · rw [tr_cat v h]; rfl
    · rw [tr_catL v h]; rfl
theorem gG : GoodIn gT gT := fun _ h => ⟨h, good_of_word (gT_good h)⟩
theorem mW_good {m : Nat} (h : m_okC m) : GoodIn gT (mW m) := by
  intro w hw
  rcases List.mem_cons.mp hw with rfl | hw
  · exact gG _ h
  · exact gG _ hw
section CL1
variable {p : Program} {l : Launch} {e : Env} {R : Room} {s : State} {m : MethodId} {args : Array Value} {below : List Frame} {meth : Method} {c : Code} {Q : State → Prop} {G : mGl} {mid n : Nat} {q q1 : List mV × mM} {r : List mE} {pc kc ks : Nat} {lv : List (Nat × mV)} {st st' : List mV} {M : mM} {H : Heap} {locs : List Loc} {ls : Array Slot}
/-- behind a call: the answer on the stack, the memory as the callee left it -/
theorem s_back {a : Array Value} {c1 : Nat} {stv : List Value} (hC : Ctx G mid p R s m args meth c) (hF : Frm G mid s kc ks lv st M H locs ls) (hst : ∀ v ∈ st', wfV v) (hr1 : kc + mC c1 ≤ mC mid) (hr2 : ks + mS c1 ≤ mS mid)
    (hrun : va_Run p l e R s m args below meth c H locs kc ks (mC c1) (mS c1) (F0 m pc ls stv) (st'.map (tr G)) (QR G q1 a) (g_A G))
    (go : GoP p l e R s m args below meth c Q G mid n q r (pc + 3)) (h : m_exec n mid (r, kc + mC c1, ks + mS c1, lv, q1.1 ++ st', q1.2) = some q) : W p l e R s m args below meth c H locs kc ks Q (F0 m pc ls stv) := by
  obtain ⟨f1, f2, f3, f4, f5, f6, f7, f8, f9⟩ := hF
  obtain ⟨res, M'⟩ := q1
  have fin : ∀ (H1 : Heap) (locs1 : List Loc) (t : State), t.heap = H1 → Wd G M' t → va_S (g_A G) s.heap H1 locs1 → (∀ v ∈ res, wfV v) → W p l e R s m args below meth c H1 locs1 (kc + mC c1) (ks + mS c1) Q (F0 m (pc + 3) ls ((res ++ st').map (tr G))) := by
    intro H1 locs1 t ht hW hS hres
    subst ht
    obtain ⟨-, w2, w3, w4, w5⟩ := hW
    exact go _ _ _ _ _ _ _ _ h ⟨f1, f2, fun v hv => (List.mem_append.mp hv).elim (hres v) (hst v), w2, w3, w4, hS, w5, hr1, hr2⟩
  match res, hrun, fin with
  | [], hrun, fin =>
    exact va_callv (a := a) (S := Unit) hrun f7 (fun _ _ z => z) (fun _ z => z) (fun u t H1 locs1 ht _ _ hB _ _ hS => fin H1 locs1 t ht hB hS (fun v hv => by cases hv))
  | [.inl x], hrun, fin =>
    refine va_calli (a := a) (S := Unit) hrun f7 (fun _ _ z => z) (fun _ z => z) (fun v u t H1 locs1 ht _ hp hB _ _ hS => ?_)
    obtain ⟨rfl, hw⟩ := hp
    exact fin H1 locs1 t ht hB hS (fun v hv => by rw [List.mem_singleton.mp hv]; exact hw)
  | [.inr (.inl x)], hrun, fin =>
    refine va_calll (a := a) (S := Unit) hrun f7 (fun _ _ z => z) (fun _ z => z) (fun v u t H1 locs1 ht _ hp hB _ _ hS => ?_)
    obtain ⟨rfl, hw⟩ := hp
    exact fin H1 locs1 t ht hB hS (fun v hv => by rw [List.mem_singleton.mp hv]; exact hw)
  | [.inr (.inr x)], hrun, fin =>
    intro T hT X
    obtain ⟨v, st0, t, T', L, -, -, -, -, -, hf, -⟩ := hrun T hT X
    exact hf.elim
  | a :: b :: t, hrun, fin =>
    intro T hT X
    obtain ⟨v, st0, t, T', L, -, -, -, -, -, hf, -⟩ := hrun T hT X
    exact (show False from by
      unfold QR at hf
      rcases a with a | a | a <;> exact hf).elim
theorem s_cb {c1 idx : Nat} (hN : m_okN c1 = true) (hO : m_okC c1) (hC : Ctx G mid p R s m args meth c) (hr : m_okRoom mid c1 = true) (hlink : (Cond.methodLink (mY mid).cls idx (mY c1)).before args s = true) : CallB R s args (mY mid).cls idx (mY c1) (mB c1) (mL c1) (mRt c1) (mW c1) (mRm c1) (mC c1) (mS c1) (mN c1) := by
  obtain ⟨hx, hb, hml, hown, hts, hR, hin2, hB⟩ := hC
  unfold m_okN at hN
  simp only [Bool.and_eq_true, decide_eq_true_eq] at hN
  unfold m_okRoom at hr
  simp only [Bool.and_eq_true] at hr
  have r1 := Nat.le_of_ble_eq_true hr.1
  have r2 := Nat.le_of_ble_eq_true hr.2
  exact callB_of (mN c1) hts (mW_good hO) rfl rfl rfl (hts _ (m_has_in hN.1.1.1.1.1)) hlink ⟨hN.1.1.1.2, hN.1.1.2, hN.1.2⟩ ⟨Nat.le_trans r1 hR.2.2.1, Nat.le_trans r2 hR.2.2.2⟩
theorem s_ev (hC : Ctx G mid p R s m args meth c) (hG : StrOK G) (hF : Frm G mid s kc ks lv st M H locs ls) : ∀ U : State, U.heap = H → s.WarmedH U.vm → Wd G M U := fun U hU hW => Wd.moved hG hC.2.2.2.2.2.2.2 hW hU hF.2.2.2.1 hF.2.2.2.2.1 hF.2.2.2.2.2.1 hF.2.2.2.2.2.2.1 hF.2.2.2.2.2.2.2.1
theorem s_callV {c1 idx kd e2 : Nat} {as : List mV} (hG : StrOK G) (hN : m_okN c1 = true) (hO : m_okC c1) (hst : mSt c1 = false) (hni : ¬ (mY c1).name = "<init>") (hC : Ctx G mid p R s m args meth c) (hr : m_okRoom mid c1 = true) (hw : Cond.methodLink (mY mid).cls idx (mY c1) ∈ gT) (hd : decode (mB mid) pc = .ok (.invokevirtual idx, 3)) (hkd : 4 ≤ kd ∧ kd < 15) (hcl : (m_cl (kd - 4)).1 = (mY c1).cls) (he2 : e2 = mN c1 + 1)
    (hpop : m_pop e2 st [] = some (as, st')) (hck : m_ckV kd M as = true) (hcat : m_cats st' ≤ 8) (hF : Frm G mid s kc ks lv st M H locs ls) (hr1 : kc + mC c1 ≤ mC mid) (hr2 : ks + mS c1 ≤ mS mid) (hM : Con G l c1 as M q1)
    (go : GoP p l e R s m args below meth c Q G mid n q r (pc + 3)) (h : m_exec n mid (r, kc + mC c1, ks + mS c1, lv, q1.1 ++ st', q1.2) = some q) : W p l e R s m args below meth c H locs kc ks Q (F0 m pc ls (st.map (tr G))) := by
  obtain ⟨hx, hb, hml, hown, hts, hR, hin2, hB⟩ := id hC
  obtain ⟨nn, sh, RR, I, L⟩ := M
  rcases as with _ | ⟨(k | k | (_ | _ | k)), as'⟩ <;> first | (cases hck; done) | skip
  · have hck : Nat.beq (sh (k + 2)).1 kd = true := hck
    have hsh := Nat.eq_of_beq_eq_true hck
    obtain ⟨pre, h1, h2, h3⟩ := pop_spec _ hpop
    rw [List.append_nil] at h2
    have hpre : pre = as'.reverse ++ [.inr (.inr (k + 2))] := by
      have := congrArg List.reverse h2
      rw [List.reverse_reverse, List.reverse_cons] at this
      exact this.symm
    have hlen : as'.length = mN c1 := by
      have := congrArg List.length hpre
      rw [h3, he2] at this
      simp at this
      omega
    have hlt : k + 2 < nn := (wf_in (M := (nn, sh, RR, I, L)) hF.2.2.2.1 (by show (sh (k + 2)).1 < 15; omega)).1
    have hci : kd - 4 < 11 := by omega
    have hrecv := va_recv (D := g_D G) hB.1 hF.2.2.2.2.1 (ci := kd - 4) (q0 := k) (cl_get _ hci) (by rw [wsM_get hlt, ent_obj (c := kd - 4) (by show (sh (k + 2)).1 = _; omega)])
    rw [hcl] at hrecv
    have hN2 := hN
    unfold m_okN at hN2
    simp only [Bool.and_eq_true, decide_eq_true_eq, hst, cond_false, Bool.or_eq_true] at hN2
    have hsel : Cond.selects (mY c1).cls (mY c1) (mY c1) ∈ gT := by
      rcases hN2.1.1.1.1.2.2 with z | z
      · exact absurd z hni
      · exact m_has_in z
    have hrun := va_runV (l := l) (e := e) (below := below) (meth := meth) (b := g_a G k) (As := as'.map (tr G)) (rest := st'.map (tr G)) (H := H) (locs := locs) (cells := kc) (slots := ks) (g := F0 m pc ls (st.map (tr G))) ⟨hx, hb, hml, hown, hts⟩ hM ⟨s_cb hN hO hC hr (hts _ hw), hts _ (m_has_in hN2.1.1.1.1.2.1), hts _ hsel⟩
      ⟨Wd.blind hG, hrecv, fun U hU hW => ⟨rfl, s_ev hC hG hF U hU hW⟩⟩ rfl (by rw [List.length_map]; exact hlen) hF.1.1 (by
        show st.map (tr G) = _
        rw [h1, hpre]
        simp only [List.map_append, List.map_reverse, List.map_cons, List.map_nil, List.append_assoc]
        rfl) (lv_room (by rw [cats_eq]; exact hcat)) hd ⟨by rw [hR.1]; exact hr1, by rw [hR.2.1]; exact hr2⟩
    exact s_back hC hF (fun v hv => hF.2.2.1 v (by rw [h1]; exact List.mem_append_right _ hv)) hr1 hr2 hrun go h
theorem s_callS {c1 idx e2 : Nat} {as : List mV} (hG : StrOK G) (hN : m_okN c1 = true) (hO : m_okC c1) (hst : mSt c1 = true) (hC : Ctx G mid p R s m args meth c) (hr : m_okRoom mid c1 = true) (hw : Cond.methodLink (mY mid).cls idx (mY c1) ∈ gT) (hd : decode (mB mid) pc = .ok (.invokestatic idx, 3)) (he2 : e2 = mN c1)
    (hpop : m_pop e2 st [] = some (as, st')) (hcat : m_cats st' ≤ 8) (hF : Frm G mid s kc ks lv st M H locs ls) (hr1 : kc + mC c1 ≤ mC mid) (hr2 : ks + mS c1 ≤ mS mid) (hM : Con G l c1 as M q1)
    (go : GoP p l e R s m args below meth c Q G mid n q r (pc + 3)) (h : m_exec n mid (r, kc + mC c1, ks + mS c1, lv, q1.1 ++ st', q1.2) = some q) : W p l e R s m args below meth c H locs kc ks Q (F0 m pc ls (st.map (tr G))) := by
  obtain ⟨hx, hb, hml, hown, hts, hR, hin2, hB⟩ := id hC
  obtain ⟨pre, h1, h2, h3⟩ := pop_spec _ hpop
  rw [List.append_nil] at h2
  have hpre : pre = as.reverse := by rw [h2, List.reverse_reverse]
  have hlen : as.length = mN c1 := by rw [h2, List.length_reverse, h3, he2]
  have hN2 := hN
  unfold m_okN at hN2
  simp only [Bool.and_eq_true, decide_eq_true_eq, hst, cond_true] at hN2
  have hrun := va_runS (l := l) (e := e) (below := below) (meth := meth) (As := as.map (tr G)) (rest := st'.map (tr G)) (H := H) (locs := locs) (cells := kc) (slots := ks) (g := F0 m pc ls (st.map (tr G))) ⟨hx, hb, hml, hown, hts⟩ hM ⟨s_cb hN hO hC hr (hts _ hw), hts _ (m_has_in hN2.1.1.1.1.2)⟩
    ⟨Wd.blind hG, fun U hU hW => ⟨rfl, s_ev hC hG hF U hU hW⟩⟩ rfl (by rw [List.length_map]; exact hlen) hF.1.1 (by
      show st.map (tr G) = _
      rw [h1, hpre]
      simp only [List.map_append, List.map_reverse]) (lv_room (by rw [cats_eq]; exact hcat)) hd ⟨by rw [hR.1]; exact hr1, by rw [hR.2.1]; exact hr2⟩
  exact s_back hC hF (fun v hv => hF.2.2.1 v (by rw [h1]; exact List.mem_append_right _ hv)) hr1 hr2 hrun go h
theorem s_cn {c1 idx : Nat} (hN : m_okN c1 = true) (hO : m_okC c1) (hC : Ctx G mid p R s m args meth c) (hr : m_okRoom mid c1 = true) (hlink : va_Nw (.methodLinkNest (mY mid).cls idx (mY c1) "SpeakClock") s) : va_CN R s args (mY mid).cls idx (mY c1) "SpeakClock" (mB c1) (mL c1) (mRt c1) (mW c1) (mRm c1) (mC c1) (mS c1) (mN c1) := by
  obtain ⟨hx, hb, hml, hown, hts, hR, hin2, hB⟩ := hC
  unfold m_okN at hN
  simp only [Bool.and_eq_true, decide_eq_true_eq] at hN
  unfold m_okRoom at hr
  simp only [Bool.and_eq_true] at hr
  have r1 := Nat.le_of_ble_eq_true hr.1
  have r2 := Nat.le_of_ble_eq_true hr.2
  exact va_cnB (mN c1) hts (mW_good hO) rfl rfl rfl hlink (hts _ (m_has_in hN.1.1.1.1.1)) ⟨hN.1.1.1.2, hN.1.1.2, hN.1.2⟩ ⟨Nat.le_trans r1 hR.2.2.1, Nat.le_trans r2 hR.2.2.2⟩
theorem nst_in {w : Cond} (h : w ∈ lw_tbl) (hb : nstB w = true) : w ∈ nstW := List.mem_filter.mpr ⟨h, hb⟩
theorem s_callSN {c1 idx e2 : Nat} {as : List mV} (hG : StrOK G) (hN : m_okN c1 = true) (hO : m_okC c1) (hst : mSt c1 = true) (hC : Ctx G mid p R s m args meth c) (hr : m_okRoom mid c1 = true) (hw : Cond.methodLinkNest (mY mid).cls idx (mY c1) "SpeakClock" ∈ lw_tbl) (hd : decode (mB mid) pc = .ok (.invokestatic idx, 3)) (he2 : e2 = mN c1)
    (hpop : m_pop e2 st [] = some (as, st')) (hcat : m_cats st' ≤ 8) (hF : Frm G mid s kc ks lv st M H locs ls) (hr1 : kc + mC c1 ≤ mC mid) (hr2 : ks + mS c1 ≤ mS mid) (hM : Con G l c1 as M q1)
    (go : GoP p l e R s m args below meth c Q G mid n q r (pc + 3)) (h : m_exec n mid (r, kc + mC c1, ks + mS c1, lv, q1.1 ++ st', q1.2) = some q) : W p l e R s m args below meth c H locs kc ks Q (F0 m pc ls (st.map (tr G))) := by
  obtain ⟨hx, hb, hml, hown, hts, hR, hin2, hB⟩ := id hC
  obtain ⟨pre, h1, h2, h3⟩ := pop_spec _ hpop
  rw [List.append_nil] at h2
  have hpre : pre = as.reverse := by rw [h2, List.reverse_reverse]
  have hlen : as.length = mN c1 := by rw [h2, List.length_reverse, h3, he2]
  have hN2 := hN
  unfold m_okN at hN2
  simp only [Bool.and_eq_true, decide_eq_true_eq, hst, cond_true] at hN2
  have hrun := va_runSN (l := l) (e := e) (below := below) (meth := meth) (As := as.map (tr G)) (rest := st'.map (tr G)) (H := H) (locs := locs) (cells := kc) (slots := ks) (g := F0 m pc ls (st.map (tr G))) ⟨hx, hb, hml, hown, hts⟩ hM ⟨s_cn hN hO hC hr (hB.2.2.2.2.1 _ (nst_in hw rfl)), hts _ (m_has_in hN2.1.1.1.1.2), trivial⟩
    ⟨Wd.blind hG, fun U hU hW => ⟨rfl, s_ev hC hG hF U hU hW⟩⟩ rfl (by rw [List.length_map]; exact hlen) hF.1.1 (by
      show st.map (tr G) = _
      rw [h1, hpre]
      simp only [List.map_append, List.map_reverse]) (lv_room (by rw [cats_eq]; exact hcat)) hd ⟨by rw [hR.1]; exact hr1, by rw [hR.2.1]; exact hr2⟩
  exact s_back hC hF (fun v hv => hF.2.2.1 v (by rw [h1]; exact List.mem_append_right _ hv)) hr1 hr2 hrun go h
theorem s_callI {c1 idx e2 : Nat} {as : List mV} (hG : StrOK G) (hN : m_okN c1 = true) (hO : m_okC c1) (hst : mSt c1 = false) (hni : (mY c1).name = "<init>") (hrt : mRt c1 = none) (hC : Ctx G mid p R s m args meth c) (hr : m_okRoom mid c1 = true) (hw : Cond.methodLink (mY mid).cls idx (mY c1) ∈ gT ∨ Cond.methodLinkNest (mY mid).cls idx (mY c1) "SpeakClock" ∈ lw_tbl) (hd : decode (mB mid) pc = .ok (.invokespecial idx, 3)) (he2 : e2 = mN c1 + 1)
    (hpop : m_pop e2 st [] = some (as, st')) (hck : m_ckI as = true) (hcat : m_cats st' ≤ 8) (hF : Frm G mid s kc ks lv st M H locs ls) (hr1 : kc + mC c1 ≤ mC mid) (hr2 : ks + mS c1 ≤ mS mid) (hM : Con G l c1 as M q1)
    (go : GoP p l e R s m args below meth c Q G mid n q r (pc + 3)) (h : m_exec n mid (r, kc + mC c1, ks + mS c1, lv, q1.1 ++ st', q1.2) = some q) : W p l e R s m args below meth c H locs kc ks Q (F0 m pc ls (st.map (tr G))) := by
  obtain ⟨hx, hb, hml, hown, hts, hR, hin2, hB⟩ := id hC
  rcases as with _ | ⟨(k | k | (_ | _ | k)), as'⟩ <;> first | (cases hck; done) | skip
  · skip
    obtain ⟨pre, h1, h2, h3⟩ := pop_spec _ hpop
    rw [List.append_nil] at h2
    have hpre : pre = as'.reverse ++ [.inr (.inr (k + 2))] := by
      have := congrArg List.reverse h2
      rw [List.reverse_reverse, List.reverse_cons] at this
      exact this.symm
    have hlen : as'.length = mN c1 := by
      have := congrArg List.length hpre
      rw [h3, he2] at this
      simp at this
      omega
    have hN2 := hN
    unfold m_okN at hN2
    simp only [Bool.and_eq_true, decide_eq_true_eq, hst, cond_false, Bool.or_eq_true] at hN2
    have hstk : (F0 m pc ls (st.map (tr G))).stack = (as'.map (tr G)).reverse ++ .ref (g_a G k) :: st'.map (tr G) := by
      show st.map (tr G) = _
      rw [h1, hpre]
      simp only [List.map_append, List.map_reverse, List.map_cons, List.map_nil, List.append_assoc]
      rfl
    rcases hw with hw | hw
    · have hcb := s_cb hN hO hC hr (hts _ hw)
      rw [hrt] at hcb
      have hrun := va_runI (l := l) (e := e) (below := below) (meth := meth) (b := g_a G k) (As := as'.map (tr G)) (rest := st'.map (tr G)) (H := H) (locs := locs) (cells := kc) (slots := ks) (g := F0 m pc ls (st.map (tr G))) ⟨hx, hb, hml, hown, hts⟩ hM ⟨hcb, hni, hts _ (m_has_in hN2.1.1.1.1.2.1)⟩
        ⟨Wd.blind hG, fun U hU hW => ⟨rfl, s_ev hC hG hF U hU hW⟩⟩ rfl (by rw [List.length_map]; exact hlen) hF.1.1 hstk (lv_room (by rw [cats_eq]; exact hcat)) hd ⟨by rw [hR.1]; exact hr1, by rw [hR.2.1]; exact hr2⟩
      exact s_back hC hF (fun v hv => hF.2.2.1 v (by rw [h1]; exact List.mem_append_right _ hv)) hr1 hr2 hrun go h
    · have hcb := s_cn hN hO hC hr (hB.2.2.2.2.1 _ (nst_in hw rfl))
      rw [hrt] at hcb
      have hrun := va_runIN (l := l) (e := e) (below := below) (meth := meth) (b := g_a G k) (As := as'.map (tr G)) (rest := st'.map (tr G)) (H := H) (locs := locs) (cells := kc) (slots := ks) (g := F0 m pc ls (st.map (tr G))) ⟨hx, hb, hml, hown, hts⟩ hM ⟨hcb, hni, hts _ (m_has_in hN2.1.1.1.1.2.1)⟩
        ⟨Wd.blind hG, fun U hU hW => ⟨rfl, s_ev hC hG hF U hU hW⟩⟩ rfl (by rw [List.length_map]; exact hlen) hF.1.1 hstk (lv_room (by rw [cats_eq]; exact hcat)) hd ⟨by rw [hR.1]; exact hr1, by rw [hR.2.1]; exact hr2⟩
      exact s_back hC hF (fun v hv => hF.2.2.1 v (by rw [h1]; exact List.mem_append_right _ hv)) hr1 hr2 hrun go h
end CL1
end
section
/-! ===== a run of the mini machine is a run of the machine ===== -/
def m_disp (n m : Nat) (sr : mSR) : mO := match sr with
  | (t, c, s1, s2, m', as) => (match t with
    | 0 => m_exec n m s1
    | 1 => bif m_holdsB c then m_exec n m s1 else m_exec n m s2
    | 2 => bif m_holdsB c then m_exec n m s1 else none
    | 3 => bif m_holdsB c then (bif Nat.beq m' mLman then m_man (m_exec n mMan) as (m_mem s1) else m_exec n m' (mcd m', 0, 0, m_ent 0 as, [], m_mem s1)).bind (fun q => m_exec n m (m_push s1 q.1 q.2)) else none
    | 4 => bif m_holdsB c then some (as, m_mem s1) else none
    | 5 => m_exec n m (m_at s1 (m_seek (mcd m) (m_sel (mSw m') c.2.1 c.1)))
    | 6 => (m_exec n m' (mcd m', 0, 0, m_ent 0 as, [], m_mem s1)).bind (fun q => m_exec n m (m_push s1 q.1 q.2))
    | 7 => some (as, m_mem s1)
    | _ => none)
theorem exec_disp (n m kc ks : Nat) (e : mE) (r : List mE) (lv : List (Nat × mV)) (st : List mV) (M : mM) : m_exec (n + 1) m (e :: r, kc, ks, lv, st, M) = m_disp n m (m_step m e r kc ks lv st M) := rfl
theorem noEx {q : List mV × mM} (h : (none : mO) = some q) {P : Prop} : P := by cases h
theorem cond_ne {b : Bool} {x y a c : Nat} (hx : ¬ x = 0) (hz : c = 0 → a = 0) (h : (bif b then x else c) = 0) : (bif b then y else a) = 0 := by
  cases b
  · exact hz h
  · exact absurd h hx
theorem mCS (m : Nat) (h : mC m = 0) : mS m = 0 :=
  cond_ne (by decide) (fun h => cond_ne (by decide) (fun h => cond_ne (by decide) (fun h => cond_ne (by decide) (fun h => cond_ne (by decide) (fun h => cond_ne (by decide) (fun h => cond_ne (by decide) (fun h => cond_ne (by decide) (fun h => cond_ne (by decide) (fun h => cond_ne (by decide) (fun h => cond_ne (by decide) (fun h => cond_ne (by decide) (fun h => cond_ne (by decide) (fun h => rfl) h) h) h) h) h) h) h) h) h) h) h) h) h
theorem disp_call {n m e1 e2 kc ks : Nat} {ck : List mV → Bool} {r : List mE} {lv : List (Nat × mV)} {st : List mV} {M : mM} {q : List mV × mM} (hk : kc ≤ mC m) (hs : ks ≤ mS m) (h : m_disp n m (m_call m e1 e2 ck r kc ks lv st M) = some q) :
    ∃ (as st' : List mV) (q1 : List mV × mM), m_pop e2 st [] = some (as, st') ∧ ck as = true ∧ m_cats st' ≤ 8 ∧ m_cats as ≤ mL e1 ∧ kc + mC e1 ≤ mC m ∧ ks + mS e1 ≤ mS m ∧ (¬ e1 = mLman → m_exec n e1 (mcd e1, 0, 0, m_ent 0 as, [], M) = some q1) ∧ (e1 = mLman → m_man (m_exec n mMan) as M = some q1) ∧ m_exec n m (r, kc + mC e1, ks + mS e1, lv, q1.1 ++ st', q1.2) = some q := by
  unfold m_call at h
  cases hp : m_pop e2 st [] with
  | none => rw [hp] at h; exact noEx h
  | some x =>
    obtain ⟨as, st'⟩ := x
    rw [hp] at h
    dsimp only at h
    cases hc : (ck as && Nat.ble (m_cats st') 8 && Nat.ble (m_cats as) (mL e1))
    · rw [hc] at h; exact noEx h
    · rw [hc] at h
      simp only [Bool.and_eq_true] at hc
      dsimp only [cond_true] at h
      have h8 := Nat.le_of_ble_eq_true hc.1.2
      have hl := Nat.le_of_ble_eq_true hc.2
      cases hb : Nat.beq (mC e1) 0
      · rw [hb] at h
        dsimp only [cond_false] at h
        unfold m_disp at h
        dsimp only at h
        cases hh : m_holdsB (12, ((kc + mC e1 : Nat) : Int), ((mC m : Nat) : Int), ((ks + mS e1 : Nat) : Int), ((mS m : Nat) : Int))
        · rw [hh] at h; exact noEx h
        · rw [hh] at h
          dsimp only [cond_true] at h
          obtain ⟨q1, h1, h2⟩ := Option.bind_eq_some_iff.mp h
          have hx := (m_holds_iff _).mp hh
          have hx1 : ((kc + mC e1 : Nat) : Int) ≤ ((mC m : Nat) : Int) ∧ ((ks + mS e1 : Nat) : Int) ≤ ((mS m : Nat) : Int) := hx
          refine ⟨as, st', q1, rfl, hc.1.1, h8, hl, by omega, by omega, fun hn => ?_, fun hn => ?_, h2⟩
          · cases hm : Nat.beq e1 mLman
            · rw [hm] at h1; exact h1
            · exact absurd (Nat.eq_of_beq_eq_true hm) hn
          · rw [hn, Nat.beq_refl] at h1; exact h1
      · rw [hb] at h
        dsimp only [cond_true] at h
        unfold m_disp at h
        dsimp only at h
        obtain ⟨q1, h1, h2⟩ := Option.bind_eq_some_iff.mp h
        have h0 := Nat.eq_of_beq_eq_true hb
        have h0' := mCS _ h0
        refine ⟨as, st', q1, rfl, hc.1.1, h8, hl, by omega, by omega, fun _ => h1, fun hn => ?_, ?_⟩
        · rw [hn] at h0; exact absurd h0 (by decide)
        · rw [h0, h0']; exact h2
def m_plain (i : Instr) : Bool := match i with
  | .nop => false
  | .athrow => false
  | .tableswitch _ _ _ _ => false
  | _ => true
theorem okE_plain {m pc len e1 e2 e3 : Nat} {i : Instr} {z : Int} (hp : m_plain i = true) (h : m_okE m (pc, i, len, e1, e2, e3, z) = true) : decode (mB m) pc = .ok (i, m_ilen i) ∧ len = m_ilen i ∧ m_okX m (pc, i, len, e1, e2, e3, z) = true := by
  have h1 : (decide (decode (mB m) pc = .ok (i, len)) && Nat.beq len (m_ilen i) && m_okX m (pc, i, len, e1, e2, e3, z)) = true := by
    cases i <;> first | exact h | (cases hp; done)
  simp only [Bool.and_eq_true, decide_eq_true_eq] at h1
  have h2 := Nat.eq_of_beq_eq_true h1.1.2
  exact ⟨by rw [← h2]; exact h1.1.1, h2, h1.2⟩
theorem okL_tail {m : Nat} {e : mE} {r : List mE} (h : m_okL m (e :: r) = true) : m_okE m e = true ∧ m_okL m r = true ∧ ∀ e' r', r = e' :: r' → m_term e.2.1 = false → e'.1 = e.1 + e.2.2.1 := by
  unfold m_okL at h ⊢
  rw [List.all_cons, m_chain.eq_def] at h
  dsimp only at h
  simp only [Bool.and_eq_true] at h
  refine ⟨h.1.1, by rw [h.1.2, h.2.2]; rfl, fun e' r' hr ht => ?_⟩
  subst hr
  have h3 := h.2.1
  dsimp only at h3
  rw [ht, Bool.false_or] at h3
  exact Nat.eq_of_beq_eq_true h3
theorem okL_seek {m t : Nat} : ∀ {l : List mE}, m_okL m l = true → m_okL m (m_seek l t) = true := by
  intro l
  induction l with
  | nil => intro h; exact h
  | cons e r ih =>
    intro h
    unfold m_seek
    cases hb : Nat.beq e.1 t
    · exact ih (okL_tail h).2.1
    · exact h
theorem seek_head {t : Nat} {e : mE} {r : List mE} : ∀ {l : List mE}, m_seek l t = e :: r → e.1 = t := by
  intro l
  induction l with
  | nil => intro h; cases h
  | cons a b ih =>
    intro h
    unfold m_seek at h
    cases hb : Nat.beq a.1 t
    · rw [hb] at h; exact ih h
    · rw [hb] at h
      cases h
      exact Nat.eq_of_beq_eq_true hb
def pcOf (r : List mE) : Nat := match r with
  | e :: _ => e.1
  | [] => 0
def EndI (mid : Nat) (res : List mV) (pc : Nat) : Prop := match res with
  | [] => decode (mB mid) pc = .ok (.return_, 1) ∧ mRt mid = none
  | [.inl x] => wr x = x ∧ decode (mB mid) pc = .ok (.ireturn, 1) ∧ (mRt mid = some .int ∨ (mRt mid = some .boolean ∧ (x = 0 ∨ x = 1)))
  | [.inr (.inl x)] => wl x = x ∧ decode (mB mid) pc = .ok (.lreturn, 1) ∧ mRt mid = some .long
  | _ => False
def EndP (p : Program) (l : Launch) (e : Env) (R : Room) (s : State) (m : MethodId) (args : Array Value) (below : List Frame) (meth : Method) (c : Code) (Q : State → Prop) (G : mGl) (mid : Nat) (q : List mV × mM) : Prop :=
  ∀ (pc kc ks : Nat) (H : Heap) (locs : List Loc) (ls : Array Slot), kc ≤ mC mid → ks ≤ mS mid → wfM G q.2 → va_P (g_D G) vwCl (wsM G q.2) H → va_D (g_A G) (wsM G q.2) → va_S (g_A G) s.heap H locs → (q.2.1 < 144 → H.size = g_z G + (q.2.1 - 2)) → EndI mid q.1 pc → W p l e R s m args below meth c H locs kc ks Q (F0 m pc ls (q.1.map (tr G)))
def S1 (G : mGl) (l : Launch) (n : Nat) : Prop := ∀ {p : Program} {e : Env} {R : Room} {s : State} {m : MethodId} {args : Array Value} {below : List Frame} {meth : Method} {c : Code} {Q : State → Prop} {mid : Nat} {q : List mV × mM} {r : List mE} {kc ks : Nat} {lv : List (Nat × mV)} {st : List mV} {M : mM} {H : Heap} {locs : List Loc} {ls : Array Slot},
  mid < 260 → ¬ mid = 98 → m_okL mid r = true → Ctx G mid p R s m args meth c → EndP p l e R s m args below meth c Q G mid q → m_exec n mid (r, kc, ks, lv, st, M) = some q → Frm G mid s kc ks lv st M H locs ls → W p l e R s m args below meth c H locs kc ks Q (F0 m (pcOf r) ls (st.map (tr G)))
def S2 (G : mGl) (l : Launch) (n : Nat) : Prop := ∀ (mid : Nat) (as : List mV) (M : mM) (q : List mV × mM), mid < 260 → ¬ mid = 259 → ¬ mid = 98 → m_exec n mid (mcd mid, 0, 0, m_ent 0 as, [], M) = some q → (∀ v ∈ as, wfV v) → m_cats as ≤ mL mid → Con G l mid as M q
/-- the law's call of its own man -/
def LmanP (G : mGl) (l : Launch) (n : Nat) : Prop := ∀ {p : Program} {e : Env} {R : Room} {s : State} {m : MethodId} {args : Array Value} {below : List Frame} {meth : Method} {c : Code} {Q : State → Prop} {mid : Nat} {q q1 : List mV × mM} {r : List mE} {pc kc ks idx : Nat} {lv : List (Nat × mV)} {st st' as : List mV} {M : mM} {H : Heap} {locs : List Loc} {ls : Array Slot},
  Ctx G mid p R s m args meth c → decode (mB mid) pc = .ok (.invokestatic idx, 3) → Cond.methodLink (mY mid).cls idx (mY mLman) ∈ gT → m_okRoom mid mLman = true → m_pop 4 st [] = some (as, st') → m_cats st' ≤ 8 → Frm G mid s kc ks lv st M H locs ls → kc + mC mLman ≤ mC mid → ks + mS mLman ≤ mS mid → m_man (m_exec n mMan) as M = some q1 → GoP p l e R s m args below meth c Q G mid n q r (pc + 3) → m_exec n mid (r, kc + mC mLman, ks + mS mLman, lv, q1.1 ++ st', q1.2) = some q → W p l e R s m args below meth c H locs kc ks Q (F0 m pc ls (st.map (tr G)))
/-- a sign of the words, as the tokens' constructor asks for it -/
def ChP (G : mGl) (l : Launch) : Prop := ∀ {p : Program} {e : Env} {R : Room} {s : State} {m : MethodId} {args : Array Value} {below : List Frame} {meth : Method} {c : Code} {Q : State → Prop} {mid pc kc ks idx : Nat} {lv : List (Nat × mV)} {st : List mV} {M : mM} {H : Heap} {locs : List Loc} {ls : Array Slot} {i : Int},
  Ctx G mid p R s m args meth c → decode (mB mid) pc = .ok (.invokevirtual idx, 3) → Cond.methodLink (mY mid).cls idx ⟨"java/lang/String", "charAt", "(I)C"⟩ ∈ gT → 5 ≤ mFr mid → 120 ≤ mLo mid → m_cats st ≤ 8 → 0 ≤ i → i < 120 → Frm G mid s kc ks lv (.inl i :: .inr (.inr 1000000) :: st) M H locs ls → W p l e R s m args below meth c H locs kc ks Q (F0 m (pc + 3) ls ((.inl (m_words.getD i.toNat 0) :: st).map (tr G))) → W p l e R s m args below meth c H locs kc ks Q (F0 m pc ls ((.inl i :: .inr (.inr 1000000) :: st).map (tr G)))
/-- .. and the words themselves as a constant -/
def LdP (G : mGl) (l : Launch) : Prop := ∀ {p : Program} {e : Env} {R : Room} {s : State} {m : MethodId} {args : Array Value} {below : List Frame} {meth : Method} {c : Code} {Q : State → Prop} {mid pc kc ks : Nat} {st : List mV} {H : Heap} {locs : List Loc} {ls : Array Slot},
  Ctx G mid p R s m args meth c → (mY mid).cls = "SpeakClock$Tokens" → decode (mB mid) pc = .ok (.ldc 38, 2) → W p l e R s m args below meth c H locs kc ks Q (F0 m (pc + 2) ls ((.inr (.inr 1000000) :: st).map (tr G))) → W p l e R s m args below meth c H locs kc ks Q (F0 m pc ls (st.map (tr G)))
def LibOK : Prop := (Cond.instanceMethod Lib.objectInit ∈ gT ∧ Cond.code Lib.objectInit ⟨#[0xb1]⟩ 1 none ∈ gT) ∧ (∀ b, 1000 ≤ b → b ≤ 1005 → Cond.static (m_mY b).1 ∈ gT ∧ Cond.code (m_mY b).1 (m_mY b).2.1 (m_mY b).2.2.1 (m_mY b).2.2.2 ∈ gT) ∧ Cond.initialized "java/lang/Math" ∈ gT ∧ Cond.native arraycopyName ∈ gT ∧ Cond.static arraycopyName ∈ gT ∧ Cond.initialized "java/lang/System" ∈ gT
theorem m_if {P : Prop} {dP : Decidable P} {A B : mO} {q : List mV × mM} (h : (bif @decide P dP then A else B) = some q) : (P → A = some q) ∧ (¬ P → B = some q) := by
  refine ⟨fun hp => ?_, fun hp => ?_⟩
  · rw [decide_eq_true hp] at h; exact h
  · rw [decide_eq_false hp] at h; exact h
theorem m_chk {c : mCn} {A : mO} {q : List mV × mM} (h : (bif m_holdsB c then A else none) = some q) : m_holds c ∧ A = some q := by
  cases hc : m_holdsB c
  · rw [hc] at h; exact noEx h
  · rw [hc] at h; exact ⟨(m_holds_iff c).mp hc, h⟩
theorem bd_chk {b : Bool} {x y : mSR} {n m : Nat} {q : List mV × mM} (h : m_disp n m (bif b then x else y) = some q) (hy : m_disp n m y = none) : b = true ∧ m_disp n m x = some q := by
  cases b
  · dsimp only [cond_false] at h; rw [hy] at h; exact noEx h
  · exact ⟨rfl, h⟩
section SN1
variable {p : Program} {l : Launch} {e : Env} {R : Room} {s : State} {m : MethodId} {args : Array Value} {below : List Frame} {meth : Method} {c : Code} {Q : State → Prop} {G : mGl} {mid n : Nat} {q q1 : List mV × mM} {r : List mE} {pc pc' kc ks : Nat} {lv : List (Nat × mV)} {st st' : List mV} {M : mM} {H : Heap} {locs : List Loc} {ls : Array Slot}
theorem s_row {stv : List Value} (go : GoP p l e R s m args below meth c Q G mid n q r pc') (hF : Frm G mid s kc ks lv st M H locs ls) (hw : ∀ v ∈ st', wfV v) (h : m_exec n mid (r, kc, ks, lv, st', M) = some q) (hm : st'.map (tr G) = stv) (row : W p l e R s m args below meth c H locs kc ks Q (F0 m pc' ls stv) → W p l e R s m args below meth c H locs kc ks Q (F0 m pc ls (st.map (tr G)))) : W p l e R s m args below meth c H locs kc ks Q (F0 m pc ls (st.map (tr G))) :=
  row (hm ▸ s_st go hF hw h)
theorem trI {v : Int} {V : Int32} (h : Int32.ofInt v = V) : ((.inl v : mV) :: st).map (tr G) = .int V :: st.map (tr G) := by
  rw [← h]; rfl
theorem trL {v : Int} {V : Int64} (h : Int64.ofInt v = V) : ((.inr (.inl v) : mV) :: st).map (tr G) = .long V :: st.map (tr G) := by
  rw [← h]; rfl
end SN1
end
section
/-! ===== the step, an instruction a row ===== -/
theorem lrem_mod (x y : Int64) : x - x / y * y = x % y := by
  apply Int64.toInt_inj.mp
  have h1 := Int64.le_toInt (x % y)
  have h2 := Int64.toInt_lt (x % y)
  rw [Int64.toInt_sub, Int64.toInt_mul, Int64.toInt_div, Int.bmod_mul_bmod, Int.sub_bmod_bmod, Int.mul_comm (x.toInt.tdiv y.toInt), ← Int.tmod_def, ← Int64.toInt_mod]
  exact Int.bmod_eq_of_le_mul_two (by omega) (by omega)
theorem l_rem {x y : Int} (hx : wl x = x) (hy : wl y = y) : (Int64.ofInt x - Int64.ofInt x / Int64.ofInt y * Int64.ofInt y).toInt = x.tmod y := by
  rw [lrem_mod, Int64.toInt_mod]
  show (wl x).tmod (wl y) = _
  rw [hx, hy]
theorem nar_b {G : mGl} {v : Int} (h : v = 0 ∨ v = 1) : narrow .boolean (tr G (.inl v)) = tr G (.inl v) := by
  show narrow .boolean (.int (Int32.ofInt v)) = .int (Int32.ofInt v)
  rcases h with rfl | rfl <;> decide +kernel
theorem fit_b {G : mGl} {v : Int} (h : v = 0 ∨ v = 1) : fits .boolean (tr G (.inl v)) = true := by
  show fits .boolean (.int (Int32.ofInt v)) = true
  rcases h with rfl | rfl <;> decide +kernel
theorem okF_spec {own : String} {idx e1 e2 e3 p : Nat} (h : m_okF own idx e1 e2 e3 p = true) : ∃ ci, e1 = ci + 4 ∧ ci < 11 ∧ e2 < (m_cl ci).2.2 ∧ e3 = m_tc (m_ty ci e2) ∧ Cond.fieldLink own idx ((m_cl ci).2.1 e2).1 ((m_cl ci).2.1 e2).2.1 ((m_cl ci).2.1 e2).2.2.1 ∈ gT := by
  unfold m_okF at h
  simp only [Bool.and_eq_true] at h
  obtain ⟨⟨⟨⟨h1, h2⟩, h3⟩, h4⟩, h5⟩ := h
  have h1 := Nat.le_of_ble_eq_true h1
  have h2 : e1 < 15 := Nat.le_of_ble_eq_true h2
  exact ⟨e1 - 4, by omega, by omega, Nat.le_of_ble_eq_true h3, Nat.eq_of_beq_eq_true h4, m_has_in h5⟩
theorem okFin_spec {m ci e2 : Nat} (h : m_okFin m (ci + 4) e2 = true) : ((m_cl ci).2.1 e2).2.2.2 = false ∨ ((mY m).name = "<init>" ∧ ((m_cl ci).2.1 e2).1 = (mY m).cls) := by
  unfold m_okFin at h
  rw [Nat.add_sub_cancel] at h
  simp only [Bool.or_eq_true, Bool.and_eq_true, decide_eq_true_eq, Bool.not_eq_true'] at h
  exact h
theorem newa_spec {m pc len e1 e2 e3 : Nat} {z : Int} {a : ArrayType} (h : m_okX m (pc, .newarray a, len, e1, e2, e3, z) = true) : ((e1 = 0 ∧ newarray.typeOf a = .int) ∨ (e1 = 1 ∧ newarray.typeOf a = .long) ∨ (e1 = 2 ∧ newarray.typeOf a = .byte) ∨ (e1 = 3 ∧ newarray.typeOf a = .boolean)) ∧ Cond.arrayClass (newarray.typeOf a) ∈ gT := by
  unfold m_okX at h
  dsimp only at h
  rw [Bool.and_eq_true] at h
  refine ⟨?_, m_has_in h.2⟩
  have h1 := h.1
  match e1, h1 with
  | 0, h1 => exact Or.inl ⟨rfl, of_decide_eq_true h1⟩
  | 1, h1 => exact Or.inr (Or.inl ⟨rfl, of_decide_eq_true h1⟩)
  | 2, h1 => exact Or.inr (Or.inr (Or.inl ⟨rfl, of_decide_eq_true h1⟩))
  | 3, h1 => exact Or.inr (Or.inr (Or.inr ⟨rfl, of_decide_eq_true h1⟩))
  | _ + 4, h1 => cases h1
theorem link_spec {m idx e1 e3 : Nat} {z : Int} (h : m_okLink m idx e1 e3 z = true) : Cond.methodLink (mY m).cls idx (mY e1) ∈ gT ∨ Cond.methodLinkNest (mY m).cls idx (mY e1) "SpeakClock" ∈ lw_tbl := by
  unfold m_okLink at h
  cases hb : Nat.blt e3 1000
  · rw [hb] at h; exact Or.inr (m_hasN_in h)
  · rw [hb] at h; exact Or.inl (m_has_in h)
theorem pop_wf {n : Nat} {st as st' : List mV} (h : m_pop n st [] = some (as, st')) (hw : ∀ v ∈ st, wfV v) : ∀ v ∈ as, wfV v := by
  obtain ⟨pre, h1, h2, -⟩ := pop_spec n h
  intro v hv
  rw [h2, List.append_nil] at hv
  exact hw v (by rw [h1]; exact List.mem_append_left _ (List.mem_reverse.mp hv))
theorem words_wr (i : Nat) : wr (m_words.getD i 0) = m_words.getD i 0 := by
  have h : ∀ x ∈ m_words, wr x = x := by decide +kernel
  rw [List.getD_eq_getElem?_getD]
  cases hx : m_words[i]? with
  | none => exact wr0
  | some x => exact h x (List.mem_of_getElem? hx)
theorem charAt_spec {n m kc ks : Nat} {r : List mE} {lv : List (Nat × mV)} {st : List mV} {M : mM} {q : List mV × mM} (h : m_disp n m (match st with
    | .inl i :: .inr (.inr w) :: s => bif Nat.beq w 1000000 && Nat.ble (m_cats s) 8 then mif (6, i, 120, 0, 0) r kc ks lv (.inl (m_words.getD i.toNat 0) :: s) M else mno M
    | _ => mno M) = some q) : ∃ (i : Int) (s : List mV), st = .inl i :: .inr (.inr 1000000) :: s ∧ m_cats s ≤ 8 ∧ 0 ≤ i ∧ i < 120 ∧ m_exec n m (r, kc, ks, lv, .inl (m_words.getD i.toNat 0) :: s, M) = some q := by
  rcases st with _ | ⟨(i | i | i), _ | ⟨(w | w | w), s⟩⟩ <;> first | exact noEx h | skip
  obtain ⟨h8, h⟩ := bd_chk h rfl
  rw [Bool.and_eq_true] at h8
  have hw := Nat.eq_of_beq_eq_true h8.1
  obtain ⟨hin, h⟩ := m_chk h
  exact ⟨i, s, by rw [hw], Nat.le_of_ble_eq_true h8.2, hin.1, hin.2, h⟩
section MTH
variable {p : Program} {l : Launch} {e : Env} {R : Room} {s : State} {m : MethodId} {args : Array Value} {below : List Frame} {meth : Method} {c : Code} {Q : State → Prop} {G : mGl} {mid n : Nat} {q q1 : List mV × mM} {r : List mE} {pc pc' kc ks : Nat} {lv : List (Nat × mV)} {st st' : List mV} {M : mM} {H : Heap} {locs : List Loc} {ls : Array Slot}
theorem s_math {b idx : Nat} (hLib : LibOK) (hC : Ctx G mid p R s m args meth c) (hd : decode (mB mid) pc = .ok (.invokestatic idx, 3)) (h0 : 1000 ≤ b) (h5 : b ≤ 1005) (hw : Cond.methodLink (mY mid).cls idx (m_mY b).1 ∈ gT) (hf1 : 1 ≤ mFr mid) (hf2 : 24 ≤ mLo mid)
    (hF : Frm G mid s kc ks lv st M H locs ls) (go : GoP p l e R s m args below meth c Q G mid n q r (pc + 3))
    (h : m_disp n mid (bif Nat.blt 8 (m_cats st) then mno M
  else (bif Nat.beq b 1000 then (match st with
      | .inl y :: .inl x :: s => mgo r kc ks lv (.inl (m_max x y) :: s) M
      | _ => mno M)
    else bif Nat.beq b 1001 then (match st with
      | .inl y :: .inl x :: s => mgo r kc ks lv (.inl (m_min x y) :: s) M
      | _ => mno M)
    else bif Nat.beq b 1002 then (match st with
      | .inl x :: s => mgo r kc ks lv (.inl (if 0 ≤ x then x else wr (0 - x)) :: s) M
      | _ => mno M)
    else bif Nat.beq b 1003 then (match st with
      | .inr (.inl y) :: .inr (.inl x) :: s => mgo r kc ks lv (.inr (.inl (m_max x y)) :: s) M
      | _ => mno M)
    else bif Nat.beq b 1004 then (match st with
      | .inr (.inl y) :: .inr (.inl x) :: s => mgo r kc ks lv (.inr (.inl (m_min x y)) :: s) M
      | _ => mno M)
    else bif Nat.beq b 1005 then (match st with
      | .inr (.inl x) :: s => mgo r kc ks lv (.inr (.inl (if 0 ≤ x then x else wl (0 - x))) :: s) M
      | _ => mno M)
    else mno M)) = some q) : W p l e R s m args below meth c H locs kc ks Q (F0 m pc ls (st.map (tr G))) := by
  obtain ⟨hx, hb, hml, hown, hts, hR, hin2, hB⟩ := id hC
  have hst := hF.2.2.1
  have hls : c.maxLocals = ls.size := hml.trans hF.1.1.symm
  have hkc : kc ≤ R.cells := by rw [hR.1]; exact hF.2.2.2.2.2.2.2.2.1
  have hks : ks ≤ R.slots := by rw [hR.2.1]; exact hF.2.2.2.2.2.2.2.2.2
  have hfr : 1 ≤ R.frames := Nat.le_trans hf1 hR.2.2.1
  cases hb8 : Nat.blt 8 (m_cats st)
  · rw [hb8] at h
    dsimp only [cond_false] at h
    have h8 : m_cats st ≤ 8 := by
      rcases Nat.lt_or_ge 8 (m_cats st) with w | w
      · rw [show Nat.blt 8 (m_cats st) = true from Nat.ble_eq_true_of_le w] at hb8; cases hb8
      · exact w
    have hini := hts _ hLib.2.2.1
    obtain ⟨hs1, hs2⟩ := hLib.2.1 b h0 h5
    have hs1 := hts _ hs1
    have hs2 := hts _ hs2
    have hw := hts _ hw
    have hlo := hR.2.2.2
    have wl0 : wl 0 = 0 := wl_of (by omega) (by omega)
    rcases (by omega : b = 1000 ∨ b = 1001 ∨ b = 1002 ∨ b = 1003 ∨ b = 1004 ∨ b = 1005) with rfl | rfl | rfl | rfl | rfl | rfl
    · rcases st with _ | ⟨(y | y | y), _ | ⟨(x | x | x), st⟩⟩ <;> first | exact noEx h | skip
      have hy := wf_head hst
      have hxx := wf_head (wf_tail hst)
      have hc8 : m_cats st ≤ 8 := by simp only [m_cats] at h8; omega
      exact s_row (st' := .inl (m_max x y) :: st) go hF (wf_cons (by show wr (m_max x y) = _; unfold m_max; split; exact hy; exact hxx) (wf_tail (wf_tail hst))) h (trI (V := if Int32.ofInt x < Int32.ofInt y then Int32.ofInt y else Int32.ofInt x) (by
        unfold m_max
        by_cases hlt : x < y
        · rw [if_pos hlt, if_pos ((i_lt hxx hy).mpr hlt)]
        · rw [if_neg hlt, if_neg (fun w => hlt ((i_lt hxx hy).mp w))])) (fun k => va_mmax hx hb hls hown hw hs1 hini hs2 hfr (by rw [cats_eq]; omega) hkc hks hd k)
    · rcases st with _ | ⟨(y | y | y), _ | ⟨(x | x | x), st⟩⟩ <;> first | exact noEx h | skip
      have hy := wf_head hst
      have hxx := wf_head (wf_tail hst)
      have hc8 : m_cats st ≤ 8 := by simp only [m_cats] at h8; omega
      exact s_row (st' := .inl (m_min x y) :: st) go hF (wf_cons (by show wr (m_min x y) = _; unfold m_min; split; exact hy; exact hxx) (wf_tail (wf_tail hst))) h (trI (V := if Int32.ofInt y < Int32.ofInt x then Int32.ofInt y else Int32.ofInt x) (by
        unfold m_min
        by_cases hlt : y < x
        · rw [if_pos hlt, if_pos ((i_lt hy hxx).mpr hlt)]
        · rw [if_neg hlt, if_neg (fun w => hlt ((i_lt hy hxx).mp w))])) (fun k => va_mmin hx hb hls hown hw hs1 hini hs2 hfr (by rw [cats_eq]; omega) hkc hks hd k)
    · rcases st with _ | ⟨(x | x | x), st⟩ <;> first | exact noEx h | skip
      have hxx := wf_head hst
      have hc8 : m_cats st ≤ 8 := by simp only [m_cats] at h8; omega
      exact s_row (st' := .inl (if 0 ≤ x then x else wr (0 - x)) :: st) go hF (wf_cons (by show wr (if 0 ≤ x then x else wr (0 - x)) = _; split; exact hxx; exact wr_wr _) (wf_tail hst)) h (trI (V := if 0 ≤ Int32.ofInt x then Int32.ofInt x else 0 - Int32.ofInt x) (by
        by_cases hlt : 0 ≤ x
        · rw [if_pos hlt, if_pos (show (0 : Int32) ≤ Int32.ofInt x from (i_le wr0 hxx).mpr hlt)]
        · rw [if_neg hlt, if_neg (show ¬ (0 : Int32) ≤ Int32.ofInt x from fun w => hlt ((i_le wr0 hxx).mp w)), wr_ofInt, Int32.ofInt_sub]; rfl)) (fun k => va_mabs hx hb hls hown hw hs1 hini hs2 hfr (by rw [cats_eq]; omega) hkc hks hd k)
    · rcases st with _ | ⟨(y | y | y), _ | ⟨(x | x | x), st⟩⟩ <;> first | exact noEx h | skip
      have hy := wf_head hst
      have hxx := wf_head (wf_tail hst)
      have hc8 : m_cats st ≤ 8 := by simp only [m_cats] at h8; omega
      exact s_row (st' := .inr (.inl (m_max x y)) :: st) go hF (wf_cons (by show wl (m_max x y) = _; unfold m_max; split; exact hy; exact hxx) (wf_tail (wf_tail hst))) h (trL (V := if Int64.ofInt y < Int64.ofInt x then Int64.ofInt x else Int64.ofInt y) (by
        unfold m_max
        by_cases hlt : x < y
        · rw [if_pos hlt, if_neg (fun w => by have := (l_lt hy hxx).mp w; omega)]
        · by_cases heq : y < x
          · rw [if_neg hlt, if_pos ((l_lt hy hxx).mpr heq)]
          · rw [if_neg hlt, if_neg (fun w => heq ((l_lt hy hxx).mp w)), show x = y by omega])) (fun k => va_mmax_long hx hb hls hown hw hs1 hini hs2 hfr (by rw [cats_eq]; omega) hkc hks hd k)
    · rcases st with _ | ⟨(y | y | y), _ | ⟨(x | x | x), st⟩⟩ <;> first | exact noEx h | skip
      have hy := wf_head hst
      have hxx := wf_head (wf_tail hst)
      have hc8 : m_cats st ≤ 8 := by simp only [m_cats] at h8; omega
      exact s_row (st' := .inr (.inl (m_min x y)) :: st) go hF (wf_cons (by show wl (m_min x y) = _; unfold m_min; split; exact hy; exact hxx) (wf_tail (wf_tail hst))) h (trL (V := if Int64.ofInt y < Int64.ofInt x then Int64.ofInt y else Int64.ofInt x) (by
        unfold m_min
        by_cases hlt : y < x
        · rw [if_pos hlt, if_pos ((l_lt hy hxx).mpr hlt)]
        · rw [if_neg hlt, if_neg (fun w => hlt ((l_lt hy hxx).mp w))])) (fun k => va_mmin_long hx hb hls hown hw hs1 hini hs2 hfr (by rw [cats_eq]; omega) hkc hks hd k)
    · rcases st with _ | ⟨(x | x | x), st⟩ <;> first | exact noEx h | skip
      have hxx := wf_head hst
      have hc8 : m_cats st ≤ 8 := by simp only [m_cats] at h8; omega
      exact s_row (st' := .inr (.inl (if 0 ≤ x then x else wl (0 - x))) :: st) go hF (wf_cons (by show wl (if 0 ≤ x then x else wl (0 - x)) = _; split; exact hxx; exact wl_wl _) (wf_tail hst)) h (trL (V := if 0 < Int64.ofInt x then Int64.ofInt x else -Int64.ofInt x) (by
        by_cases hlt : 0 < x
        · rw [if_pos (by omega : 0 ≤ x), if_pos (show (0 : Int64) < Int64.ofInt x from (l_lt wl0 hxx).mpr hlt)]
        · rw [if_neg (show ¬ 0 < Int64.ofInt x from fun w => hlt ((l_lt wl0 hxx).mp w))]
          by_cases h00 : 0 ≤ x
          · rw [if_pos h00, show x = 0 by omega]; rfl
          · rw [if_neg h00, wl_ofInt, Int.zero_sub, Int64.ofInt_neg])) (fun k => va_mabs_long hx hb hls hown hw hs1 hini hs2 hfr (by rw [cats_eq]; omega) hkc hks hd k)
  · rw [hb8] at h; exact noEx h
theorem mcpy_wr {I : Nat → Nat → Int} {a d n : Nat} (h : ∀ a b, wr (I a b) = I a b) : ∀ x y, wr (mcpy I a d n x y) = mcpy I a d n x y := by
  intro x y
  unfold mcpy
  by_cases h1 : x = d
  · rw [if_pos h1]
    by_cases h2 : y < n
    · simp only [h2, if_true]; exact h a y
    · simp only [h2, if_false]; exact h d y
  · rw [if_neg h1]; exact h x y
theorem s_cpy {idx : Nat} (hLib : LibOK) (hC : Ctx G mid p R s m args meth c) (hd : decode (mB mid) pc = .ok (.invokestatic idx, 3)) (hw : Cond.methodLink (mY mid).cls idx arraycopyName ∈ gT) (hf1 : 1 ≤ mFr mid) (hf2 : 40 ≤ mLo mid)
    (hF : Frm G mid s kc ks lv st M H locs ls) (go : GoP p l e R s m args below meth c Q G mid n q r (pc + 3)) (h : m_disp n mid (m_cpy r kc ks lv st M) = some q) : W p l e R s m args below meth c H locs kc ks Q (F0 m pc ls (st.map (tr G))) := by
  obtain ⟨hx, hb, hml, hown, hts, hR, hin2, hB⟩ := id hC
  have hst := hF.2.2.1
  have hls : c.maxLocals = ls.size := hml.trans hF.1.1.symm
  have hfr : 1 ≤ R.frames := Nat.le_trans hf1 hR.2.2.1
  unfold m_cpy at h
  split at h
  · next x dp d sp sr t nn sh RR I L =>
    obtain ⟨hk, h⟩ := bd_chk h rfl
    simp only [Bool.and_eq_true] at hk
    obtain ⟨hin, h2⟩ := m_chk h
    clear h
    have hin : (0 ≤ x ∧ x ≤ ((sh (sr + 2)).2 : Int)) ∧ (x ≤ ((sh (d + 2)).2 : Int) ∧ (sp.natAbs : Int) + (dp.natAbs : Int) = 0) := hin
    have hdp : dp = 0 := by omega
    have hsp : sp = 0 := by omega
    subst hdp
    subst hsp
    have h144 := Nat.eq_of_beq_eq_true hk.1.1.1
    have hkd := Nat.eq_of_beq_eq_true hk.1.1.2
    have hks := Nat.eq_of_beq_eq_true hk.1.2
    have hc8 := Nat.le_of_ble_eq_true hk.2
    have hxw : wr x = x := wf_head hst
    obtain ⟨f1, f2, f3, f4, f5, f6, f7, f8, f9, f10⟩ := id hF
    have hl1 : d + 2 < nn := (wf_in (M := (nn, sh, RR, I, L)) f4 (by show (sh (d + 2)).1 < 15; omega)).1
    have hl2 : sr + 2 < nn := (wf_in (M := (nn, sh, RR, I, L)) f4 (by show (sh (sr + 2)).1 < 15; omega)).1
    have hni := int_nat hxw
    have hneg : ¬ Int32.ofInt x < 0 := fun w => by have := (i_lt hxw wr0).mp w; omega
    have h00 : ¬ Int32.ofInt 0 < 0 := fun w => by have := (i_lt wr0 wr0).mp w; omega
    have hn0 : (Int32.ofInt 0).toNatClampNeg = 0 := int_nat wr0
    have hlo := hR.2.2.2
    have hnf : nativeFrameWords "java/lang/System" "arraycopy" 5 = 7 := by decide +kernel
    refine va_copyi (D := g_D G) (ty := .int) hx hb hls hown (hts _ hw) (hts _ hLib.2.2.2.1) (hts _ hLib.2.2.2.2.1) (hts _ hLib.2.2.2.2.2) hB.1 f5 f6 f7 sr d 0 0 (by rw [wsM_get hl2, ent_int hks]) (by rw [wsM_get hl1, ent_int hkd]) rfl rfl rfl h00 h00 hneg (by rw [hn0, hni]; show 0 + x.toNat ≤ (sh (sr + 2)).2; omega) (by rw [hn0, hni]; show 0 + x.toNat ≤ (sh (d + 2)).2; omega) (fun _ _ => rfl) hfr (by rw [cats_eq, hnf]; omega) hd (fun H1 locs1 hP hD hS => ?_)
    rw [hn0, hni] at hP hD
    obtain ⟨hP', hD'⟩ := s_setP (M := (nn, sh, RR, I, L)) (M' := (nn, sh, RR, mcpy I (sr + 2) (d + 2) x.toNat, L)) hl1 rfl (fun i hi => by
      unfold ent
      dsimp only
      rw [show mcpy I (sr + 2) (d + 2) x.toNat i = I i from if_neg hi]) (by
      rw [ent_int hkd]
      dsimp only
      congr 4
      funext j
      unfold va_cpy mcpy
      rw [if_pos rfl]
      dsimp only
      by_cases hj : j < x.toNat
      · rw [if_pos hj, if_pos ⟨Nat.zero_le _, by omega⟩, Nat.sub_zero, Nat.zero_add]
      · rw [if_neg hj, if_neg (fun w => hj (by omega))]) hP hD
    have hwf : wfM G (nn, sh, RR, mcpy I (sr + 2) (d + 2) x.toNat, L) := by
      obtain ⟨w1, w2, w3, w4, w5, w6, w7, w8⟩ := f4
      refine ⟨w1, w2, w3, w4, w5, fun j => ?_, mcpy_wr w7, w8⟩
      show mcpy I (sr + 2) (d + 2) x.toNat 1 j = _
      rw [show mcpy I (sr + 2) (d + 2) x.toNat 1 = I 1 from if_neg (by omega)]
      exact w6 j
    exact go _ _ _ _ _ _ _ _ h2 ⟨f1, f2, wf_tail (wf_tail (wf_tail (wf_tail (wf_tail f3)))), hwf, hP', hD', hS, fun w => absurd w (by dsimp only; omega), f9, f10⟩
  · exact noEx h
end MTH
set_option maxHeartbeats 8000000 in
set_option maxRecDepth 100000 in
theorem s_plain {p : Program} {l : Launch} {e : Env} {R : Room} {s : State} {m : MethodId} {args : Array Value} {below : List Frame} {meth : Method} {c : Code} {Q : State → Prop} {G : mGl} {mid n : Nat} {q : List mV × mM} {r : List mE} {pc kc ks : Nat} {lv : List (Nat × mV)} {st : List mV} {M : mM} {H : Heap} {locs : List Loc} {ls : Array Slot} {i : Instr} {e1 e2 e3 len : Nat} {z : Int}
    (hG : StrOK G) (hA : AdOK G) (hCl : ClOK) (hLib : LibOK) (hCh : ChP G l) (hLd : LdP G l) (hLm : LmanP G l n) (hS2 : S2 G l n) (hmid : mid < 260) (hC : Ctx G mid p R s m args meth c) (hend : EndP p l e R s m args below meth c Q G mid q)
    (hpl : m_plain i = true) (hd : decode (mB mid) pc = .ok (i, m_ilen i)) (hX : m_okX mid (pc, i, len, e1, e2, e3, z) = true)
    (go : m_term i = false → GoP p l e R s m args below meth c Q G mid n q r (pc + m_ilen i)) (jp : ∀ t, GoP p l e R s m args below meth c Q G mid n q (m_seek (mcd mid) t) t)
    (h : m_disp n mid (m_step mid (pc, i, len, e1, e2, e3, z) r kc ks lv st M) = some q) (hF : Frm G mid s kc ks lv st M H locs ls) : W p l e R s m args below meth c H locs kc ks Q (F0 m pc ls (st.map (tr G))) := by
  obtain ⟨hx, hb, hml, hown, hts, hR, hin2, hB⟩ := id hC
  have hst := hF.2.2.1
  cases i with
  | iconst v =>
    have h : m_exec n mid (r, kc, ks, lv, .inl z :: st, M) = some q := h
    have hX : (decide (wr z = z) && decide (Int32.ofInt v = Int32.ofInt z)) = true := hX
    simp only [Bool.and_eq_true, decide_eq_true_eq] at hX
    exact lv_iconst (v := Int32.ofInt z) hx hb hd hX.2 (s_st (go rfl) hF (wf_cons (v := .inl z) hX.1 hst) h)
  | bipush v =>
    have h : m_exec n mid (r, kc, ks, lv, .inl z :: st, M) = some q := h
    have hX : (decide (wr z = z) && decide ((Int8.ofInt v).toInt32 = Int32.ofInt z)) = true := hX
    simp only [Bool.and_eq_true, decide_eq_true_eq] at hX
    exact lv_bipush (v := Int32.ofInt z) hx hb hd hX.2 (s_st (go rfl) hF (wf_cons (v := .inl z) hX.1 hst) h)
  | sipush v =>
    have h : m_exec n mid (r, kc, ks, lv, .inl z :: st, M) = some q := h
    have hX : (decide (wr z = z) && decide ((Int16.ofInt v).toInt32 = Int32.ofInt z)) = true := hX
    simp only [Bool.and_eq_true, decide_eq_true_eq] at hX
    exact lv_sipush (v := Int32.ofInt z) hx hb hd hX.2 (s_st (go rfl) hF (wf_cons (v := .inl z) hX.1 hst) h)
  | lconst v =>
    have h : m_exec n mid (r, kc, ks, lv, .inr (.inl z) :: st, M) = some q := h
    have hX : (decide (wl z = z) && decide (Int64.ofNat v.val = Int64.ofInt z)) = true := hX
    simp only [Bool.and_eq_true, decide_eq_true_eq] at hX
    exact lv_lconst (v := Int64.ofInt z) hx hb hd hX.2 (s_st (go rfl) hF (wf_cons (v := .inr (.inl z)) hX.1 hst) h)
  | ldc2_w idx =>
    have h : m_exec n mid (r, kc, ks, lv, .inr (.inl z) :: st, M) = some q := h
    have hX : (decide (wl z = z) && m_has e1 (.constantLong (mY mid).cls idx (Int64.ofInt z))) = true := hX
    simp only [Bool.and_eq_true, decide_eq_true_eq] at hX
    exact lv_ldc2 hx hb hown (hts _ (m_has_in hX.2)) hd (s_st (go rfl) hF (wf_cons (v := .inr (.inl z)) hX.1 hst) h)
  | ldc idx =>
    have h : m_disp n mid (bif Nat.beq e1 999999 then mgo r kc ks lv (.inr (.inr 1000000) :: st) M else mgo r kc ks lv (.inl z :: st) M) = some q := h
    have hX : (bif Nat.beq e1 999999 then decide ((mY mid).cls = "SpeakClock$Tokens") && Nat.beq idx 38 else decide (wr z = z) && m_has e1 (.constant (mY mid).cls idx (Int32.ofInt z))) = true := hX
    cases hb1 : Nat.beq e1 999999
    · rw [hb1] at h hX
      have h : m_exec n mid (r, kc, ks, lv, .inl z :: st, M) = some q := h
      simp only [cond_false, Bool.and_eq_true, decide_eq_true_eq] at hX
      exact lv_ldc hx hb hown (hts _ (m_has_in hX.2)) hd (s_st (go rfl) hF (wf_cons (v := .inl z) hX.1 hst) h)
    · rw [hb1] at h hX
      have hh : m_exec n mid (r, kc, ks, lv, .inr (.inr 1000000) :: st, M) = some q := h
      simp only [cond_true, Bool.and_eq_true, decide_eq_true_eq] at hX
      have h38 := Nat.eq_of_beq_eq_true hX.2
      have hg := go rfl
      have hx1 := hX.1
      clear h hX
      subst h38
      exact hLd hC hx1 hd (s_st hg hF (wf_cons (v := .inr (.inr 1000000)) trivial hst) hh)
  | ldc_w idx =>
    have h : m_exec n mid (r, kc, ks, lv, .inl z :: st, M) = some q := h
    have hX : (decide (wr z = z) && m_has e1 (.constant (mY mid).cls idx (Int32.ofInt z))) = true := hX
    simp only [Bool.and_eq_true, decide_eq_true_eq] at hX
    exact lv_ldcw hx hb hown (hts _ (m_has_in hX.2)) hd (s_st (go rfl) hF (wf_cons (v := .inl z) hX.1 hst) h)
  | iload_n k =>
    have h : m_disp n mid (m_ildx k.val r kc ks lv st M) = some q := h
    unfold m_ildx at h
    cases hk : m_lk lv k.val with
    | none => rw [hk] at h; exact noEx h
    | some v =>
      rw [hk] at h
      have hat := lk_at hF.1 hk
      have hwf := lk_wf hF.2.1 hk
      match v, h, hat, hwf with
      | .inr (.inl x), h, _, _ => exact noEx h
      | .inr (.inr x), h, _, _ => exact noEx h
      | .inl x, h, hat, hwf => exact lv_iload_n hx hb hd rfl hat (s_st (go rfl) hF (wf_cons hwf hst) h)
  | iload k =>
    have h : m_disp n mid (m_ildx k r kc ks lv st M) = some q := h
    unfold m_ildx at h
    cases hk : m_lk lv k with
    | none => rw [hk] at h; exact noEx h
    | some v =>
      rw [hk] at h
      have hat := lk_at hF.1 hk
      have hwf := lk_wf hF.2.1 hk
      match v, h, hat, hwf with
      | .inr (.inl x), h, _, _ => exact noEx h
      | .inr (.inr x), h, _, _ => exact noEx h
      | .inl x, h, hat, hwf => exact lv_iload hx hb hd hat (s_st (go rfl) hF (wf_cons hwf hst) h)
  | lload_n k =>
    have h : m_disp n mid (m_lldx k.val r kc ks lv st M) = some q := h
    unfold m_lldx at h
    cases hk : m_lk lv k.val with
    | none => rw [hk] at h; exact noEx h
    | some v =>
      rw [hk] at h
      have hat := lk_at hF.1 hk
      have hwf := lk_wf hF.2.1 hk
      match v, h, hat, hwf with
      | .inl x, h, _, _ => exact noEx h
      | .inr (.inr x), h, _, _ => exact noEx h
      | .inr (.inl x), h, hat, hwf => exact lv_lload_n hx hb hd rfl hat (s_st (go rfl) hF (wf_cons hwf hst) h)
  | lload k =>
    have h : m_disp n mid (m_lldx k r kc ks lv st M) = some q := h
    unfold m_lldx at h
    cases hk : m_lk lv k with
    | none => rw [hk] at h; exact noEx h
    | some v =>
      rw [hk] at h
      have hat := lk_at hF.1 hk
      have hwf := lk_wf hF.2.1 hk
      match v, h, hat, hwf with
      | .inl x, h, _, _ => exact noEx h
      | .inr (.inr x), h, _, _ => exact noEx h
      | .inr (.inl x), h, hat, hwf => exact lv_lload hx hb hd hat (s_st (go rfl) hF (wf_cons hwf hst) h)
  | aload_n k =>
    have h : m_disp n mid (m_aldx k.val r kc ks lv st M) = some q := h
    unfold m_aldx at h
    cases hk : m_lk lv k.val with
    | none => rw [hk] at h; exact noEx h
    | some v =>
      rw [hk] at h
      have hat := lk_at hF.1 hk
      have hwf := lk_wf hF.2.1 hk
      match v, h, hat, hwf with
      | .inl x, h, _, _ => exact noEx h
      | .inr (.inl x), h, _, _ => exact noEx h
      | .inr (.inr 0), h, _, _ => exact noEx h
      | .inr (.inr 1), h, hat, hwf => exact lv_aload_n hx hb hd rfl hat (s_st (go rfl) hF (wf_cons hwf hst) h)
      | .inr (.inr (x + 2)), h, hat, hwf => exact lv_aload_n hx hb hd rfl hat (s_st (go rfl) hF (wf_cons hwf hst) h)
  | aload k =>
    have h : m_disp n mid (m_aldx k r kc ks lv st M) = some q := h
    unfold m_aldx at h
    cases hk : m_lk lv k with
    | none => rw [hk] at h; exact noEx h
    | some v =>
      rw [hk] at h
      have hat := lk_at hF.1 hk
      have hwf := lk_wf hF.2.1 hk
      match v, h, hat, hwf with
      | .inl x, h, _, _ => exact noEx h
      | .inr (.inl x), h, _, _ => exact noEx h
      | .inr (.inr 0), h, _, _ => exact noEx h
      | .inr (.inr 1), h, hat, hwf => exact lv_aload hx hb hd hat (s_st (go rfl) hF (wf_cons hwf hst) h)
      | .inr (.inr (x + 2)), h, hat, hwf => exact lv_aload hx hb hd hat (s_st (go rfl) hF (wf_cons hwf hst) h)
  | istore_n k =>
    have hX : Nat.blt k.val (mL mid) = true := hX
    have hlt := Nat.le_of_ble_eq_true hX
    rcases st with _ | ⟨(x | x | x), st⟩ <;> first | exact noEx h | skip
    exact lv_istore_n hx hb hd rfl hF.1 hlt rfl (fun ls' hl' => s_lv (kc' := 0) (ks' := 0) (lv' := m_sto lv k.val (.inl x)) (go rfl) hF (has_sub hl' (sto_sub1 rfl)) (sto_wf hF.2.1 (wf_head hst)) (wf_tail hst) h)
  | istore k =>
    have hX : Nat.blt k (mL mid) = true := hX
    have hlt := Nat.le_of_ble_eq_true hX
    rcases st with _ | ⟨(x | x | x), st⟩ <;> first | exact noEx h | skip
    exact lv_istore hx hb hd hF.1 hlt rfl (fun ls' hl' => s_lv (kc' := 0) (ks' := 0) (lv' := m_sto lv k (.inl x)) (go rfl) hF (has_sub hl' (sto_sub1 rfl)) (sto_wf hF.2.1 (wf_head hst)) (wf_tail hst) h)
  | lstore_n k =>
    have hX : Nat.blt (k.val + 1) (mL mid) = true := hX
    have hlt := Nat.le_of_ble_eq_true hX
    rcases st with _ | ⟨(x | x | x), st⟩ <;> first | exact noEx h | skip
    exact lv_lstore_n hx hb hd rfl hF.1 hlt rfl (fun ls' hl' => s_lv (kc' := 0) (ks' := 0) (lv' := m_sto lv k.val (.inr (.inl x))) (go rfl) hF (has_sub hl' (sto_sub2 rfl)) (sto_wf hF.2.1 (wf_head hst)) (wf_tail hst) h)
  | lstore k =>
    have hX : Nat.blt (k + 1) (mL mid) = true := hX
    have hlt := Nat.le_of_ble_eq_true hX
    rcases st with _ | ⟨(x | x | x), st⟩ <;> first | exact noEx h | skip
    exact lv_lstore hx hb hd hF.1 hlt rfl (fun ls' hl' => s_lv (kc' := 0) (ks' := 0) (lv' := m_sto lv k (.inr (.inl x))) (go rfl) hF (has_sub hl' (sto_sub2 rfl)) (sto_wf hF.2.1 (wf_head hst)) (wf_tail hst) h)
  | astore_n k =>
    have hX : Nat.blt k.val (mL mid) = true := hX
    have hlt := Nat.le_of_ble_eq_true hX
    rcases st with _ | ⟨(x | x | (_ | _ | x)), st⟩ <;> first | exact noEx h | skip
    · exact lv_astore_n hx hb hd rfl hF.1 hlt rfl (fun ls' hl' => s_lv (kc' := 0) (ks' := 0) (lv' := m_sto lv k.val (.inr (.inr 1))) (go rfl) hF (has_sub hl' (sto_sub1 rfl)) (sto_wf hF.2.1 (wf_head hst)) (wf_tail hst) h)
    · exact lv_astore_n hx hb hd rfl hF.1 hlt rfl (fun ls' hl' => s_lv (kc' := 0) (ks' := 0) (lv' := m_sto lv k.val (.inr (.inr (x + 2)))) (go rfl) hF (has_sub hl' (sto_sub1 rfl)) (sto_wf hF.2.1 (wf_head hst)) (wf_tail hst) h)
  | astore k =>
    have hX : Nat.blt k (mL mid) = true := hX
    have hlt := Nat.le_of_ble_eq_true hX
    rcases st with _ | ⟨(x | x | (_ | _ | x)), st⟩ <;> first | exact noEx h | skip
    · exact lv_astore hx hb hd hF.1 hlt rfl (fun ls' hl' => s_lv (kc' := 0) (ks' := 0) (lv' := m_sto lv k (.inr (.inr 1))) (go rfl) hF (has_sub hl' (sto_sub1 rfl)) (sto_wf hF.2.1 (wf_head hst)) (wf_tail hst) h)
    · exact lv_astore hx hb hd hF.1 hlt rfl (fun ls' hl' => s_lv (kc' := 0) (ks' := 0) (lv' := m_sto lv k (.inr (.inr (x + 2)))) (go rfl) hF (has_sub hl' (sto_sub1 rfl)) (sto_wf hF.2.1 (wf_head hst)) (wf_tail hst) h)
  | iinc k v =>
    have hX : Nat.blt k (mL mid) = true := hX
    have hlt := Nat.le_of_ble_eq_true hX
    have h : m_disp n mid (match m_lk lv k with
      | some (.inl x) => mgo r kc ks (m_sto lv k (.inl (wr (x + v)))) st M
      | _ => mno M) = some q := h
    cases hk : m_lk lv k with
    | none => rw [hk] at h; exact noEx h
    | some w =>
      rw [hk] at h
      obtain ⟨kp, hkp⟩ := lk_place (G := G) hk
      match w, h, hkp with
      | .inr (.inl x), h, _ => exact noEx h
      | .inr (.inr x), h, _ => exact noEx h
      | .inl x, h, hkp => exact lv_iinc (v := Int32.ofInt (wr (x + v))) hx hb hd hF.1 hkp (by rw [wr_ofInt, Int32.ofInt_add]) hlt rfl (fun ls' hl' => s_lv (kc' := 0) (ks' := 0) (lv' := m_sto lv k (.inl (wr (x + v)))) (go rfl) hF (has_sub hl' (sto_sub1 (v := .inl (wr (x + v))) rfl)) (sto_wf hF.2.1 (wr_wr _)) hst h)
  | iadd =>
    rcases st with _ | ⟨(y | y | y), _ | ⟨(x | x | x), st⟩⟩ <;> first | exact noEx h | skip
    exact s_row (st' := .inl (wr (x + y)) :: st) (go rfl) hF (wf_cons (wr_wr _) (wf_tail (wf_tail hst))) h (trI (by rw [wr_ofInt, Int32.ofInt_add])) (fun k => lv_iadd hx hb hd k)
  | isub =>
    rcases st with _ | ⟨(y | y | y), _ | ⟨(x | x | x), st⟩⟩ <;> first | exact noEx h | skip
    exact s_row (st' := .inl (wr (x - y)) :: st) (go rfl) hF (wf_cons (wr_wr _) (wf_tail (wf_tail hst))) h (trI (by rw [wr_ofInt, Int32.ofInt_sub])) (fun k => lv_isub hx hb hd k)
  | imul =>
    rcases st with _ | ⟨(y | y | y), _ | ⟨(x | x | x), st⟩⟩ <;> first | exact noEx h | skip
    exact s_row (st' := .inl (wr (x * y)) :: st) (go rfl) hF (wf_cons (wr_wr _) (wf_tail (wf_tail hst))) h (trI (by rw [wr_ofInt, Int32.ofInt_mul])) (fun k => lv_imul hx hb hd k)
  | iand =>
    rcases st with _ | ⟨(y | y | y), _ | ⟨(x | x | x), st⟩⟩ <;> first | exact noEx h | skip
    exact s_row (st' := .inl (m_and x y) :: st) (go rfl) hF (wf_cons (wr_toInt _) (wf_tail (wf_tail hst))) h (trI (Int32.ofInt_toInt _)) (fun k => lv_iand hx hb hd k)
  | ior =>
    rcases st with _ | ⟨(y | y | y), _ | ⟨(x | x | x), st⟩⟩ <;> first | exact noEx h | skip
    exact s_row (st' := .inl (m_or x y) :: st) (go rfl) hF (wf_cons (wr_toInt _) (wf_tail (wf_tail hst))) h (trI (Int32.ofInt_toInt _)) (fun k => lv_ior hx hb hd k)
  | ixor =>
    rcases st with _ | ⟨(y | y | y), _ | ⟨(x | x | x), st⟩⟩ <;> first | exact noEx h | skip
    exact s_row (st' := .inl (m_xor x y) :: st) (go rfl) hF (wf_cons (wr_toInt _) (wf_tail (wf_tail hst))) h (trI (Int32.ofInt_toInt _)) (fun k => lv_ixor hx hb hd k)
  | ishl =>
    rcases st with _ | ⟨(y | y | y), _ | ⟨(x | x | x), st⟩⟩ <;> first | exact noEx h | skip
    exact s_row (st' := .inl (m_shl x y) :: st) (go rfl) hF (wf_cons (wr_toInt _) (wf_tail (wf_tail hst))) h (trI (Int32.ofInt_toInt _)) (fun k => lv_ishl hx hb hd k)
  | ishr =>
    rcases st with _ | ⟨(y | y | y), _ | ⟨(x | x | x), st⟩⟩ <;> first | exact noEx h | skip
    exact s_row (st' := .inl (m_shr x y) :: st) (go rfl) hF (wf_cons (wr_toInt _) (wf_tail (wf_tail hst))) h (trI (Int32.ofInt_toInt _)) (fun k => lv_ishr hx hb hd k)
  | iushr =>
    rcases st with _ | ⟨(y | y | y), _ | ⟨(x | x | x), st⟩⟩ <;> first | exact noEx h | skip
    exact s_row (st' := .inl (m_ushr x y) :: st) (go rfl) hF (wf_cons (wr_toInt _) (wf_tail (wf_tail hst))) h (trI (Int32.ofInt_toInt _)) (fun k => lv_iushr hx hb hd rfl k)
  | idiv =>
    rcases st with _ | ⟨(y | y | y), _ | ⟨(x | x | x), st⟩⟩ <;> first | exact noEx h | skip
    obtain ⟨h0, h⟩ := m_chk h
    have h0 : ¬ y = 0 := h0
    have hy := wf_head hst
    have hxx := wf_head (wf_tail hst)
    exact s_row (st' := .inl (wr (x.tdiv y)) :: st) (go rfl) hF (wf_cons (wr_wr _) (wf_tail (wf_tail hst))) h (trI (i_div hxx hy)) (fun k => lv_idiv hx hb hd (fun hz => h0 ((i_eq hy wr0).mp hz)) k)
  | irem =>
    rcases st with _ | ⟨(y | y | y), _ | ⟨(x | x | x), st⟩⟩ <;> first | exact noEx h | skip
    obtain ⟨h0, h⟩ := m_chk h
    have h0 : ¬ y = 0 := h0
    have hy := wf_head hst
    have hxx := wf_head (wf_tail hst)
    have hrm := i_rem hxx hy
    exact s_row (st' := .inl (x.tmod y) :: st) (go rfl) hF (wf_cons (by show wr (x.tmod y) = _; rw [← hrm]; exact wr_toInt _) (wf_tail (wf_tail hst))) h (trI (by rw [← hrm]; exact Int32.ofInt_toInt _)) (fun k => lv_irem hx hb hd (fun hz => h0 ((i_eq hy wr0).mp hz)) k)
  | ineg =>
    rcases st with _ | ⟨(x | x | x), st⟩ <;> first | exact noEx h | skip
    exact s_row (st' := .inl (wr (-x)) :: st) (go rfl) hF (wf_cons (wr_wr _) (wf_tail hst)) h (trI (by rw [wr_ofInt, Int32.ofInt_neg])) (fun k => lv_ineg hx hb hd k)
  | ladd =>
    rcases st with _ | ⟨(y | y | y), _ | ⟨(x | x | x), st⟩⟩ <;> first | exact noEx h | skip
    exact s_row (st' := .inr (.inl (wl (x + y))) :: st) (go rfl) hF (wf_cons (wl_wl _) (wf_tail (wf_tail hst))) h (trL (by rw [wl_ofInt, Int64.ofInt_add])) (fun k => lv_ladd hx hb hd k)
  | lsub =>
    rcases st with _ | ⟨(y | y | y), _ | ⟨(x | x | x), st⟩⟩ <;> first | exact noEx h | skip
    exact s_row (st' := .inr (.inl (wl (x - y))) :: st) (go rfl) hF (wf_cons (wl_wl _) (wf_tail (wf_tail hst))) h (trL (by rw [wl_ofInt, Int64.ofInt_sub])) (fun k => lv_lsub hx hb hd k)
  | lmul =>
    rcases st with _ | ⟨(y | y | y), _ | ⟨(x | x | x), st⟩⟩ <;> first | exact noEx h | skip
    exact s_row (st' := .inr (.inl (wl (x * y))) :: st) (go rfl) hF (wf_cons (wl_wl _) (wf_tail (wf_tail hst))) h (trL (by rw [wl_ofInt, Int64.ofInt_mul])) (fun k => lv_lmul hx hb hd k)
  | land =>
    rcases st with _ | ⟨(y | y | y), _ | ⟨(x | x | x), st⟩⟩ <;> first | exact noEx h | skip
    exact s_row (st' := .inr (.inl (m_land x y)) :: st) (go rfl) hF (wf_cons (wl_toInt _) (wf_tail (wf_tail hst))) h (trL (Int64.ofInt_toInt _)) (fun k => lv_land hx hb hd k)
  | ldiv =>
    rcases st with _ | ⟨(y | y | y), _ | ⟨(x | x | x), st⟩⟩ <;> first | exact noEx h | skip
    obtain ⟨h0, h⟩ := m_chk h
    have h0 : ¬ y = 0 := h0
    have hy := wf_head hst
    have hxx := wf_head (wf_tail hst)
    exact s_row (st' := .inr (.inl (wl (x.tdiv y))) :: st) (go rfl) hF (wf_cons (wl_wl _) (wf_tail (wf_tail hst))) h (trL (l_div hxx hy)) (fun k => lv_ldiv hx hb hd (fun hz => h0 ((l_eq hy (wl_of (z := 0) (by omega) (by omega))).mp hz)) k)
  | lrem =>
    rcases st with _ | ⟨(y | y | y), _ | ⟨(x | x | x), st⟩⟩ <;> first | exact noEx h | skip
    obtain ⟨h0, h⟩ := m_chk h
    have h0 : ¬ y = 0 := h0
    have hy := wf_head hst
    have hxx := wf_head (wf_tail hst)
    have hrm := l_rem hxx hy
    exact s_row (st' := .inr (.inl (x.tmod y)) :: st) (go rfl) hF (wf_cons (by show wl (x.tmod y) = _; rw [← hrm]; exact wl_toInt _) (wf_tail (wf_tail hst))) h (trL (by rw [← hrm]; exact Int64.ofInt_toInt _)) (fun k => lv_lrem hx hb hd (fun hz => h0 ((l_eq hy (wl_of (z := 0) (by omega) (by omega))).mp hz)) k)
  | lneg =>
    rcases st with _ | ⟨(x | x | x), st⟩ <;> first | exact noEx h | skip
    exact s_row (st' := .inr (.inl (wl (-x))) :: st) (go rfl) hF (wf_cons (wl_wl _) (wf_tail hst)) h (trL (by rw [wl_ofInt, Int64.ofInt_neg])) (fun k => lv_lneg hx hb hd k)
  | lcmp =>
    rcases st with _ | ⟨(y | y | y), _ | ⟨(x | x | x), st⟩⟩ <;> first | exact noEx h | skip
    have hy := wf_head hst
    have hxx := wf_head (wf_tail hst)
    have hv : Int32.ofInt (m_lcmp x y) = lg_cmp (Int64.ofInt x) (Int64.ofInt y) := by
      unfold m_lcmp lg_cmp
      by_cases h1 : y < x
      · rw [if_pos h1, if_pos ((l_lt hy hxx).mpr h1)]; rfl
      · rw [if_neg h1, if_neg (fun z => h1 ((l_lt hy hxx).mp z))]
        by_cases h2 : x = y
        · rw [if_pos h2, if_pos (by rw [h2])]; rfl
        · rw [if_neg h2, if_neg (fun z => h2 ((l_eq hxx hy).mp z))]; rfl
    exact s_row (st' := .inl (m_lcmp x y) :: st) (go rfl) hF (wf_cons (by show wr (m_lcmp x y) = _; unfold m_lcmp; split; (decide +kernel); split <;> decide +kernel) (wf_tail (wf_tail hst))) h (trI hv) (fun k => W.lcmp hx hb hd k)
  | i2l =>
    rcases st with _ | ⟨(x | x | x), st⟩ <;> first | exact noEx h | skip
    have hxx := wf_head hst
    exact s_row (st' := .inr (.inl x) :: st) (go rfl) hF (wf_cons (wl_of_wr hxx) (wf_tail hst)) h (trL (V := (Int32.ofInt x).toInt64) (by
      rw [← Int64.toInt_inj, Int32.toInt_toInt64]
      exact (wl_of_wr hxx).trans (show wr x = x from hxx).symm)) (fun k => lv_i2l hx hb hd rfl k)
  | l2i =>
    rcases st with _ | ⟨(x | x | x), st⟩ <;> first | exact noEx h | skip
    have hxx : wl x = x := wf_head hst
    exact s_row (st' := .inl (wr x) :: st) (go rfl) hF (wf_cons (wr_wr _) (wf_tail hst)) h (trI (V := (Int64.ofInt x).toInt32) (by
      rw [wr_ofInt, ← Int32.toInt_inj, Int64.toInt_toInt32]
      show _ = (wl x).bmod _
      rw [hxx, Int32.toInt_ofInt])) (fun k => lv_l2i hx hb hd rfl k)
  | i2b =>
    rcases st with _ | ⟨(x | x | x), st⟩ <;> first | exact noEx h | skip
    exact s_row (st' := .inl (m_i2b x) :: st) (go rfl) hF (wf_cons (wr_toInt _) (wf_tail hst)) h (trI (Int32.ofInt_toInt _)) (fun k => lv_i2b hx hb hd rfl k)
  | dup =>
    rcases st with _ | ⟨(x | x | x), st⟩ <;> first | exact noEx h | skip
    · exact lv_dup hx hb hd rfl (s_st (st' := .inl x :: .inl x :: st) (go rfl) hF (wf_cons (wf_head hst) hst) h)
    · exact lv_dup hx hb hd (tr_cat (G := G) (.inr (.inr x)) rfl) (s_st (st' := .inr (.inr x) :: .inr (.inr x) :: st) (go rfl) hF (wf_cons (wf_head hst) hst) h)
  | pop =>
    rcases st with _ | ⟨(x | x | x), st⟩ <;> first | exact noEx h | skip
    exact lv_pop hx hb hd rfl (s_st (go rfl) hF (wf_tail hst) h)
  | dup2 =>
    rcases st with _ | ⟨(x | x | x), st⟩
    · exact noEx h
    · rcases st with _ | ⟨(y | y | y), st⟩ <;> first | exact noEx h | skip
      exact lv_dup2_11 hx hb hd rfl (tr_cat (G := G) (.inr (.inr y)) rfl) (s_st (st' := .inl x :: .inr (.inr y) :: .inl x :: .inr (.inr y) :: st) (go rfl) hF (wf_cons (wf_head hst) (wf_cons (wf_head (wf_tail hst)) hst)) h)
    · exact lv_dup2_2 hx hb hd rfl (s_st (st' := .inr (.inl x) :: .inr (.inl x) :: st) (go rfl) hF (wf_cons (wf_head hst) hst) h)
    · exact noEx h
  | goto o =>
    have hX : decide ((pc : Int) + o = (e1 : Int)) = true := hX
    exact lv_goto hx hb hd (of_decide_eq_true hX) (s_st (jp e1) hF hst h)
  | ifCond cd o =>
    have hXd : decide ((pc : Int) + o = (e1 : Int)) = true := hX
    have hXo := of_decide_eq_true hXd
    rcases st with _ | ⟨(x | x | x), st⟩ <;> first | exact noEx h | skip
    have hxx := wf_head hst
    cases cd with
    | eq =>
      have hi := m_if (P := x = 0) h
      have hq := i_eq hxx wr0
      exact lv_if_eq hx hb hd hXo (fun hc => s_st (jp e1) hF (wf_tail hst) (hi.1 (hq.mp hc))) (fun hc => s_st (go rfl) hF (wf_tail hst) (hi.2 (fun z => hc (hq.mpr z))))
    | ne =>
      have hi := m_if (P := ¬ x = 0) h
      have hq := i_eq hxx wr0
      exact lv_if_ne hx hb hd hXo (fun hc => s_st (jp e1) hF (wf_tail hst) (hi.1 (fun z => hc (hq.mpr z)))) (fun hc => s_st (go rfl) hF (wf_tail hst) (hi.2 (fun z => z (hq.mp hc))))
    | lt =>
      have hi := m_if (P := x < 0) h
      have hq := i_lt hxx wr0
      exact lv_if_lt hx hb hd hXo (fun hc => s_st (jp e1) hF (wf_tail hst) (hi.1 (hq.mp hc))) (fun hc => s_st (go rfl) hF (wf_tail hst) (hi.2 (fun z => hc (hq.mpr z))))
    | ge =>
      have hi := m_if (P := 0 ≤ x) h
      have hq := i_le wr0 hxx
      exact lv_if_ge hx hb hd hXo (fun hc => s_st (jp e1) hF (wf_tail hst) (hi.1 (hq.mp hc))) (fun hc => s_st (go rfl) hF (wf_tail hst) (hi.2 (fun z => hc (hq.mpr z))))
    | gt =>
      have hi := m_if (P := 0 < x) h
      have hq := i_lt wr0 hxx
      exact lv_if_gt hx hb hd hXo (fun hc => s_st (jp e1) hF (wf_tail hst) (hi.1 (hq.mp hc))) (fun hc => s_st (go rfl) hF (wf_tail hst) (hi.2 (fun z => hc (hq.mpr z))))
    | le =>
      have hi := m_if (P := x ≤ 0) h
      have hq := i_le hxx wr0
      exact lv_if_le hx hb hd hXo (fun hc => s_st (jp e1) hF (wf_tail hst) (hi.1 (hq.mp hc))) (fun hc => s_st (go rfl) hF (wf_tail hst) (hi.2 (fun z => hc (hq.mpr z))))
  | if_icmp cd o =>
    have hXd : decide ((pc : Int) + o = (e1 : Int)) = true := hX
    have hXo := of_decide_eq_true hXd
    rcases st with _ | ⟨(y | y | y), _ | ⟨(x | x | x), st⟩⟩ <;> first | exact noEx h | skip
    have hy := wf_head hst
    have hxx := wf_head (wf_tail hst)
    cases cd with
    | eq =>
      have hi := m_if (P := x = y) h
      have hq := i_eq hxx hy
      exact lv_icmp_eq hx hb hd hXo (fun hc => s_st (jp e1) hF (wf_tail (wf_tail hst)) (hi.1 (hq.mp hc))) (fun hc => s_st (go rfl) hF (wf_tail (wf_tail hst)) (hi.2 (fun z => hc (hq.mpr z))))
    | ne =>
      have hi := m_if (P := ¬ x = y) h
      have hq := i_eq hxx hy
      exact lv_icmp_ne hx hb hd hXo (fun hc => s_st (jp e1) hF (wf_tail (wf_tail hst)) (hi.1 (fun z => hc (hq.mpr z)))) (fun hc => s_st (go rfl) hF (wf_tail (wf_tail hst)) (hi.2 (fun z => z (hq.mp hc))))
    | lt =>
      have hi := m_if (P := x < y) h
      have hq := i_lt hxx hy
      exact lv_icmp_lt hx hb hd hXo (fun hc => s_st (jp e1) hF (wf_tail (wf_tail hst)) (hi.1 (hq.mp hc))) (fun hc => s_st (go rfl) hF (wf_tail (wf_tail hst)) (hi.2 (fun z => hc (hq.mpr z))))
    | ge =>
      have hi := m_if (P := y ≤ x) h
      have hq := i_le hy hxx
      exact lv_icmp_ge hx hb hd hXo (fun hc => s_st (jp e1) hF (wf_tail (wf_tail hst)) (hi.1 (hq.mp hc))) (fun hc => s_st (go rfl) hF (wf_tail (wf_tail hst)) (hi.2 (fun z => hc (hq.mpr z))))
    | gt =>
      have hi := m_if (P := y < x) h
      have hq := i_lt hy hxx
      exact lv_icmp_gt hx hb hd hXo (fun hc => s_st (jp e1) hF (wf_tail (wf_tail hst)) (hi.1 (hq.mp hc))) (fun hc => s_st (go rfl) hF (wf_tail (wf_tail hst)) (hi.2 (fun z => hc (hq.mpr z))))
    | le =>
      have hi := m_if (P := x ≤ y) h
      have hq := i_le hxx hy
      exact lv_icmp_le hx hb hd hXo (fun hc => s_st (jp e1) hF (wf_tail (wf_tail hst)) (hi.1 (hq.mp hc))) (fun hc => s_st (go rfl) hF (wf_tail (wf_tail hst)) (hi.2 (fun z => hc (hq.mpr z))))
  | getfield idx =>
    have hX : m_okF (mY mid).cls idx e1 e2 e3 z.toNat = true := hX
    obtain ⟨ci, rfl, hci, hj, he3, hw⟩ := okF_spec hX
    obtain ⟨nn, sh, RR, I, L⟩ := M
    rcases st with _ | ⟨(x | x | (_ | _ | x)), st⟩ <;> first | exact noEx h | skip
    have h : m_disp n mid (m_getf (ci + 4) e2 e3 r kc ks lv (.inr (.inr (x + 2)) :: st) (nn, sh, RR, I, L)) = some q := h
    unfold m_getf at h
    dsimp only at h
    obtain ⟨hs, h⟩ := bd_chk h rfl
    have hs := Nat.eq_of_beq_eq_true hs
    refine s_getf hCl hC hd hci hj hw hF hs ?_
    have hIw : ∀ a b, wr (I a b) = I a b := hF.2.2.2.1.2.2.2.2.2.2.1
    have hLw : ∀ a b, wl (L a b) = L a b := hF.2.2.2.1.2.2.2.2.2.2.2.1
    rcases ty_code hci hj with ht | ht | ht | ht <;> rw [ht] at he3 ⊢ <;> subst he3
    · exact s_st (st' := .inl (I (x + 2) e2) :: st) (go rfl) hF (wf_cons (hIw _ _) (wf_tail hst)) h
    · exact s_st (st' := .inr (.inl (L (x + 2) e2)) :: st) (go rfl) hF (wf_cons (hLw _ _) (wf_tail hst)) h
    · exact s_st (st' := .inr (.inr (RR (x + 2) e2)) :: st) (go rfl) hF (wf_cons trivial (wf_tail hst)) h
    · exact s_st (st' := .inl (I (x + 2) e2) :: st) (go rfl) hF (wf_cons (hIw _ _) (wf_tail hst)) h
  | putfield idx =>
    have hX : (m_okF (mY mid).cls idx e1 e2 e3 z.toNat && m_okFin mid e1 e2) = true := hX
    rw [Bool.and_eq_true] at hX
    obtain ⟨ci, rfl, hci, hj, he3, hw⟩ := okF_spec hX.1
    have hfin := okFin_spec hX.2
    obtain ⟨nn, sh, RR, I, L⟩ := M
    rcases st with _ | ⟨v, _ | ⟨(x | x | (_ | _ | x)), st⟩⟩ <;> first | exact noEx h | skip
    have h : m_disp n mid (m_putf (ci + 4) e2 e3 r kc ks lv (v :: .inr (.inr (x + 2)) :: st) (nn, sh, RR, I, L)) = some q := h
    unfold m_putf at h
    dsimp only at h
    obtain ⟨hs, h⟩ := bd_chk h rfl
    have hs := Nat.eq_of_beq_eq_true hs
    have hv := wf_head hst
    have hm := hF.2.2.2.1
    have nm : ∀ (J : Nat → Nat → Int) (w : Int) i, i ≠ e2 → mup J (x + 2) e2 w (x + 2) i = J (x + 2) i := fun J w i hi => by rw [mup_self]; exact if_neg hi
    have nr : ∀ (J : Nat → Nat → Nat) (w : Nat) i, i ≠ e2 → mupR J (x + 2) e2 w (x + 2) i = J (x + 2) i := fun J w i hi => by rw [mupR_self]; exact if_neg hi
    rcases ty_code hci hj with ht | ht | ht | ht <;> rw [ht] at he3 <;> subst he3
    · rcases v with v | v | v <;> first | exact noEx h | skip
      exact s_putf hCl hC (RR' := RR) (I' := mup I (x + 2) e2 v) (L' := L) hd hci hj hw hfin (by rw [ty_of0 hci hj ht]; rfl) (by rw [ty_of0 hci hj ht]; rfl) hF hs (fun _ _ => rfl) (fun i hi => mup_other hi) (fun _ _ => rfl) (fun _ _ => rfl) (nm I v) (fun _ _ => rfl) (by rw [ht, mup_self]; show Value.int (Int32.ofInt (if e2 = e2 then v else _)) = _; rw [if_pos rfl]; rfl) (wfM_I hm (by omega) hv) (go rfl) h
    · rcases v with v | v | v <;> first | exact noEx h | skip
      exact s_putf hCl hC (RR' := RR) (I' := I) (L' := mup L (x + 2) e2 v) hd hci hj hw hfin (by rw [ty_of1 hci hj ht]; rfl) (by rw [ty_of1 hci hj ht]; rfl) hF hs (fun _ _ => rfl) (fun _ _ => rfl) (fun i hi => mup_other hi) (fun _ _ => rfl) (fun _ _ => rfl) (nm L v) (by rw [ht, mup_self]; show Value.long (Int64.ofInt (if e2 = e2 then v else _)) = _; rw [if_pos rfl]; rfl) (wfM_L hm hv) (go rfl) h
    · rcases v with v | v | (_ | _ | v) <;> first | exact noEx h | skip
      exact s_putf hCl hC (RR' := mupR RR (x + 2) e2 (v + 2)) (I' := I) (L' := L) hd hci hj hw hfin (by rcases ty_of2 hci hj ht with ⟨t, h1⟩ | ⟨t, h1⟩ <;> rw [h1] <;> rfl) (by rcases ty_of2 hci hj ht with ⟨t, h1⟩ | ⟨t, h1⟩ <;> rw [h1] <;> rfl) hF hs (fun i hi => mupR_other hi) (fun _ _ => rfl) (fun _ _ => rfl) (nr RR (v + 2)) (fun _ _ => rfl) (fun _ _ => rfl) (by rw [ht, mupR_self]; show trr G (if e2 = e2 then v + 2 else _) = _; rw [if_pos rfl]; rfl) (wfM_R hm) (go rfl) h
    · rcases v with v | v | v <;> first | exact noEx h | skip
      obtain ⟨h01, h⟩ := m_chk h
      have h01 : v = 0 ∨ v = 1 := h01
      exact s_putf hCl hC (RR' := RR) (I' := mup I (x + 2) e2 v) (L' := L) hd hci hj hw hfin (by rw [ty_of3 hci hj ht]; exact nar_b h01) (by rw [ty_of3 hci hj ht]; exact fit_b h01) hF hs (fun _ _ => rfl) (fun i hi => mup_other hi) (fun _ _ => rfl) (fun _ _ => rfl) (nm I v) (fun _ _ => rfl) (by rw [ht, mup_self]; show Value.int (Int32.ofInt (if e2 = e2 then v else _)) = _; rw [if_pos rfl]; rfl) (wfM_I hm (by omega) hv) (go rfl) h
  | iaload =>
    obtain ⟨nn, sh, RR, I, L⟩ := M
    rcases st with _ | ⟨(i | i | i), _ | ⟨(x | x | (_ | x)), st⟩⟩ <;> first | exact noEx h | skip
    have h : m_disp n mid (m_ald 0 r kc ks lv (.inl i :: .inr (.inr (x + 1)) :: st) (nn, sh, RR, I, L)) = some q := h
    unfold m_ald at h
    dsimp only at h
    obtain ⟨hs, h⟩ := bd_chk h rfl
    obtain ⟨hin, h⟩ := m_chk h
    simp only [Bool.or_eq_true] at hs
    exact s_aldI hC hin hF (hs.elim (fun z => Or.inl ⟨Nat.eq_of_beq_eq_true z, hd⟩) (fun z => Or.inr (Or.inl ⟨Nat.eq_of_beq_eq_true z, hd⟩))) (go rfl) h
  | laload =>
    obtain ⟨nn, sh, RR, I, L⟩ := M
    rcases st with _ | ⟨(i | i | i), _ | ⟨(x | x | (_ | x)), st⟩⟩ <;> first | exact noEx h | skip
    have h : m_disp n mid (m_ald 1 r kc ks lv (.inl i :: .inr (.inr (x + 1)) :: st) (nn, sh, RR, I, L)) = some q := h
    unfold m_ald at h
    dsimp only at h
    obtain ⟨hs, h⟩ := bd_chk h rfl
    obtain ⟨hin, h⟩ := m_chk h
    exact s_aldL hC hin hF (Nat.eq_of_beq_eq_true hs) hd (go rfl) h
  | baload =>
    obtain ⟨nn, sh, RR, I, L⟩ := M
    rcases st with _ | ⟨(i | i | i), _ | ⟨(x | x | (_ | x)), st⟩⟩ <;> first | exact noEx h | skip
    have h : m_disp n mid (m_ald 2 r kc ks lv (.inl i :: .inr (.inr (x + 1)) :: st) (nn, sh, RR, I, L)) = some q := h
    unfold m_ald at h
    dsimp only at h
    obtain ⟨hs, h⟩ := bd_chk h rfl
    obtain ⟨hin, h⟩ := m_chk h
    simp only [Bool.or_eq_true] at hs
    exact s_aldI hC hin hF (hs.elim (fun z => Or.inr (Or.inr (Or.inl ⟨Nat.eq_of_beq_eq_true z, hd⟩))) (fun z => Or.inr (Or.inr (Or.inr ⟨Nat.eq_of_beq_eq_true z, hd⟩)))) (go rfl) h
  | iastore =>
    obtain ⟨nn, sh, RR, I, L⟩ := M
    rcases st with _ | ⟨(v | v | v), _ | ⟨(i | i | i), _ | ⟨(x | x | (_ | _ | x)), st⟩⟩⟩ <;> first | exact noEx h | skip
    have h : m_disp n mid (m_ast 0 r kc ks lv (.inl v :: .inl i :: .inr (.inr (x + 2)) :: st) (nn, sh, RR, I, L)) = some q := h
    unfold m_ast at h
    dsimp only at h
    obtain ⟨hs, h⟩ := bd_chk h rfl
    obtain ⟨hin, h⟩ := m_chk h
    exact s_astI hC hin hF (Or.inl ⟨Nat.eq_of_beq_eq_true hs, hd⟩) (go rfl) h
  | lastore =>
    obtain ⟨nn, sh, RR, I, L⟩ := M
    rcases st with _ | ⟨(v | v | v), _ | ⟨(i | i | i), _ | ⟨(x | x | (_ | _ | x)), st⟩⟩⟩ <;> first | exact noEx h | skip
    have h : m_disp n mid (m_ast 1 r kc ks lv (.inr (.inl v) :: .inl i :: .inr (.inr (x + 2)) :: st) (nn, sh, RR, I, L)) = some q := h
    unfold m_ast at h
    dsimp only at h
    obtain ⟨hs, h⟩ := bd_chk h rfl
    obtain ⟨hin, h⟩ := m_chk h
    exact s_astL hC hin hF (Nat.eq_of_beq_eq_true hs) hd (go rfl) h
  | bastore =>
    obtain ⟨nn, sh, RR, I, L⟩ := M
    rcases st with _ | ⟨(v | v | v), _ | ⟨(i | i | i), _ | ⟨(x | x | (_ | _ | x)), st⟩⟩⟩ <;> first | exact noEx h | skip
    have h : m_disp n mid (m_ast 2 r kc ks lv (.inl v :: .inl i :: .inr (.inr (x + 2)) :: st) (nn, sh, RR, I, L)) = some q := h
    unfold m_ast at h
    dsimp only at h
    cases hs : Nat.beq (sh (x + 2)).1 2
    · rw [hs] at h
      dsimp only [cond_false] at h
      obtain ⟨hs3, h⟩ := bd_chk h rfl
      obtain ⟨hin, h⟩ := m_chk h
      have hin : (0 ≤ i ∧ i < ((sh (x + 2)).2 : Int)) ∧ (v = 0 ∨ v = 1) := hin
      exact s_astI hC hin.1 hF (Or.inr (Or.inr ⟨Nat.eq_of_beq_eq_true hs3, hd, hin.2⟩)) (go rfl) h
    · rw [hs] at h
      dsimp only [cond_true] at h
      obtain ⟨hin, h⟩ := m_chk h
      have hin : (0 ≤ i ∧ i < ((sh (x + 2)).2 : Int)) ∧ (-128 ≤ v ∧ v ≤ 127) := hin
      exact s_astI hC hin.1 hF (Or.inr (Or.inl ⟨Nat.eq_of_beq_eq_true hs, hd, hin.2⟩)) (go rfl) h
  | arraylength =>
    obtain ⟨nn, sh, RR, I, L⟩ := M
    rcases st with _ | ⟨(x | x | (_ | x)), st⟩ <;> first | exact noEx h | skip
    have h : m_disp n mid (m_len r kc ks lv (.inr (.inr (x + 1)) :: st) (nn, sh, RR, I, L)) = some q := h
    unfold m_len at h
    dsimp only at h
    obtain ⟨hs, h⟩ := bd_chk h rfl
    simp only [Bool.and_eq_true, Bool.or_eq_true] at hs
    exact s_len hC hF (hs.1.elim (fun z => Or.inl (Nat.le_of_ble_eq_true z)) (fun z => Or.inr (Nat.eq_of_beq_eq_true z))) hd (Nat.le_of_ble_eq_true hs.2) (go rfl) h
  | new idx =>
    have hX : (Nat.ble 4 e1 && Nat.blt e1 15 && Nat.beq e2 (m_cl (e1 - 4)).2.2 && m_has z.toNat (.classLink (mY mid).cls idx (m_cl (e1 - 4)).1)) = true := hX
    simp only [Bool.and_eq_true] at hX
    have h4 := Nat.le_of_ble_eq_true hX.1.1.1
    have h15 : e1 < 15 := Nat.le_of_ble_eq_true hX.1.1.2
    have he2 := Nat.eq_of_beq_eq_true hX.1.2
    obtain ⟨ci, rfl⟩ : ∃ ci, e1 = ci + 4 := ⟨e1 - 4, by omega⟩
    rw [Nat.add_sub_cancel] at hX he2
    subst he2
    obtain ⟨nn, sh, RR, I, L⟩ := M
    have h : m_disp n mid (m_new mid (ci + 4) (m_cl ci).2.2 r kc ks lv st (nn, sh, RR, I, L)) = some q := h
    unfold m_new at h
    dsimp only at h
    obtain ⟨hn, h⟩ := bd_chk h rfl
    obtain ⟨hr, h⟩ := m_chk h
    have hr : ((kc + 1 : Nat) : Int) ≤ ((mC mid : Nat) : Int) ∧ ((ks + (m_cl ci).2.2 : Nat) : Int) ≤ ((mS mid : Nat) : Int) := hr
    exact s_new hCl hA hC hd (by omega) (m_has_in hX.2) (Nat.le_of_ble_eq_true hn) (by omega) (by omega) hF (go rfl) h
  | newarray a =>
    obtain ⟨nn, sh, RR, I, L⟩ := M
    rcases st with _ | ⟨(x | x | x), st⟩ <;> first | exact noEx h | skip
    have h : m_disp n mid (m_newa mid e1 r kc ks lv (.inl x :: st) (nn, sh, RR, I, L)) = some q := h
    unfold m_newa at h
    dsimp only at h
    obtain ⟨hn, h⟩ := bd_chk h rfl
    obtain ⟨hr, h⟩ := m_chk h
    have hr : (0 ≤ x ∧ x ≤ 10000) ∧ (((kc + 1 : Nat) : Int) ≤ ((mC mid : Nat) : Int) ∧ x ≤ ((mS mid : Nat) : Int) - ((ks : Nat) : Int)) := hr
    have hk : ((e1 = 0 ∧ newarray.typeOf a = .int) ∨ (e1 = 1 ∧ newarray.typeOf a = .long) ∨ (e1 = 2 ∧ newarray.typeOf a = .byte) ∨ (e1 = 3 ∧ newarray.typeOf a = .boolean)) ∧ Cond.arrayClass (newarray.typeOf a) ∈ gT := newa_spec hX
    exact s_newa hA hC hd hk.2 hk.1 (Nat.le_of_ble_eq_true hn) hr.1.1 hr.1.2 (by omega) (by omega) hF (go rfl) h
  | invokespecial idx =>
    have h : m_disp n mid (m_special mid e1 e2 r kc ks lv st M) = some q := h
    have hX : (bif Nat.beq e1 1008 then m_has z.toNat (.methodLink (mY mid).cls idx Lib.objectInit) && Nat.ble 1 (mFr mid) && Nat.ble 20 (mLo mid)
      else Nat.blt e1 mid && !(mSt e1) && decide ((mY e1).name = "<init>") && Nat.beq e2 (mN e1 + 1) && m_okLink mid idx e1 e3 z && m_okRoom mid e1 && decide (mRt e1 = none)) = true := hX
    unfold m_special at h
    cases hb8 : Nat.beq e1 1008
    · rw [hb8] at h hX
      simp only [cond_false, Bool.and_eq_true, decide_eq_true_eq, Bool.not_eq_true'] at hX
      dsimp only [cond_false] at h
      obtain ⟨⟨⟨⟨⟨⟨x1, x2⟩, x3⟩, x4⟩, x5⟩, x6⟩, x7⟩ := hX
      have x1 : e1 < mid := Nat.le_of_ble_eq_true x1
      have hn98 : ¬ e1 = 98 := fun z => by rw [z] at x2; exact absurd x2 (by decide)
      obtain ⟨as, st', q1, c1, c2, c3, c4, c5, c6, c7, c8, c9⟩ := disp_call hF.2.2.2.2.2.2.2.2.1 hF.2.2.2.2.2.2.2.2.2 h
      obtain ⟨o1, o2⟩ := okM_all e1 (by omega) (by omega) hn98
      exact s_callI hG o1 o2 x2 x3 x7 hC x6 (link_spec x5) hd (Nat.eq_of_beq_eq_true x4) c1 c2 c3 hF c5 c6 (hS2 e1 as M q1 (by omega) (by omega) hn98 (c7 hn98) (pop_wf c1 hst) c4) (go rfl) c9
    · rw [hb8] at h hX
      simp only [cond_true, Bool.and_eq_true] at hX
      dsimp only [cond_true] at h
      rcases st with _ | ⟨(x | x | (_ | _ | x)), st⟩ <;> first | exact noEx h | skip
      have h : m_disp n mid (bif Nat.ble (m_cats st) 8 then mgo r kc ks lv st M else mno M) = some q := h
      obtain ⟨h8, h⟩ := bd_chk h rfl
      have h8 := Nat.le_of_ble_eq_true h8
      have f1 := Nat.le_of_ble_eq_true hX.1.2
      have f2 := Nat.le_of_ble_eq_true hX.2
      exact W.objInit hx hb hown (hts _ (m_has_in hX.1.1)) (hts _ hLib.1.1) (hts _ hLib.1.2) (g := F0 m pc ls (.ref (g_a G x) :: st.map (tr G))) (rest := st.map (tr G)) rfl (hF.1.1.trans hml.symm) rfl hd (Nat.le_trans f1 hR.2.2.1) (by rw [cats_eq]; show 2 * 0 + _ + 12 ≤ _; have := hR.2.2.2; omega) (s_st (go rfl) hF (wf_tail hst) h)
  | invokevirtual idx =>
    have h : m_disp n mid (m_virtual mid e1 e2 (Nat.mod e3 1000) r kc ks lv st M) = some q := h
    have hX : (bif Nat.beq e1 1007 then m_has z.toNat (.methodLink (mY mid).cls idx ⟨"java/lang/String", "charAt", "(I)C"⟩) && Nat.ble 5 (mFr mid) && Nat.ble 120 (mLo mid)
      else Nat.blt e1 mid && !(mSt e1) && !(decide ((mY e1).name = "<init>")) && Nat.beq e2 (mN e1 + 1) && Nat.ble 4 e3 && Nat.blt e3 15 && decide ((m_cl (e3 - 4)).1 = (mY e1).cls) && m_okLink mid idx e1 e3 z && m_okRoom mid e1) = true := hX
    unfold m_virtual at h
    cases hb7 : Nat.beq e1 1007
    · rw [hb7] at h hX
      simp only [cond_false, Bool.and_eq_true, decide_eq_true_eq, Bool.not_eq_true', decide_eq_false_iff_not] at hX
      dsimp only [cond_false] at h
      obtain ⟨⟨⟨⟨⟨⟨⟨⟨x1, x2⟩, x3⟩, x4⟩, x5⟩, x6⟩, x7⟩, x8⟩, x9⟩ := hX
      have x1 : e1 < mid := Nat.le_of_ble_eq_true x1
      have x5 := Nat.le_of_ble_eq_true x5
      have x6 : e3 < 15 := Nat.le_of_ble_eq_true x6
      have hn98 : ¬ e1 = 98 := fun z => by rw [z] at x2; exact absurd x2 (by decide)
      have hmod : Nat.mod e3 1000 = e3 := Nat.mod_eq_of_lt (by omega)
      rw [hmod] at h
      obtain ⟨as, st', q1, c1, c2, c3, c4, c5, c6, c7, c8, c9⟩ := disp_call hF.2.2.2.2.2.2.2.2.1 hF.2.2.2.2.2.2.2.2.2 h
      obtain ⟨o1, o2⟩ := okM_all e1 (by omega) (by omega) hn98
      have hlk : Cond.methodLink (mY mid).cls idx (mY e1) ∈ gT := by
        unfold m_okLink at x8
        rw [show Nat.blt e3 1000 = true from Nat.ble_eq_true_of_le (by omega)] at x8
        exact m_has_in x8
      exact s_callV hG o1 o2 x2 x3 hC x9 hlk hd ⟨x5, x6⟩ x7 (Nat.eq_of_beq_eq_true x4) c1 c2 c3 hF c5 c6 (hS2 e1 as M q1 (by omega) (by omega) hn98 (c7 hn98) (pop_wf c1 hst) c4) (go rfl) c9
    · rw [hb7] at h hX
      simp only [cond_true, Bool.and_eq_true] at hX
      dsimp only [cond_true] at h
      obtain ⟨i, st', rfl, h8, h0, h1, h⟩ := charAt_spec h
      exact hCh hC hd (m_has_in hX.1.1) (Nat.le_of_ble_eq_true hX.1.2) (Nat.le_of_ble_eq_true hX.2) h8 h0 h1 hF (s_st (go rfl) hF (wf_cons (v := .inl (m_words.getD i.toNat 0)) (words_wr _) (wf_tail (wf_tail hst))) h)
  | invokestatic idx =>
    have h : m_disp n mid (m_static mid e1 e2 r kc ks lv st M) = some q := h
    have hX : (bif Nat.blt e1 1000 then
          (bif Nat.beq e1 mLman then m_has z.toNat (.methodLink (mY mid).cls idx (mY e1)) && Nat.beq e2 4 && m_okRoom mid e1
           else Nat.blt e1 mid && mSt e1 && Nat.beq e2 (mN e1) && m_okLink mid idx e1 e3 z && m_okRoom mid e1)
        else bif Nat.beq e1 1006 then m_has z.toNat (.methodLink (mY mid).cls idx arraycopyName) && Nat.ble 1 (mFr mid) && Nat.ble 40 (mLo mid)
        else Nat.blt e1 1006 && m_has z.toNat (.methodLink (mY mid).cls idx (m_mY e1).1) && Nat.ble 1 (mFr mid) && Nat.ble 24 (mLo mid)) = true := hX
    unfold m_static at h
    cases hbt : Nat.blt e1 1000
    · rw [hbt] at h hX
      dsimp only [cond_false] at h hX
      cases hb6 : Nat.beq e1 1006
      · rw [hb6] at h hX
        simp only [cond_false, Bool.and_eq_true] at hX
        dsimp only [cond_false] at h
        have hge : 1000 ≤ e1 := by
          rcases Nat.lt_or_ge e1 1000 with w | w
          · rw [show Nat.blt e1 1000 = true from Nat.ble_eq_true_of_le w] at hbt; cases hbt
          · exact w
        have hle : e1 < 1006 := Nat.le_of_ble_eq_true hX.1.1.1
        exact s_math hLib hC hd hge (by omega) (m_has_in hX.1.1.2) (Nat.le_of_ble_eq_true hX.1.2) (Nat.le_of_ble_eq_true hX.2) hF (go rfl) h
      · rw [hb6] at h hX
        simp only [cond_true, Bool.and_eq_true] at hX
        dsimp only [cond_true] at h
        exact s_cpy hLib hC hd (m_has_in hX.1.1) (Nat.le_of_ble_eq_true hX.1.2) (Nat.le_of_ble_eq_true hX.2) hF (go rfl) h
    · rw [hbt] at h hX
      dsimp only [cond_true] at h hX
      obtain ⟨as, st', q1, c1, c2, c3, c4, c5, c6, c7, c8, c9⟩ := disp_call hF.2.2.2.2.2.2.2.2.1 hF.2.2.2.2.2.2.2.2.2 h
      cases hbl : Nat.beq e1 mLman
      · rw [hbl] at hX
        simp only [cond_false, Bool.and_eq_true] at hX
        obtain ⟨⟨⟨⟨x1, x2⟩, x3⟩, x4⟩, x5⟩ := hX
        have x1 : e1 < mid := Nat.le_of_ble_eq_true x1
        have hn98 : ¬ e1 = 98 := fun w => by rw [w] at hbl; exact absurd hbl (by decide)
        obtain ⟨o1, o2⟩ := okM_all e1 (by omega) (by omega) hn98
        have hcon := hS2 e1 as M q1 (by omega) (by omega) hn98 (c7 hn98) (pop_wf c1 hst) c4
        rcases link_spec x4 with w | w
        · exact s_callS hG o1 o2 x2 hC x5 w hd (Nat.eq_of_beq_eq_true x3) c1 c3 hF c5 c6 hcon (go rfl) c9
        · exact s_callSN hG o1 o2 x2 hC x5 w hd (Nat.eq_of_beq_eq_true x3) c1 c3 hF c5 c6 hcon (go rfl) c9
      · rw [hbl] at hX
        simp only [cond_true, Bool.and_eq_true] at hX
        have he := Nat.eq_of_beq_eq_true hbl
        subst he
        have he2 := Nat.eq_of_beq_eq_true hX.1.2
        subst he2
        exact hLm hC hd (m_has_in hX.1.1) hX.2 c1 c3 hF c5 c6 (c8 rfl) (go rfl) c9
  | ireturn =>
    have hX : (bif Nat.beq e1 1 then decide (mRt mid = some .boolean) else decide (mRt mid = some .int)) = true := hX
    rcases st with _ | ⟨(x | x | x), _ | ⟨y, st⟩⟩ <;> first | exact noEx h | skip
    have h : m_disp n mid (bif Nat.beq e1 1 then (4, (7, x, 0, 0, 0), (r, kc, ks, lv, [.inl x], M), (r, kc, ks, lv, [.inl x], M), 0, [.inl x]) else (7, m_cn0, (r, kc, ks, lv, [.inl x], M), (r, kc, ks, lv, [.inl x], M), 0, [.inl x])) = some q := h
    have hfin : ∀ (hq : ([.inl x], M) = q), (mRt mid = some .int ∨ (mRt mid = some .boolean ∧ (x = 0 ∨ x = 1))) → W p l e R s m args below meth c H locs kc ks Q (F0 m pc ls (([.inl x] : List mV).map (tr G))) := by
      intro hq hr
      subst hq
      obtain ⟨f1, f2, f3, f4, f5, f6, f7, f8, f9, f10⟩ := hF
      exact hend pc kc ks H locs ls f9 f10 f4 f5 f6 f7 f8 ⟨wf_head f3, hd, hr⟩
    cases hb1 : Nat.beq e1 1
    · rw [hb1] at h hX
      exact hfin (Option.some.inj h) (Or.inl (of_decide_eq_true hX))
    · rw [hb1] at h hX
      obtain ⟨h01, h⟩ := m_chk h
      exact hfin (Option.some.inj h) (Or.inr ⟨of_decide_eq_true hX, h01⟩)
  | lreturn =>
    have hX : decide (mRt mid = some .long) = true := hX
    rcases st with _ | ⟨(x | x | x), _ | ⟨y, st⟩⟩ <;> first | exact noEx h | skip
    have hq : ([.inr (.inl x)], M) = q := Option.some.inj h
    subst hq
    obtain ⟨f1, f2, f3, f4, f5, f6, f7, f8, f9, f10⟩ := hF
    exact hend pc kc ks H locs ls f9 f10 f4 f5 f6 f7 f8 ⟨wf_head f3, hd, of_decide_eq_true hX⟩
  | return_ =>
    have hX : decide (mRt mid = none) = true := hX
    rcases st with _ | ⟨x, st⟩ <;> first | exact noEx h | skip
    have hq : ([], M) = q := Option.some.inj h
    subst hq
    obtain ⟨f1, f2, f3, f4, f5, f6, f7, f8, f9, f10⟩ := hF
    exact hend pc kc ks H locs ls f9 f10 f4 f5 f6 f7 f8 ⟨hd, of_decide_eq_true hX⟩
  | _ => first | exact noEx h | (cases hpl; done)
end
section
/-! ===== the mini machine is sound ===== -/
def m_hd0 (m : Nat) : Bool := Nat.beq m 98 || (match mcd m with
  | e :: _ => Nat.beq e.1 0
  | [] => false)
theorem okH : (List.range 260).all m_hd0 = true := by decide +kernel
theorem pcOf0 {m : Nat} (h : m < 260) (hn : ¬ m = 98) : pcOf (mcd m) = 0 := by
  have h1 := List.all_eq_true.mp okH m (List.mem_range.mpr h)
  unfold m_hd0 at h1
  rw [Bool.or_eq_true] at h1
  rcases h1 with h1 | h1
  · exact absurd (Nat.eq_of_beq_eq_true h1) hn
  · unfold pcOf
    cases hm : mcd m with
    | nil => rfl
    | cons e r => rw [hm] at h1; exact Nat.eq_of_beq_eq_true h1
theorem ent_args (G : mGl) : ∀ (as : List mV) (i : Nat), (m_ent i as).map (trq G) = lv_args i (as.map (tr G)) := by
  intro as
  induction as with
  | nil => intro i; rfl
  | cons v t ih =>
    intro i
    show (i, tr G v) :: (m_ent (bif m_isL v then i + 2 else i + 1) t).map (trq G) = (i, tr G v) :: lv_args (if (tr G v).category = 2 then i + 2 else i + 1) (t.map (tr G))
    rw [ih]
    cases h : m_isL v
    · rw [if_neg (by rw [tr_cat v h]; decide)]; rfl
    · rw [if_pos (tr_catL v h)]; rfl
theorem ent_wf : ∀ (as : List mV) (i : Nat), (∀ v ∈ as, wfV v) → ∀ q ∈ m_ent i as, wfV q.2 := by
  intro as
  induction as with
  | nil => intro i _ q h; cases h
  | cons v t ih =>
    intro i hw q hq
    rcases List.mem_cons.mp hq with rfl | hq
    · exact hw v List.mem_cons_self
    · exact ih _ (fun v hv => hw v (List.mem_cons_of_mem _ hv)) q hq
theorem sl_len (G : mGl) : ∀ as : List mV, (lg_sl (as.map (tr G))).length = m_cats as := by
  intro as
  induction as with
  | nil => rfl
  | cons v t ih =>
    show (lg_sl (tr G v :: t.map (tr G))).length = (bif m_isL v then 2 else 1) + m_cats t
    unfold lg_sl at ih ⊢
    rw [List.flatMap_cons, List.length_append, ih]
    cases h : m_isL v
    · rw [if_neg (by rw [tr_cat v h]; decide)]; rfl
    · rw [if_pos (tr_catL v h)]; rfl
/-- the switch's target -/
theorem sel_out {l : List (Int × Nat)} {x : Int} {d : Nat} (h : ∀ q ∈ l, ¬ x = q.1) : m_sel l x d = d := by
  induction l with
  | nil => rfl
  | cons a t ih =>
    obtain ⟨v, w⟩ := a
    unfold m_sel
    rw [show decide (x = v) = false from decide_eq_false (h (v, w) List.mem_cons_self)]
    exact ih (fun q hq => h q (List.mem_cons_of_mem _ hq))
theorem con_of {G : mGl} {l : Launch} {n : Nat} (hG : StrOK G) (h1 : S1 G l n) : S2 G l n := by
  intro mid as M q hmid hnl hnm h hw hcat
  obtain ⟨o1, o2⟩ := okM_all mid hmid hnl hnm
  have hp : plainName (mY mid).cls = true := by
    unfold m_okN at o1
    simp only [Bool.and_eq_true] at o1
    exact o1.2
  refine Met.ofW (cc := mB mid) (maxL := mL mid) (ret := mRt mid) hp rfl ?_
  intro p e s m args below meth c s₁ B hml hv
  obtain ⟨rfl, hB, hm, hP, hD, hz⟩ := hv
  have hts0 := atoms_spec (ws := mW mid) B.pre
  have hts : ∀ w ∈ gT, w.before (as.map (tr G)).toArray s = true := fun w hw => hts0 w (List.mem_cons_of_mem _ hw)
  have hown : s.vm.findClass (mY mid).cls = some m.cls := findClass_of_methodNamed B.named
  have hC : Ctx G mid p (headSpec (mW mid) (mRm mid)).room s m (as.map (tr G)).toArray meth c := ⟨B.exec, B.bytes, hml, hown, hts, ⟨rfl, rfl, Nat.le_refl _, Nat.le_refl _⟩, fun hi => (name_of_methodNamed B.named B.method).1.trans hi, hB⟩
  have hl := lv_entry (as.map (tr G)) (n := mL mid) (by rw [sl_len]; exact hcat)
  rw [lg_entry_eq]
  generalize (lg_sl (as.map (tr G)) ++ List.replicate (mL mid - (lg_sl (as.map (tr G))).length) Slot.unset).toArray = ls at hl ⊢
  have hF : Frm G mid s 0 0 (m_ent 0 as) [] M s.heap [] ls := ⟨by rw [ent_args]; exact hl, ent_wf as 0 hw, fun _ h => (by cases h), hm, hP, hD, va_S.rf, hz, Nat.zero_le _, Nat.zero_le _⟩
  have hr := B.returns
  have hlocks := B.notSynchronized
  have hend : EndP p l e (headSpec (mW mid) (mRm mid)).room s m (as.map (tr G)).toArray below meth c (MQ below (QR G q) (as.map (tr G)).toArray s (mC mid) (mS mid) (g_A G)) G mid q := by
    intro pc kc ks H locs ls k1 k2 w1 w2 w3 w4 w5 w6
    have hWd : ∀ t : State, t.heap = H → s.WarmedH t.vm → Wd G q.2 t := fun t ht hW => Wd.moved hG hB hW ht w1 w2 w3 w4 w5
    have hFr : ∀ t : State, t.heap = H → va_F (g_A G) s t := fun t ht => w4.F ht
    obtain ⟨res, M'⟩ := q
    refine W.widen k1 k2 ?_
    match res, w6 with
    | [], w6 => exact W.vret B.exec B.bytes (hr.trans w6.2) (fun t ht hW => ⟨⟨(), rfl, trivial, hWd t ht hW⟩, hFr t ht⟩) w4.2.2 w6.1
    | [.inl x], w6 =>
      rcases w6.2.2 with w7 | ⟨w7, w8⟩
      · exact W.iret B.exec B.bytes (hr.trans w7) (fun t ht hW => ⟨⟨_, (), rfl, ⟨rfl, w6.1⟩, hWd t ht hW⟩, hFr t ht⟩) w4.2.2 w6.2.1
      · exact W.zret B.exec B.bytes (hr.trans w7) (nar_b (G := G) w8) (fun t ht hW => ⟨⟨_, (), rfl, ⟨rfl, w6.1⟩, hWd t ht hW⟩, hFr t ht⟩) w4.2.2 w6.2.1
    | [.inr (.inl x)], w6 => exact W.lret B.exec B.bytes (hr.trans w6.2.2) (fun t ht hW => ⟨⟨_, (), rfl, ⟨rfl, w6.1⟩, hWd t ht hW⟩, hFr t ht⟩) w4.2.2 w6.2.1
    | [.inr (.inr x)], w6 => exact w6.elim
    | a :: b :: t, w6 => exact (show False from by unfold EndI at w6; rcases a with a | a | a <;> exact w6).elim
  have k := h1 hmid hnm (okL_all mid hmid hnm) hC hend h hF
  rw [pcOf0 hmid hnm] at k
  exact k
theorem sound_step {G : mGl} {l : Launch} {n : Nat} (hG : StrOK G) (hA : AdOK G) (hCl : ClOK) (hLib : LibOK) (hCh : ChP G l) (hLd : LdP G l) (hLm : LmanP G l n) (h1 : S1 G l n) : S1 G l (n + 1) := by
  have hS2 := con_of hG h1
  intro p e R s m args below meth c Q mid q r kc ks lv st M H locs ls hmid hnm hok hC hend h hF
  cases r with
  | nil => exact noEx h
  | cons en r' =>
    obtain ⟨pc, i, len, e1, e2, e3, z⟩ := en
    rw [exec_disp] at h
    obtain ⟨k1, k2, k3⟩ := okL_tail hok
    have hjp : ∀ t, GoP p l e R s m args below meth c Q G mid n q (m_seek (mcd mid) t) t := by
      intro t kc ks lv st M H locs ls hh hFF
      have kk := h1 hmid hnm (okL_seek (t := t) (okL_all mid hmid hnm)) hC hend hh hFF
      cases hs : m_seek (mcd mid) t with
      | nil => rw [hs] at hh; cases n <;> exact noEx hh
      | cons a b =>
        rw [hs] at kk
        have : pcOf (a :: b) = t := seek_head hs
        rw [this] at kk
        exact kk
    have hgo : m_term i = false → GoP p l e R s m args below meth c Q G mid n q r' (pc + len) := by
      intro ht kc ks lv st M H locs ls hh hFF
      have kk := h1 hmid hnm k2 hC hend hh hFF
      cases r' with
      | nil => cases n <;> exact noEx hh
      | cons a b =>
        have : pcOf (a :: b) = pc + len := k3 a b rfl ht
        rw [this] at kk
        exact kk
    show W p l e R s m args below meth c H locs kc ks Q (F0 m pc ls (st.map (tr G)))
    by_cases hpl : m_plain i = true
    · obtain ⟨d1, d2, d3⟩ := okE_plain hpl k1
      exact s_plain hG hA hCl hLib hCh hLd hLm hS2 hmid hC hend hpl d1 d3 (fun ht => by rw [← d2]; exact hgo ht) hjp h hF
    · cases i with
      | nop =>
        have hl : len = 0 := Nat.eq_of_beq_eq_true k1
        subst hl
        have h : m_exec n mid (r', kc, ks, m_keep e1 lv, st, M) = some q := h
        exact s_lv (kc' := 0) (ks' := 0) (hgo rfl) hF (has_sub hF.1 (fun q hq => by
          obtain ⟨a, ha, rfl⟩ := List.mem_map.mp hq
          exact List.mem_map.mpr ⟨a, keep_mem ha, rfl⟩)) (fun q hq => hF.2.1 q (keep_mem hq)) hF.2.2.1 h
      | athrow => exact noEx h
      | tableswitch d lo hi offs =>
        have hk : (decide (decode (mB mid) pc = .ok (.tableswitch d lo hi offs, len)) && decide ((pc : Int) + d = (e1 : Int)) && (mSw e2).all (fun q => decide (lo ≤ q.1 ∧ q.1 ≤ hi)) &&
          (List.range (hi - lo + 1).toNat).all (fun k => match offs[k]? with
            | some o => decide ((pc : Int) + o = ((m_sel (mSw e2) (lo + k) e1 : Nat) : Int))
            | none => false)) = true := k1
        simp only [Bool.and_eq_true, decide_eq_true_eq] at hk
        obtain ⟨⟨⟨j1, j2⟩, j3⟩, j4⟩ := hk
        rcases st with _ | ⟨(x | x | x), st⟩ <;> first | exact noEx h | skip
        have hh : m_exec n mid (m_seek (mcd mid) (m_sel (mSw e2) x e1), kc, ks, lv, st, M) = some q := h
        have kk := s_st (hjp (m_sel (mSw e2) x e1)) hF (wf_tail hF.2.2.1) hh
        have hxw : wr x = x := wf_head hF.2.2.1
        have hxi : (Int32.ofInt x).toInt = x := hxw
        by_cases hout : x < lo ∨ hi < x
        · have hso : m_sel (mSw e2) x e1 = e1 := sel_out (fun q hq hz => by
            have := of_decide_eq_true (List.all_eq_true.mp j3 q hq)
            omega)
          rw [hso] at kk
          exact lv_tableOut hC.1 hC.2.1 j1 (by rw [hxi]; exact hout) j2 kk
        · have hkk : (x - lo).toNat < (hi - lo + 1).toNat := by omega
          have h4 := List.all_eq_true.mp j4 (x - lo).toNat (List.mem_range.mpr hkk)
          cases ho : offs[(x - lo).toNat]? with
          | none => rw [ho] at h4; cases h4
          | some o =>
            rw [ho] at h4
            have h5 := of_decide_eq_true h4
            rw [show lo + (((x - lo).toNat : Nat) : Int) = x by omega] at h5
            exact lv_tableIn hC.1 hC.2.1 j1 (by rw [hxi]; omega) (by rw [hxi]; omega) (by rw [hxi]; exact ho) h5 kk
      | _ => exact absurd rfl hpl
theorem sound {G : mGl} {l : Launch} (hG : StrOK G) (hA : AdOK G) (hCl : ClOK) (hLib : LibOK) (hCh : ChP G l) (hLd : LdP G l) (hLm : ∀ n, S2 G l n → LmanP G l n) : ∀ n, S1 G l n := by
  intro n
  induction n with
  | zero => intro p e R s m args below meth c Q mid q r kc ks lv st M H locs ls _ _ _ _ _ h; exact noEx h
  | succ n ih => exact sound_step hG hA hCl hLib hCh hLd (hLm n (con_of hG ih)) ih
end
section
/-! ===== the classes' and the library's words ===== -/
def m_plc (c : Nat) : List Nat := match c with
  | 0 => [20131, 20133, 20135, 20137, 20139, 20141, 20143, 20145, 20147, 20149, 20151, 20153, 20155, 20157, 20159, 20161]
  | 1 => [10131, 10133, 10135, 10137, 10139]
  | 2 => [10166, 10168, 10170, 10172, 10174, 10176, 10178]
  | 3 => [20062, 20064, 20066, 20068, 20070, 20072, 20074, 20076, 20078]
  | 4 => [30010, 30012, 30014, 30016]
  | 5 => [20009, 20011, 20013, 20015, 20017, 20019, 20021, 20023, 20025, 20027, 20029, 20031, 20033, 20035, 20037, 20039, 20041, 20043, 20045]
  | 6 => [20218, 20220, 20222, 20224, 20226, 20228, 20230, 20232]
  | 7 => [10106, 10108, 10110, 10112, 10114, 10116, 10118, 10120]
  | 8 => [20183, 20185, 20187, 20189, 20191, 20193, 20195, 20197, 20199]
  | 9 => [30033, 30035, 30037, 30039, 30041, 30043, 30045, 30047, 30049, 30051, 30053, 30055, 30057, 30059]
  | _ => [60101, 60103, 60105, 60107, 60109, 60111, 60113, 60115, 60117, 60119, 60121, 60123, 60125, 60127, 60129, 60131, 60133, 60135, 60137, 60139, 60141, 60143, 60145, 60147, 60149, 60151, 60153, 60155, 60157, 60159, 60161, 60163, 60165, 60167, 60169, 60171, 60173, 60175, 60177, 60179, 60181, 60183, 60185, 60187, 60189, 60191, 60193, 60195, 60197, 60199, 60201, 60203, 60205, 60207, 60209, 60211, 60213, 60215, 60217, 60219, 60221, 60223, 60225, 60227, 60229, 60231, 60233, 60235, 60237, 60239, 70001, 70003, 70005, 70007, 70009, 70011, 70013, 70015, 70017, 70019, 70021, 70023, 70025, 70027, 70029]
def m_pli (c : Nat) : Nat × Nat := match c with
  | 0 => (20082, 10011)
  | 1 => (10039, 10003)
  | 2 => (10149, 10010)
  | 3 => (10033, 10002)
  | 4 => (20237, 10014)
  | 5 => (10143, 10009)
  | 6 => (20203, 10013)
  | 7 => (10045, 10004)
  | 8 => (20165, 10012)
  | 9 => (10025, 10001)
  | _ => (50228, 10015)
def m_clB (c : Nat) : Bool := (List.range (m_cl c).2.2).all (fun j => m_has ((m_plc c).getD j 0) (u_lay (m_cl c).1 (m_cl c).2.1 j)) && m_has (m_pli c).1 (.instantiable (m_cl c).1 (m_cl c).2.2) && m_has (m_pli c).2 (.initialized (m_cl c).1)
theorem clB_ok : (List.range 11).all m_clB = true := by decide +kernel
theorem cl_ok : ClOK := by
  intro c hc
  have h := List.all_eq_true.mp clB_ok c (List.mem_range.mpr hc)
  unfold m_clB at h
  simp only [Bool.and_eq_true] at h
  refine ⟨fun w hw => ?_, m_has_in h.1.2, m_has_in h.2⟩
  obtain ⟨j, hj, rfl⟩ := List.mem_map.mp (show w ∈ (List.range (m_cl c).2.2).map (u_lay (m_cl c).1 (m_cl c).2.1) from hw)
  exact m_has_in (List.all_eq_true.mp h.1.1 j hj)
theorem lib_o : Cond.instanceMethod Lib.objectInit ∈ gT ∧ Cond.code Lib.objectInit ⟨#[0xb1]⟩ 1 none ∈ gT := ⟨m_has_in (p := 10030) (by decide +kernel), m_has_in (p := 10031) (by decide +kernel)⟩
theorem lib_1000 : Cond.static (m_mY 1000).1 ∈ gT ∧ Cond.code (m_mY 1000).1 (m_mY 1000).2.1 (m_mY 1000).2.2.1 (m_mY 1000).2.2.2 ∈ gT := ⟨m_has_in (p := 40213) (by decide +kernel), m_has_in (p := 40214) (by decide +kernel)⟩
theorem lib_1001 : Cond.static (m_mY 1001).1 ∈ gT ∧ Cond.code (m_mY 1001).1 (m_mY 1001).2.1 (m_mY 1001).2.2.1 (m_mY 1001).2.2.2 ∈ gT := ⟨m_has_in (p := 30091) (by decide +kernel), m_has_in (p := 30092) (by decide +kernel)⟩
theorem lib_1002 : Cond.static (m_mY 1002).1 ∈ gT ∧ Cond.code (m_mY 1002).1 (m_mY 1002).2.1 (m_mY 1002).2.2.1 (m_mY 1002).2.2.2 ∈ gT := ⟨m_has_in (p := 40157) (by decide +kernel), m_has_in (p := 40158) (by decide +kernel)⟩
theorem lib_1003 : Cond.static (m_mY 1003).1 ∈ gT ∧ Cond.code (m_mY 1003).1 (m_mY 1003).2.1 (m_mY 1003).2.2.1 (m_mY 1003).2.2.2 ∈ gT := ⟨m_has_in (p := 40131) (by decide +kernel), m_has_in (p := 40132) (by decide +kernel)⟩
theorem lib_1004 : Cond.static (m_mY 1004).1 ∈ gT ∧ Cond.code (m_mY 1004).1 (m_mY 1004).2.1 (m_mY 1004).2.2.1 (m_mY 1004).2.2.2 ∈ gT := ⟨m_has_in (p := 40128) (by decide +kernel), m_has_in (p := 40129) (by decide +kernel)⟩
theorem lib_1005 : Cond.static (m_mY 1005).1 ∈ gT ∧ Cond.code (m_mY 1005).1 (m_mY 1005).2.1 (m_mY 1005).2.2.1 (m_mY 1005).2.2.2 ∈ gT := ⟨m_has_in (p := 40041) (by decide +kernel), m_has_in (p := 40042) (by decide +kernel)⟩
theorem lib_ok : LibOK := by
  refine ⟨lib_o, fun b h1 h2 => ?_, m_has_in (p := 10016) (by decide +kernel), m_has_in (p := 40028) (by decide +kernel), m_has_in (p := 40027) (by decide +kernel), m_has_in (p := 10022) (by decide +kernel)⟩
  rcases (by omega : b = 1000 ∨ b = 1001 ∨ b = 1002 ∨ b = 1003 ∨ b = 1004 ∨ b = 1005) with rfl | rfl | rfl | rfl | rfl | rfl
  · exact lib_1000
  · exact lib_1001
  · exact lib_1002
  · exact lib_1003
  · exact lib_1004
  · exact lib_1005
end
section
/-! ===== segments of the code (by program: wip/whole/gen_all.py) ===== -/
theorem m_call_at (k : Nat) (cs : List Nat) {m : Nat} {as : List mV} {lv : List (Nat × mV)} {M : mM} {Q : List mV → mM → Prop} (he : m_ent 0 as = lv) (h : m_wp k cs m false (mcd m, 0, 0, lv, [], M) Q) : m_Call m as M Q := by
  subst he
  exact m_wp_sound k h
set_option maxHeartbeats 4000000 in
set_option maxRecDepth 20000 in
theorem E_Day_begin {Ls p c : Nat} (hp : p = 68 ∨ p = 9) (hc : c = 28 ∨ c = 37 ∨ c = 46 ∨ c = 55) {I L : Nat → Nat → Int} {Q : List mV → mM → Prop}
    (h : m_Wp i_Day_begin 51 0 0 [(0, .inr (.inr c)), (1, .inr (.inr p)), (2, .inl 0)] [] (mem Ls p (mup (mup (mup (mup (mup (mup (mup (mup I c 8 (I p 13)) c 9 (I p 15)) c 10 0) c 11 0) c 12 (-1)) c 13 0) c 14 (I p 18)) c 15 0) L) Q) :
    m_Call i_Day_begin [.inr (.inr c), .inr (.inr p)] (mem Ls p I L) Q := by
  have he : m_ent 0 ([.inr (.inr c), .inr (.inr p)] : List mV) = [(0, .inr (.inr c)), (1, .inr (.inr p))] := rfl
  rcases hp with rfl | rfl <;> rcases hc with rfl | rfl | rfl | rfl <;> exact m_call_at 30 [51, 93] he h
set_option maxHeartbeats 4000000 in
set_option maxRecDepth 20000 in
theorem T_Day_begin_51 {Ls p c kc ks : Nat} (hp : p = 68 ∨ p = 9) (hc : c = 28 ∨ c = 37 ∨ c = 46 ∨ c = 55) {I L : Nat → Nat → Int} {x2 : Int} {Q : List mV → mM → Prop}
    (h : (((I c 8) ≤ x2 →
    m_Wp i_Day_begin 93 kc ks [(0, .inr (.inr c)), (1, .inr (.inr p)), (2, .inl 0)] [] (mem Ls p I L) Q) ∧
   (¬ ((I c 8) ≤ x2) →
    (0 ≤ x2 ∧ x2 < 6) ∧
    (0 ≤ x2 ∧ x2 < 6) ∧
    (0 ≤ x2 ∧ x2 < 6) ∧
    (0 ≤ x2 ∧ x2 < 6) ∧
    m_Wp i_Day_begin 51 kc ks [(0, .inr (.inr c)), (1, .inr (.inr p)), (2, .inl (wr (x2 + 1)))] [] (mem Ls p (mup (mup (mup I (c + 1) (Int.toNat x2) (I (p + 4) (Int.toNat x2))) (c + 2) (Int.toNat x2) 0) (c + 3) (Int.toNat x2) 0) L) Q))) :
    m_Wp i_Day_begin 51 kc ks [(0, .inr (.inr c)), (1, .inr (.inr p)), (2, .inl x2)] [] (mem Ls p I L) Q := by
  rcases hp with rfl | rfl <;> rcases hc with rfl | rfl | rfl | rfl <;> exact m_wp_of 26 [51, 93] h
set_option maxHeartbeats 4000000 in
set_option maxRecDepth 20000 in
theorem T_Day_begin_93 {Ls p c kc ks : Nat} (hp : p = 68 ∨ p = 9) (hc : c = 28 ∨ c = 37 ∨ c = 46 ∨ c = 55) {I L : Nat → Nat → Int} {x2 : Int} {Q : List mV → mM → Prop}
    (h : (((I c 9) ≤ x2 →
    Q [] (mem Ls p I L)) ∧
   (¬ ((I c 9) ≤ x2) →
    (0 ≤ x2 ∧ x2 < 6) ∧
    (0 ≤ x2 ∧ x2 < 6) ∧
    (0 ≤ x2 ∧ x2 < 6) ∧
    (0 ≤ x2 ∧ x2 < 6) ∧
    (0 ≤ x2 ∧ x2 < 6) ∧
    m_Wp i_Day_begin 93 kc ks [(0, .inr (.inr c)), (1, .inr (.inr p)), (2, .inl (wr (x2 + 1)))] [] (mem Ls p (mup (mup (mup (mup I (c + 5) (Int.toNat x2) (I (p + 10) (Int.toNat x2))) (c + 6) (Int.toNat x2) (-1)) (c + 7) (Int.toNat x2) (-1)) (c + 8) (Int.toNat x2) 0) L) Q))) :
    m_Wp i_Day_begin 93 kc ks [(0, .inr (.inr c)), (1, .inr (.inr p)), (2, .inl x2)] [] (mem Ls p I L) Q := by
  rcases hp with rfl | rfl <;> rcases hc with rfl | rfl | rfl | rfl <;> exact m_wp_of 31 [51, 93] h
set_option maxHeartbeats 4000000 in
set_option maxRecDepth 20000 in
theorem E_Day_placeOf {Ls p c : Nat} (hc : c = 28 ∨ c = 37 ∨ c = 46 ∨ c = 55) {I L : Nat → Nat → Int} {a0 : Int} {Q : List mV → mM → Prop}
    (h : m_Wp i_Day_placeOf 2 0 0 [(0, .inr (.inr c)), (1, .inl a0), (2, .inl 0)] [] (mem Ls p I L) Q) :
    m_Call i_Day_placeOf [.inr (.inr c), .inl a0] (mem Ls p I L) Q := by
  have he : m_ent 0 ([.inr (.inr c), .inl a0] : List mV) = [(0, .inr (.inr c)), (1, .inl a0)] := rfl
  skip <;> rcases hc with rfl | rfl | rfl | rfl <;> exact m_call_at 3 [2] he h
set_option maxHeartbeats 4000000 in
set_option maxRecDepth 20000 in
theorem T_Day_placeOf_2 {Ls p c kc ks : Nat} (hc : c = 28 ∨ c = 37 ∨ c = 46 ∨ c = 55) {I L : Nat → Nat → Int} {x1 x2 : Int} {Q : List mV → mM → Prop}
    (h : (((I c 11) ≤ x2 →
    Q [.inl (-1)] (mem Ls p I L)) ∧
   (¬ ((I c 11) ≤ x2) →
    (0 ≤ x2 ∧ x2 < 20) ∧
    ((¬ (I (c + 4) (Int.toNat x2)) = x1 →
      m_Wp i_Day_placeOf 2 kc ks [(0, .inr (.inr c)), (1, .inl x1), (2, .inl (wr (x2 + 1)))] [] (mem Ls p I L) Q) ∧
     (¬ (¬ (I (c + 4) (Int.toNat x2)) = x1) →
      Q [.inl x2] (mem Ls p I L)))))) :
    m_Wp i_Day_placeOf 2 kc ks [(0, .inr (.inr c)), (1, .inl x1), (2, .inl x2)] [] (mem Ls p I L) Q := by
  skip <;> rcases hc with rfl | rfl | rfl | rfl <;> exact m_wp_of 14 [2] h
set_option maxHeartbeats 4000000 in
set_option maxRecDepth 20000 in
theorem E_Day_modeOf {Ls p c : Nat} (hc : c = 28 ∨ c = 37 ∨ c = 46 ∨ c = 55) {I L : Nat → Nat → Int} {a0 : Int} {Q : List mV → mM → Prop}
    (h : ((¬ (I c 12) = a0 →
    m_Call i_Day_placeOf [.inr (.inr c), .inl a0] (mem Ls p I L) (fun v M' =>
      m_Wp i_Day_modeOf 15 0 0 [(0, .inr (.inr c)), (1, .inl a0)] (v ++ []) M' Q)) ∧
   (¬ (¬ (I c 12) = a0) →
    Q [.inl 2] (mem Ls p I L)))) :
    m_Call i_Day_modeOf [.inr (.inr c), .inl a0] (mem Ls p I L) Q := by
  have he : m_ent 0 ([.inr (.inr c), .inl a0] : List mV) = [(0, .inr (.inr c)), (1, .inl a0)] := rfl
  skip <;> rcases hc with rfl | rfl | rfl | rfl <;> exact m_call_at 7 [] he h
set_option maxHeartbeats 4000000 in
set_option maxRecDepth 20000 in
theorem T_Day_modeOf_15 {Ls p c kc ks : Nat} (hc : c = 28 ∨ c = 37 ∨ c = 46 ∨ c = 55) {I L : Nat → Nat → Int} {x1 y0 : Int} {Q : List mV → mM → Prop}
    (h : ((¬ y0 = (-1) →
    Q [.inl 1] (mem Ls p I L)) ∧
   (¬ (¬ y0 = (-1)) →
    Q [.inl 0] (mem Ls p I L)))) :
    m_Wp i_Day_modeOf 15 kc ks [(0, .inr (.inr c)), (1, .inl x1)] [.inl y0] (mem Ls p I L) Q := by
  skip <;> rcases hc with rfl | rfl | rfl | rfl <;> exact m_wp_of 6 [] h
set_option maxHeartbeats 4000000 in
set_option maxRecDepth 20000 in
theorem E_Day_takesIn {Ls p c : Nat} (hc : c = 28 ∨ c = 37 ∨ c = 46 ∨ c = 55) {I L : Nat → Nat → Int} {a0 : Int} {Q : List mV → mM → Prop}
    (h : (((20 : Int) ≤ (I c 11) →
    ((0 : Int) = 0 ∨ (0 : Int) = 1) ∧
    Q [.inl 0] (mem Ls p I L)) ∧
   (¬ ((20 : Int) ≤ (I c 11)) →
    m_Call i_Day_modeOf [.inr (.inr c), .inl a0] (mem Ls p I L) (fun v M' =>
      m_Wp i_Day_takesIn 14 0 0 [(0, .inr (.inr c)), (1, .inl a0)] (v ++ []) M' Q)))) :
    m_Call i_Day_takesIn [.inr (.inr c), .inl a0] (mem Ls p I L) Q := by
  have he : m_ent 0 ([.inr (.inr c), .inl a0] : List mV) = [(0, .inr (.inr c)), (1, .inl a0)] := rfl
  skip <;> rcases hc with rfl | rfl | rfl | rfl <;> exact m_call_at 7 [] he h
set_option maxHeartbeats 4000000 in
set_option maxRecDepth 20000 in
theorem T_Day_takesIn_14 {Ls p c kc ks : Nat} (hc : c = 28 ∨ c = 37 ∨ c = 46 ∨ c = 55) {I L : Nat → Nat → Int} {x1 y0 : Int} {Q : List mV → mM → Prop}
    (h : ((y0 = (0 : Int) →
    ((¬ (I c 12) = (-1) →
      (0 ≤ x1 ∧ x1 < 6) ∧
      (0 ≤ (I c 11) ∧ (I c 11) < 20) ∧
      ((1 : Int) = 0 ∨ (1 : Int) = 1) ∧
      Q [.inl 1] (mem Ls p (mup (mup (mup I (c + 2) (Int.toNat x1) (wr ((I c 11) + 1))) (c + 4) (Int.toNat (I c 11)) x1) c 11 (wr ((I c 11) + 1))) L)) ∧
     (¬ (¬ (I c 12) = (-1)) →
      (0 ≤ x1 ∧ x1 < 6) ∧
      (0 ≤ (I c 11) ∧ (I c 11) < 20) ∧
      ((1 : Int) = 0 ∨ (1 : Int) = 1) ∧
      Q [.inl 1] (mem Ls p (mup (mup (mup I (c + 2) (Int.toNat x1) (I c 11)) (c + 4) (Int.toNat (I c 11)) x1) c 11 (wr ((I c 11) + 1))) L)))) ∧
   (¬ (y0 = (0 : Int)) →
    ((0 : Int) = 0 ∨ (0 : Int) = 1) ∧
    Q [.inl 0] (mem Ls p I L)))) :
    m_Wp i_Day_takesIn 14 kc ks [(0, .inr (.inr c)), (1, .inl x1)] [.inl y0] (mem Ls p I L) Q := by
  skip <;> rcases hc with rfl | rfl | rfl | rfl <;> exact m_wp_of 28 [] h
set_option maxHeartbeats 4000000 in
set_option maxRecDepth 20000 in
theorem E_Day_takeOut {Ls p c : Nat} (hc : c = 28 ∨ c = 37 ∨ c = 46 ∨ c = 55) {I L : Nat → Nat → Int} {a0 : Int} {Q : List mV → mM → Prop}
    (h : ((a0 < (0 : Int) →
    Q [] (mem Ls p I L)) ∧
   (¬ (a0 < (0 : Int)) →
    ((a0 < (I c 11) →
      m_Wp i_Day_takeOut 15 0 0 [(0, .inr (.inr c)), (2, .inl a0)] [] (mem Ls p I L) Q) ∧
     (¬ (a0 < (I c 11)) →
      Q [] (mem Ls p I L)))))) :
    m_Call i_Day_takeOut [.inr (.inr c), .inl a0] (mem Ls p I L) Q := by
  have he : m_ent 0 ([.inr (.inr c), .inl a0] : List mV) = [(0, .inr (.inr c)), (1, .inl a0)] := rfl
  skip <;> rcases hc with rfl | rfl | rfl | rfl <;> exact m_call_at 9 [15] he h
set_option maxHeartbeats 4000000 in
set_option maxRecDepth 20000 in
theorem T_Day_takeOut_15 {Ls p c kc ks : Nat} (hc : c = 28 ∨ c = 37 ∨ c = 46 ∨ c = 55) {I L : Nat → Nat → Int} {x2 : Int} {Q : List mV → mM → Prop}
    (h : (((wr ((I c 11) - 1)) ≤ x2 →
    Q [] (mem Ls p (mup I c 11 (wr ((I c 11) - 1))) L)) ∧
   (¬ ((wr ((I c 11) - 1)) ≤ x2) →
    (0 ≤ (wr (x2 + 1)) ∧ (wr (x2 + 1)) < 20) ∧
    (0 ≤ x2 ∧ x2 < 20) ∧
    m_Wp i_Day_takeOut 15 kc ks [(0, .inr (.inr c)), (2, .inl (wr (x2 + 1)))] [] (mem Ls p (mup I (c + 4) (Int.toNat x2) (I (c + 4) (Int.toNat (wr (x2 + 1))))) L) Q))) :
    m_Wp i_Day_takeOut 15 kc ks [(0, .inr (.inr c)), (2, .inl x2)] [] (mem Ls p I L) Q := by
  skip <;> rcases hc with rfl | rfl | rfl | rfl <;> exact m_wp_of 20 [15] h
set_option maxHeartbeats 4000000 in
set_option maxRecDepth 20000 in
theorem E_Day_isOneThere {Ls p c : Nat} (hc : c = 28 ∨ c = 37 ∨ c = 46 ∨ c = 55) {I L : Nat → Nat → Int} {a0 : Int} {Q : List mV → mM → Prop}
    (h : (0 ≤ a0 ∧ a0 < 6) ∧
  ((¬ (I (c + 6) (Int.toNat a0)) = (-1) →
    ((1 : Int) = 0 ∨ (1 : Int) = 1) ∧
    Q [.inl 1] (mem Ls p I L)) ∧
   (¬ (¬ (I (c + 6) (Int.toNat a0)) = (-1)) →
    (0 ≤ a0 ∧ a0 < 6) ∧
    (((I (c + 7) (Int.toNat a0)) = (-1) →
      ((0 : Int) = 0 ∨ (0 : Int) = 1) ∧
      Q [.inl 0] (mem Ls p I L)) ∧
     (¬ ((I (c + 7) (Int.toNat a0)) = (-1)) →
      ((1 : Int) = 0 ∨ (1 : Int) = 1) ∧
      Q [.inl 1] (mem Ls p I L)))))) :
    m_Call i_Day_isOneThere [.inr (.inr c), .inl a0] (mem Ls p I L) Q := by
  have he : m_ent 0 ([.inr (.inr c), .inl a0] : List mV) = [(0, .inr (.inr c)), (1, .inl a0)] := rfl
  skip <;> rcases hc with rfl | rfl | rfl | rfl <;> exact m_call_at 17 [] he h
set_option maxHeartbeats 4000000 in
set_option maxRecDepth 20000 in
theorem E_Day_drawNumber {Ls p c : Nat} (hc : c = 28 ∨ c = 37 ∨ c = 46 ∨ c = 55) {I L : Nat → Nat → Int} {Q : List mV → mM → Prop}
    (h : (¬ (65536 : Int) = (0 : Int)) ∧
  Q [.inl (wr (Int.tdiv (m_and (wr ((wr ((I c 14) * 1103515245)) + 12345)) 2147483647) 65536))] (mem Ls p (mup I c 14 (m_and (wr ((wr ((I c 14) * 1103515245)) + 12345)) 2147483647)) L)) :
    m_Call i_Day_drawNumber [.inr (.inr c)] (mem Ls p I L) Q := by
  have he : m_ent 0 ([.inr (.inr c)] : List mV) = [(0, .inr (.inr c))] := rfl
  skip <;> rcases hc with rfl | rfl | rfl | rfl <;> exact m_call_at 15 [] he h
set_option maxHeartbeats 4000000 in
set_option maxRecDepth 20000 in
theorem E_Day_takesStranger {Ls p c : Nat} (hc : c = 28 ∨ c = 37 ∨ c = 46 ∨ c = 55) {I L : Nat → Nat → Int} {Q : List mV → mM → Prop}
    (h : (((20 : Int) ≤ (I c 11) →
    Q [] (mem Ls p (mup I c 15 (wr ((I c 15) + 1))) L)) ∧
   (¬ ((20 : Int) ≤ (I c 11)) →
    (0 ≤ (I c 11) ∧ (I c 11) < 20) ∧
    Q [] (mem Ls p (mup (mup (mup I c 15 (wr ((I c 15) + 1))) (c + 4) (Int.toNat (I c 11)) (-2)) c 11 (wr ((I c 11) + 1))) L)))) :
    m_Call i_Day_takesStranger [.inr (.inr c)] (mem Ls p I L) Q := by
  have he : m_ent 0 ([.inr (.inr c)] : List mV) = [(0, .inr (.inr c))] := rfl
  skip <;> rcases hc with rfl | rfl | rfl | rfl <;> exact m_call_at 24 [] he h
set_option maxHeartbeats 4000000 in
set_option maxRecDepth 20000 in
theorem E_Day_copy {Ls p c d : Nat} (hcd : (c = 46 ∧ d = 28) ∨ (c = 55 ∧ d = 28) ∨ (c = 46 ∧ d = 55) ∨ (c = 37 ∧ d = 28) ∨ (c = 28 ∧ d = 37)) {I L : Nat → Nat → Int} {Q : List mV → mM → Prop}
    (h : ((0 ≤ (6 : Int) ∧ (6 : Int) ≤ 6) ∧ ((6 : Int) ≤ 6 ∧ ((Int.natAbs 0 : Nat) : Int) + ((Int.natAbs 0 : Nat) : Int) = 0)) ∧
  ((0 ≤ (6 : Int) ∧ (6 : Int) ≤ 6) ∧ ((6 : Int) ≤ 6 ∧ ((Int.natAbs 0 : Nat) : Int) + ((Int.natAbs 0 : Nat) : Int) = 0)) ∧
  ((0 ≤ (6 : Int) ∧ (6 : Int) ≤ 6) ∧ ((6 : Int) ≤ 6 ∧ ((Int.natAbs 0 : Nat) : Int) + ((Int.natAbs 0 : Nat) : Int) = 0)) ∧
  ((0 ≤ (20 : Int) ∧ (20 : Int) ≤ 20) ∧ ((20 : Int) ≤ 20 ∧ ((Int.natAbs 0 : Nat) : Int) + ((Int.natAbs 0 : Nat) : Int) = 0)) ∧
  ((0 ≤ (6 : Int) ∧ (6 : Int) ≤ 6) ∧ ((6 : Int) ≤ 6 ∧ ((Int.natAbs 0 : Nat) : Int) + ((Int.natAbs 0 : Nat) : Int) = 0)) ∧
  ((0 ≤ (6 : Int) ∧ (6 : Int) ≤ 6) ∧ ((6 : Int) ≤ 6 ∧ ((Int.natAbs 0 : Nat) : Int) + ((Int.natAbs 0 : Nat) : Int) = 0)) ∧
  ((0 ≤ (6 : Int) ∧ (6 : Int) ≤ 6) ∧ ((6 : Int) ≤ 6 ∧ ((Int.natAbs 0 : Nat) : Int) + ((Int.natAbs 0 : Nat) : Int) = 0)) ∧
  ((0 ≤ (6 : Int) ∧ (6 : Int) ≤ 6) ∧ ((6 : Int) ≤ 6 ∧ ((Int.natAbs 0 : Nat) : Int) + ((Int.natAbs 0 : Nat) : Int) = 0)) ∧
  Q [] (mem Ls p (mcpy (mcpy (mcpy (mcpy (mcpy (mcpy (mcpy (mcpy (mup (mup (mup (mup (mup (mup (mup (mup I c 8 (I d 8)) c 9 (I d 9)) c 10 (I d 10)) c 11 (I d 11)) c 12 (I d 12)) c 13 (I d 13)) c 14 (I d 14)) c 15 (I d 15)) (d + 1) (c + 1) (Int.toNat 6)) (d + 2) (c + 2) (Int.toNat 6)) (d + 3) (c + 3) (Int.toNat 6)) (d + 4) (c + 4) (Int.toNat 20)) (d + 5) (c + 5) (Int.toNat 6)) (d + 6) (c + 6) (Int.toNat 6)) (d + 7) (c + 7) (Int.toNat 6)) (d + 8) (c + 8) (Int.toNat 6)) L)) :
    m_Call i_Day_copy [.inr (.inr c), .inr (.inr d)] (mem Ls p I L) Q := by
  have he : m_ent 0 ([.inr (.inr c), .inr (.inr d)] : List mV) = [(0, .inr (.inr c)), (1, .inr (.inr d))] := rfl
  rcases hcd with ⟨rfl, rfl⟩ | ⟨rfl, rfl⟩ | ⟨rfl, rfl⟩ | ⟨rfl, rfl⟩ | ⟨rfl, rfl⟩ <;> exact m_call_at 97 [] he h
set_option maxHeartbeats 4000000 in
set_option maxRecDepth 20000 in
theorem E_Day_howMany {Ls p c : Nat} (hc : c = 28 ∨ c = 37 ∨ c = 46 ∨ c = 55) {I L : Nat → Nat → Int} {a0 : Int} {Q : List mV → mM → Prop}
    (h : m_Wp i_Day_howMany 4 0 0 [(0, .inr (.inr c)), (1, .inl a0), (2, .inl 0), (3, .inl 0)] [] (mem Ls p I L) Q) :
    m_Call i_Day_howMany [.inr (.inr c), .inl a0] (mem Ls p I L) Q := by
  have he : m_ent 0 ([.inr (.inr c), .inl a0] : List mV) = [(0, .inr (.inr c)), (1, .inl a0)] := rfl
  skip <;> rcases hc with rfl | rfl | rfl | rfl <;> exact m_call_at 5 [4] he h
set_option maxHeartbeats 4000000 in
set_option maxRecDepth 20000 in
theorem T_Day_howMany_4 {Ls p c kc ks : Nat} (hc : c = 28 ∨ c = 37 ∨ c = 46 ∨ c = 55) {I L : Nat → Nat → Int} {x1 x2 x3 : Int} {Q : List mV → mM → Prop}
    (h : (((I c 9) ≤ x3 →
    Q [.inl x2] (mem Ls p I L)) ∧
   (¬ ((I c 9) ≤ x3) →
    (0 ≤ x3 ∧ x3 < 6) ∧
    ((¬ (I (c + 8) (Int.toNat x3)) = x1 →
      m_Wp i_Day_howMany 4 kc ks [(0, .inr (.inr c)), (1, .inl x1), (2, .inl x2), (3, .inl (wr (x3 + 1)))] [] (mem Ls p I L) Q) ∧
     (¬ (¬ (I (c + 8) (Int.toNat x3)) = x1) →
      m_Wp i_Day_howMany 4 kc ks [(0, .inr (.inr c)), (1, .inl x1), (2, .inl (wr (x2 + 1))), (3, .inl (wr (x3 + 1)))] [] (mem Ls p I L) Q))))) :
    m_Wp i_Day_howMany 4 kc ks [(0, .inr (.inr c)), (1, .inl x1), (2, .inl x2), (3, .inl x3)] [] (mem Ls p I L) Q := by
  skip <;> rcases hc with rfl | rfl | rfl | rfl <;> exact m_wp_of 16 [4] h
set_option maxHeartbeats 4000000 in
set_option maxRecDepth 20000 in
theorem E_Day_spread {Ls p c : Nat} (hc : c = 28 ∨ c = 37 ∨ c = 46 ∨ c = 55) {I L : Nat → Nat → Int} {a0 : Int} {Q : List mV → mM → Prop}
    (h : m_Wp i_Day_spread 10 0 0 [(0, .inr (.inr c)), (1, .inl a0), (2, .inl 0), (3, .inl 0), (4, .inl 0), (5, .inl 0)] [] (mem Ls p I L) Q) :
    m_Call i_Day_spread [.inr (.inr c), .inl a0] (mem Ls p I L) Q := by
  have he : m_ent 0 ([.inr (.inr c), .inl a0] : List mV) = [(0, .inr (.inr c)), (1, .inl a0)] := rfl
  skip <;> rcases hc with rfl | rfl | rfl | rfl <;> exact m_call_at 9 [10] he h
set_option maxHeartbeats 4000000 in
set_option maxRecDepth 20000 in
theorem T_Day_spread_10 {Ls p c kc ks : Nat} (hc : c = 28 ∨ c = 37 ∨ c = 46 ∨ c = 55) {I L : Nat → Nat → Int} {x1 x2 x3 x4 x5 : Int} {Q : List mV → mM → Prop}
    (h : (((I c 8) ≤ x5 →
    Q [.inl (wr (x4 - x3))] (mem Ls p I L)) ∧
   (¬ ((I c 8) ≤ x5) →
    ((¬ (m_and (m_shr x1 x5) 1) = (1 : Int) →
      m_Wp i_Day_spread 10 kc ks [(0, .inr (.inr c)), (1, .inl x1), (2, .inl x2), (3, .inl x3), (4, .inl x4), (5, .inl (wr (x5 + 1)))] [] (mem Ls p I L) Q) ∧
     (¬ (¬ (m_and (m_shr x1 x5) 1) = (1 : Int)) →
      ((x2 = (0 : Int) →
        (0 ≤ x5 ∧ x5 < 6) ∧
        ((x2 = (0 : Int) →
          (0 ≤ x5 ∧ x5 < 6) ∧
          m_Wp i_Day_spread 10 kc ks [(0, .inr (.inr c)), (1, .inl x1), (2, .inl 1), (3, .inl (I (c + 1) (Int.toNat x5))), (4, .inl (I (c + 1) (Int.toNat x5))), (5, .inl (wr (x5 + 1)))] [] (mem Ls p I L) Q) ∧
         (¬ (x2 = (0 : Int)) →
          (0 ≤ x5 ∧ x5 < 6) ∧
          m_Wp i_Day_spread 10 kc ks [(0, .inr (.inr c)), (1, .inl x1), (2, .inl 1), (3, .inl (I (c + 1) (Int.toNat x5))), (4, .inl (m_max x4 (I (c + 1) (Int.toNat x5)))), (5, .inl (wr (x5 + 1)))] [] (mem Ls p I L) Q))) ∧
       (¬ (x2 = (0 : Int)) →
        (0 ≤ x5 ∧ x5 < 6) ∧
        ((x2 = (0 : Int) →
          (0 ≤ x5 ∧ x5 < 6) ∧
          m_Wp i_Day_spread 10 kc ks [(0, .inr (.inr c)), (1, .inl x1), (2, .inl 1), (3, .inl (m_min x3 (I (c + 1) (Int.toNat x5)))), (4, .inl (I (c + 1) (Int.toNat x5))), (5, .inl (wr (x5 + 1)))] [] (mem Ls p I L) Q) ∧
         (¬ (x2 = (0 : Int)) →
          (0 ≤ x5 ∧ x5 < 6) ∧
          m_Wp i_Day_spread 10 kc ks [(0, .inr (.inr c)), (1, .inl x1), (2, .inl 1), (3, .inl (m_min x3 (I (c + 1) (Int.toNat x5)))), (4, .inl (m_max x4 (I (c + 1) (Int.toNat x5)))), (5, .inl (wr (x5 + 1)))] [] (mem Ls p I L) Q))))))))) :
    m_Wp i_Day_spread 10 kc ks [(0, .inr (.inr c)), (1, .inl x1), (2, .inl x2), (3, .inl x3), (4, .inl x4), (5, .inl x5)] [] (mem Ls p I L) Q := by
  skip <;> rcases hc with rfl | rfl | rfl | rfl <;> exact m_wp_of 40 [10] h
set_option maxHeartbeats 4000000 in
set_option maxRecDepth 20000 in
theorem E_Day_howManySlower {Ls p c : Nat} (hc : c = 28 ∨ c = 37 ∨ c = 46 ∨ c = 55) {I L : Nat → Nat → Int} {a0 : Int} {Q : List mV → mM → Prop}
    (h : m_Wp i_Day_howManySlower 4 0 0 [(0, .inr (.inr c)), (1, .inl a0), (2, .inl 0), (3, .inl 0)] [] (mem Ls p I L) Q) :
    m_Call i_Day_howManySlower [.inr (.inr c), .inl a0] (mem Ls p I L) Q := by
  have he : m_ent 0 ([.inr (.inr c), .inl a0] : List mV) = [(0, .inr (.inr c)), (1, .inl a0)] := rfl
  skip <;> rcases hc with rfl | rfl | rfl | rfl <;> exact m_call_at 5 [4] he h
set_option maxHeartbeats 4000000 in
set_option maxRecDepth 20000 in
theorem T_Day_howManySlower_4 {Ls p c kc ks : Nat} (hc : c = 28 ∨ c = 37 ∨ c = 46 ∨ c = 55) {I L : Nat → Nat → Int} {x1 x2 x3 : Int} {Q : List mV → mM → Prop}
    (h : (((I c 8) ≤ x3 →
    Q [.inl x2] (mem Ls p I L)) ∧
   (¬ ((I c 8) ≤ x3) →
    (0 ≤ x3 ∧ x3 < 6) ∧
    (0 ≤ x1 ∧ x1 < 6) ∧
    (((I (c + 1) (Int.toNat x3)) < (I (c + 1) (Int.toNat x1)) →
      m_Wp i_Day_howManySlower 4 kc ks [(0, .inr (.inr c)), (1, .inl x1), (2, .inl (wr (x2 + 1))), (3, .inl (wr (x3 + 1)))] [] (mem Ls p I L) Q) ∧
     (¬ ((I (c + 1) (Int.toNat x3)) < (I (c + 1) (Int.toNat x1))) →
      (0 ≤ x3 ∧ x3 < 6) ∧
      (0 ≤ x1 ∧ x1 < 6) ∧
      ((¬ (I (c + 1) (Int.toNat x3)) = (I (c + 1) (Int.toNat x1)) →
        m_Wp i_Day_howManySlower 4 kc ks [(0, .inr (.inr c)), (1, .inl x1), (2, .inl x2), (3, .inl (wr (x3 + 1)))] [] (mem Ls p I L) Q) ∧
       (¬ (¬ (I (c + 1) (Int.toNat x3)) = (I (c + 1) (Int.toNat x1))) →
        ((x1 ≤ x3 →
          m_Wp i_Day_howManySlower 4 kc ks [(0, .inr (.inr c)), (1, .inl x1), (2, .inl x2), (3, .inl (wr (x3 + 1)))] [] (mem Ls p I L) Q) ∧
         (¬ (x1 ≤ x3) →
          m_Wp i_Day_howManySlower 4 kc ks [(0, .inr (.inr c)), (1, .inl x1), (2, .inl (wr (x2 + 1))), (3, .inl (wr (x3 + 1)))] [] (mem Ls p I L) Q))))))))) :
    m_Wp i_Day_howManySlower 4 kc ks [(0, .inr (.inr c)), (1, .inl x1), (2, .inl x2), (3, .inl x3)] [] (mem Ls p I L) Q := by
  skip <;> rcases hc with rfl | rfl | rfl | rfl <;> exact m_wp_of 32 [4] h
set_option maxHeartbeats 4000000 in
set_option maxRecDepth 20000 in
theorem E_Day_putIn {Ls p c : Nat} (hc : c = 28 ∨ c = 37 ∨ c = 46 ∨ c = 55) {I L : Nat → Nat → Int} {a0 a1 : Int} {Q : List mV → mM → Prop}
    (h : ((a0 < (0 : Int) →
    Q [] (mem Ls p I L)) ∧
   (¬ (a0 < (0 : Int)) →
    (((I c 11) < a0 →
      Q [] (mem Ls p I L)) ∧
     (¬ ((I c 11) < a0) →
      (((I c 11) < (20 : Int) →
        m_Wp i_Day_putIn 27 0 0 [(0, .inr (.inr c)), (1, .inl a0), (2, .inl a1), (3, .inl (I c 11))] [] (mem Ls p I L) Q) ∧
       (¬ ((I c 11) < (20 : Int)) →
        Q [] (mem Ls p I L)))))))) :
    m_Call i_Day_putIn [.inr (.inr c), .inl a0, .inl a1] (mem Ls p I L) Q := by
  have he : m_ent 0 ([.inr (.inr c), .inl a0, .inl a1] : List mV) = [(0, .inr (.inr c)), (1, .inl a0), (2, .inl a1)] := rfl
  skip <;> rcases hc with rfl | rfl | rfl | rfl <;> exact m_call_at 14 [27] he h
set_option maxHeartbeats 4000000 in
set_option maxRecDepth 20000 in
theorem T_Day_putIn_27 {Ls p c kc ks : Nat} (hc : c = 28 ∨ c = 37 ∨ c = 46 ∨ c = 55) {I L : Nat → Nat → Int} {x1 x2 x3 : Int} {Q : List mV → mM → Prop}
    (h : ((x3 ≤ x1 →
    (0 ≤ x1 ∧ x1 < 20) ∧
    Q [] (mem Ls p (mup (mup I (c + 4) (Int.toNat x1) x2) c 11 (wr ((I c 11) + 1))) L)) ∧
   (¬ (x3 ≤ x1) →
    (0 ≤ (wr (x3 - 1)) ∧ (wr (x3 - 1)) < 20) ∧
    (0 ≤ x3 ∧ x3 < 20) ∧
    m_Wp i_Day_putIn 27 kc ks [(0, .inr (.inr c)), (1, .inl x1), (2, .inl x2), (3, .inl (wr (x3 + (-1))))] [] (mem Ls p (mup I (c + 4) (Int.toNat x3) (I (c + 4) (Int.toNat (wr (x3 - 1))))) L) Q))) :
    m_Wp i_Day_putIn 27 kc ks [(0, .inr (.inr c)), (1, .inl x1), (2, .inl x2), (3, .inl x3)] [] (mem Ls p I L) Q := by
  skip <;> rcases hc with rfl | rfl | rfl | rfl <;> exact m_wp_of 17 [27] h
set_option maxHeartbeats 4000000 in
set_option maxRecDepth 20000 in
theorem E_Day_toldInAll {Ls p c : Nat} (hc : c = 28 ∨ c = 37 ∨ c = 46 ∨ c = 55) {I L : Nat → Nat → Int} {Q : List mV → mM → Prop}
    (h : m_Wp i_Day_toldInAll 4 0 0 [(0, .inr (.inr c)), (1, .inl 0), (2, .inl 0)] [] (mem Ls p I L) Q) :
    m_Call i_Day_toldInAll [.inr (.inr c)] (mem Ls p I L) Q := by
  have he : m_ent 0 ([.inr (.inr c)] : List mV) = [(0, .inr (.inr c))] := rfl
  skip <;> rcases hc with rfl | rfl | rfl | rfl <;> exact m_call_at 5 [4] he h
set_option maxHeartbeats 4000000 in
set_option maxRecDepth 20000 in
theorem T_Day_toldInAll_4 {Ls p c kc ks : Nat} (hc : c = 28 ∨ c = 37 ∨ c = 46 ∨ c = 55) {I L : Nat → Nat → Int} {x1 x2 : Int} {Q : List mV → mM → Prop}
    (h : (((I c 8) ≤ x2 →
    Q [.inl x1] (mem Ls p I L)) ∧
   (¬ ((I c 8) ≤ x2) →
    (0 ≤ x2 ∧ x2 < 6) ∧
    m_Wp i_Day_toldInAll 4 kc ks [(0, .inr (.inr c)), (1, .inl (wr (x1 + (I (c + 3) (Int.toNat x2))))), (2, .inl (wr (x2 + 1)))] [] (mem Ls p I L) Q))) :
    m_Wp i_Day_toldInAll 4 kc ks [(0, .inr (.inr c)), (1, .inl x1), (2, .inl x2)] [] (mem Ls p I L) Q := by
  skip <;> rcases hc with rfl | rfl | rfl | rfl <;> exact m_wp_of 15 [4] h
end
section
/-! ===== segments of the code (by program: wip/whole/gen_all.py) ===== -/
theorem m_call_at (k : Nat) (cs : List Nat) {m : Nat} {as : List mV} {lv : List (Nat × mV)} {M : mM} {Q : List mV → mM → Prop} (he : m_ent 0 as = lv) (h : m_wp k cs m false (mcd m, 0, 0, lv, [], M) Q) : m_Call m as M Q := by
  subst he
  exact m_wp_sound k h
set_option maxHeartbeats 4000000 in
set_option maxRecDepth 20000 in
theorem E_Day_putIn {Ls p c : Nat} (hc : c = 28 ∨ c = 37 ∨ c = 46 ∨ c = 55) {I L : Nat → Nat → Int} {a0 a1 : Int} {Q : List mV → mM → Prop}
    (h : ((a0 < (0 : Int) →
    Q [] (mem Ls p I L)) ∧
   (¬ (a0 < (0 : Int)) →
    (((I c 11) < a0 →
      Q [] (mem Ls p I L)) ∧
     (¬ ((I c 11) < a0) →
      (((I c 11) < (20 : Int) →
        m_Wp i_Day_putIn 27 0 0 [(0, .inr (.inr c)), (1, .inl a0), (2, .inl a1), (3, .inl (I c 11))] [] (mem Ls p I L) Q) ∧
       (¬ ((I c 11) < (20 : Int)) →
        Q [] (mem Ls p I L)))))))) :
    m_Call i_Day_putIn [.inr (.inr c), .inl a0, .inl a1] (mem Ls p I L) Q := by
  have he : m_ent 0 ([.inr (.inr c), .inl a0, .inl a1] : List mV) = [(0, .inr (.inr c)), (1, .inl a0), (2, .inl a1)] := rfl
  skip <;> rcases hc with rfl | rfl | rfl | rfl <;> exact m_call_at 14 [27] he h
set_option maxHeartbeats 4000000 in
set_option maxRecDepth 20000 in
theorem T_Day_putIn_27 {Ls p c kc ks : Nat} (hc : c = 28 ∨ c = 37 ∨ c = 46 ∨ c = 55) {I L : Nat → Nat → Int} {x1 x2 x3 : Int} {Q : List mV → mM → Prop}
    (h : ((x3 ≤ x1 →
    (0 ≤ x1 ∧ x1 < 20) ∧
    Q [] (mem Ls p (mup (mup I (c + 4) (Int.toNat x1) x2) c 11 (wr ((I c 11) + 1))) L)) ∧
   (¬ (x3 ≤ x1) →
    (0 ≤ (wr (x3 - 1)) ∧ (wr (x3 - 1)) < 20) ∧
    (0 ≤ x3 ∧ x3 < 20) ∧
    m_Wp i_Day_putIn 27 kc ks [(0, .inr (.inr c)), (1, .inl x1), (2, .inl x2), (3, .inl (wr (x3 + (-1))))] [] (mem Ls p (mup I (c + 4) (Int.toNat x3) (I (c + 4) (Int.toNat (wr (x3 - 1))))) L) Q))) :
    m_Wp i_Day_putIn 27 kc ks [(0, .inr (.inr c)), (1, .inl x1), (2, .inl x2), (3, .inl x3)] [] (mem Ls p I L) Q := by
  skip <;> rcases hc with rfl | rfl | rfl | rfl <;> exact m_wp_of 17 [27] h
set_option maxHeartbeats 4000000 in
set_option maxRecDepth 20000 in
theorem E_Day_toldInAll {Ls p c : Nat} (hc : c = 28 ∨ c = 37 ∨ c = 46 ∨ c = 55) {I L : Nat → Nat → Int} {Q : List mV → mM → Prop}
    (h : m_Wp i_Day_toldInAll 4 0 0 [(0, .inr (.inr c)), (1, .inl 0), (2, .inl 0)] [] (mem Ls p I L) Q) :
    m_Call i_Day_toldInAll [.inr (.inr c)] (mem Ls p I L) Q := by
  have he : m_ent 0 ([.inr (.inr c)] : List mV) = [(0, .inr (.inr c))] := rfl
  skip <;> rcases hc with rfl | rfl | rfl | rfl <;> exact m_call_at 5 [4] he h
set_option maxHeartbeats 4000000 in
set_option maxRecDepth 20000 in
theorem T_Day_toldInAll_4 {Ls p c kc ks : Nat} (hc : c = 28 ∨ c = 37 ∨ c = 46 ∨ c = 55) {I L : Nat → Nat → Int} {x1 x2 : Int} {Q : List mV → mM → Prop}
    (h : (((I c 8) ≤ x2 →
    Q [.inl x1] (mem Ls p I L)) ∧
   (¬ ((I c 8) ≤ x2) →
    (0 ≤ x2 ∧ x2 < 6) ∧
    m_Wp i_Day_toldInAll 4 kc ks [(0, .inr (.inr c)), (1, .inl (wr (x1 + (I (c + 3) (Int.toNat x2))))), (2, .inl (wr (x2 + 1)))] [] (mem Ls p I L) Q))) :
    m_Wp i_Day_toldInAll 4 kc ks [(0, .inr (.inr c)), (1, .inl x1), (2, .inl x2)] [] (mem Ls p I L) Q := by
  skip <;> rcases hc with rfl | rfl | rfl | rfl <;> exact m_wp_of 15 [4] h
end
