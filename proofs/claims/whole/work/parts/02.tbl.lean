-- ===== PART A: goes FIRST, ahead of the names: the tables' words, and 'selects' of the private methods out of them =====
/-- a private method of a class that the tables say can be made, by its rows of tables_1 -/
def lw_okq (q : MethodName × Nat) : Prop := (q.1.cls ≠ "java/lang/invoke/MethodHandle" ∧ q.1.cls ≠ "java/lang/invoke/VarHandle") ∧ Cond.instantiable q.1.cls q.2 ∈ tables_1 ∧ Cond.privateMethod q.1 ∈ tables_1 ∧ Cond.instanceMethod q.1 ∈ tables_1
theorem lw_p0 : lw_okq (⟨"TrueInk", "putBytes", "(I)V"⟩, 15) := ⟨⟨by decide +kernel, by decide +kernel⟩, List.mem_of_getElem? (i := 22) (by decide +kernel), List.mem_of_getElem? (i := 481) (by decide +kernel), List.mem_of_getElem? (i := 482) (by decide +kernel)⟩
theorem lw_p1 : lw_okq (⟨"TrueInk$Reader", "cutOne", "([BII)I"⟩, 16) := ⟨⟨by decide +kernel, by decide +kernel⟩, List.mem_of_getElem? (i := 30) (by decide +kernel), List.mem_of_getElem? (i := 500) (by decide +kernel), List.mem_of_getElem? (i := 501) (by decide +kernel)⟩
theorem lw_p2 : lw_okq (⟨"TrueInk$Reader", "kindOfName", "(J)I"⟩, 16) := ⟨⟨by decide +kernel, by decide +kernel⟩, List.mem_of_getElem? (i := 30) (by decide +kernel), List.mem_of_getElem? (i := 507) (by decide +kernel), List.mem_of_getElem? (i := 508) (by decide +kernel)⟩
theorem lw_p3 : lw_okq (⟨"TrueInk$Reader", "tellFact", "()V"⟩, 16) := ⟨⟨by decide +kernel, by decide +kernel⟩, List.mem_of_getElem? (i := 30) (by decide +kernel), List.mem_of_getElem? (i := 590) (by decide +kernel), List.mem_of_getElem? (i := 591) (by decide +kernel)⟩
theorem lw_p4 : lw_okq (⟨"TrueInk$Reader", "blame", "(I)V"⟩, 16) := ⟨⟨by decide +kernel, by decide +kernel⟩, List.mem_of_getElem? (i := 30) (by decide +kernel), List.mem_of_getElem? (i := 594) (by decide +kernel), List.mem_of_getElem? (i := 595) (by decide +kernel)⟩
theorem lw_p5 : lw_okq (⟨"TrueInk$Reader", "take", "(I)Z"⟩, 16) := ⟨⟨by decide +kernel, by decide +kernel⟩, List.mem_of_getElem? (i := 30) (by decide +kernel), List.mem_of_getElem? (i := 598) (by decide +kernel), List.mem_of_getElem? (i := 599) (by decide +kernel)⟩
theorem lw_p6 : lw_okq (⟨"TrueInk$Reader", "judgeFact", "(III)V"⟩, 16) := ⟨⟨by decide +kernel, by decide +kernel⟩, List.mem_of_getElem? (i := 30) (by decide +kernel), List.mem_of_getElem? (i := 602) (by decide +kernel), List.mem_of_getElem? (i := 603) (by decide +kernel)⟩
theorem lw_p7 : lw_okq (⟨"TrueInk$Reader", "isTold", "(J)Z"⟩, 16) := ⟨⟨by decide +kernel, by decide +kernel⟩, List.mem_of_getElem? (i := 30) (by decide +kernel), List.mem_of_getElem? (i := 606) (by decide +kernel), List.mem_of_getElem? (i := 607) (by decide +kernel)⟩
theorem lw_p8 : lw_okq (⟨"TrueInk$Reader", "factNamed", "(J)I"⟩, 16) := ⟨⟨by decide +kernel, by decide +kernel⟩, List.mem_of_getElem? (i := 30) (by decide +kernel), List.mem_of_getElem? (i := 610) (by decide +kernel), List.mem_of_getElem? (i := 611) (by decide +kernel)⟩
theorem lw_p9 : lw_okq (⟨"TrueInk$Reader", "pageNamed", "(J)I"⟩, 16) := ⟨⟨by decide +kernel, by decide +kernel⟩, List.mem_of_getElem? (i := 30) (by decide +kernel), List.mem_of_getElem? (i := 614) (by decide +kernel), List.mem_of_getElem? (i := 615) (by decide +kernel)⟩
theorem lw_p10 : lw_okq (⟨"TrueInk$Reader", "blameSoftly", "(II)V"⟩, 16) := ⟨⟨by decide +kernel, by decide +kernel⟩, List.mem_of_getElem? (i := 30) (by decide +kernel), List.mem_of_getElem? (i := 618) (by decide +kernel), List.mem_of_getElem? (i := 619) (by decide +kernel)⟩
theorem lw_p11 : lw_okq (⟨"TrueInk$Reader", "tellGoes", "()V"⟩, 16) := ⟨⟨by decide +kernel, by decide +kernel⟩, List.mem_of_getElem? (i := 30) (by decide +kernel), List.mem_of_getElem? (i := 631) (by decide +kernel), List.mem_of_getElem? (i := 632) (by decide +kernel)⟩
theorem lw_p12 : lw_okq (⟨"TrueInk$Reader", "tellLaw", "()V"⟩, 16) := ⟨⟨by decide +kernel, by decide +kernel⟩, List.mem_of_getElem? (i := 30) (by decide +kernel), List.mem_of_getElem? (i := 635) (by decide +kernel), List.mem_of_getElem? (i := 636) (by decide +kernel)⟩
theorem lw_p13 : lw_okq (⟨"TrueInk$Reader", "expression", "(Z)V"⟩, 16) := ⟨⟨by decide +kernel, by decide +kernel⟩, List.mem_of_getElem? (i := 30) (by decide +kernel), List.mem_of_getElem? (i := 639) (by decide +kernel), List.mem_of_getElem? (i := 640) (by decide +kernel)⟩
theorem lw_p14 : lw_okq (⟨"TrueInk$Reader", "letWait", "(I)V"⟩, 16) := ⟨⟨by decide +kernel, by decide +kernel⟩, List.mem_of_getElem? (i := 30) (by decide +kernel), List.mem_of_getElem? (i := 643) (by decide +kernel), List.mem_of_getElem? (i := 644) (by decide +kernel)⟩
theorem lw_p15 : lw_okq (⟨"TrueInk$Reader", "unit", "(IZ)V"⟩, 16) := ⟨⟨by decide +kernel, by decide +kernel⟩, List.mem_of_getElem? (i := 30) (by decide +kernel), List.mem_of_getElem? (i := 647) (by decide +kernel), List.mem_of_getElem? (i := 648) (by decide +kernel)⟩
def lw_privs_1 : List (MethodName × Nat) := [(⟨"TrueInk", "putBytes", "(I)V"⟩, 15), (⟨"TrueInk$Reader", "cutOne", "([BII)I"⟩, 16), (⟨"TrueInk$Reader", "kindOfName", "(J)I"⟩, 16), (⟨"TrueInk$Reader", "tellFact", "()V"⟩, 16), (⟨"TrueInk$Reader", "blame", "(I)V"⟩, 16), (⟨"TrueInk$Reader", "take", "(I)Z"⟩, 16), (⟨"TrueInk$Reader", "judgeFact", "(III)V"⟩, 16), (⟨"TrueInk$Reader", "isTold", "(J)Z"⟩, 16), (⟨"TrueInk$Reader", "factNamed", "(J)I"⟩, 16), (⟨"TrueInk$Reader", "pageNamed", "(J)I"⟩, 16), (⟨"TrueInk$Reader", "blameSoftly", "(II)V"⟩, 16), (⟨"TrueInk$Reader", "tellGoes", "()V"⟩, 16), (⟨"TrueInk$Reader", "tellLaw", "()V"⟩, 16), (⟨"TrueInk$Reader", "expression", "(Z)V"⟩, 16), (⟨"TrueInk$Reader", "letWait", "(I)V"⟩, 16), (⟨"TrueInk$Reader", "unit", "(IZ)V"⟩, 16)]
theorem lw_r1 : ∀ q ∈ lw_privs_1, lw_okq q := List.forall_mem_cons.mpr ⟨lw_p0, List.forall_mem_cons.mpr ⟨lw_p1, List.forall_mem_cons.mpr ⟨lw_p2, List.forall_mem_cons.mpr ⟨lw_p3, List.forall_mem_cons.mpr ⟨lw_p4, List.forall_mem_cons.mpr ⟨lw_p5, List.forall_mem_cons.mpr ⟨lw_p6, List.forall_mem_cons.mpr ⟨lw_p7, List.forall_mem_cons.mpr ⟨lw_p8, List.forall_mem_cons.mpr ⟨lw_p9, List.forall_mem_cons.mpr ⟨lw_p10, List.forall_mem_cons.mpr ⟨lw_p11, List.forall_mem_cons.mpr ⟨lw_p12, List.forall_mem_cons.mpr ⟨lw_p13, List.forall_mem_cons.mpr ⟨lw_p14, List.forall_mem_cons.mpr ⟨lw_p15, fun _ h => absurd h List.not_mem_nil⟩⟩⟩⟩⟩⟩⟩⟩⟩⟩⟩⟩⟩⟩⟩⟩
theorem lw_p16 : lw_okq (⟨"TrueInk$Reader", "put", "(II)V"⟩, 16) := ⟨⟨by decide +kernel, by decide +kernel⟩, List.mem_of_getElem? (i := 30) (by decide +kernel), List.mem_of_getElem? (i := 651) (by decide +kernel), List.mem_of_getElem? (i := 652) (by decide +kernel)⟩
theorem lw_p17 : lw_okq (⟨"TrueInk$Reader", "putWaiting", "(I)V"⟩, 16) := ⟨⟨by decide +kernel, by decide +kernel⟩, List.mem_of_getElem? (i := 30) (by decide +kernel), List.mem_of_getElem? (i := 658) (by decide +kernel), List.mem_of_getElem? (i := 659) (by decide +kernel)⟩
theorem lw_p18 : lw_okq (⟨"TrueInk$Reader", "tellPage", "()V"⟩, 16) := ⟨⟨by decide +kernel, by decide +kernel⟩, List.mem_of_getElem? (i := 30) (by decide +kernel), List.mem_of_getElem? (i := 663) (by decide +kernel), List.mem_of_getElem? (i := 664) (by decide +kernel)⟩
theorem lw_p19 : lw_okq (⟨"TrueInk$Reader", "tellShading", "()V"⟩, 16) := ⟨⟨by decide +kernel, by decide +kernel⟩, List.mem_of_getElem? (i := 30) (by decide +kernel), List.mem_of_getElem? (i := 667) (by decide +kernel), List.mem_of_getElem? (i := 668) (by decide +kernel)⟩
theorem lw_p20 : lw_okq (⟨"TrueInk$Reader", "tellClaim", "()V"⟩, 16) := ⟨⟨by decide +kernel, by decide +kernel⟩, List.mem_of_getElem? (i := 30) (by decide +kernel), List.mem_of_getElem? (i := 671) (by decide +kernel), List.mem_of_getElem? (i := 672) (by decide +kernel)⟩
theorem lw_p21 : lw_okq (⟨"TrueInk$Reader", "tellSlips", "()V"⟩, 16) := ⟨⟨by decide +kernel, by decide +kernel⟩, List.mem_of_getElem? (i := 30) (by decide +kernel), List.mem_of_getElem? (i := 675) (by decide +kernel), List.mem_of_getElem? (i := 676) (by decide +kernel)⟩
theorem lw_p22 : lw_okq (⟨"TrueInk$Reader", "tellSeed", "()V"⟩, 16) := ⟨⟨by decide +kernel, by decide +kernel⟩, List.mem_of_getElem? (i := 30) (by decide +kernel), List.mem_of_getElem? (i := 679) (by decide +kernel), List.mem_of_getElem? (i := 680) (by decide +kernel)⟩
theorem lw_p23 : lw_okq (⟨"TrueInk$Reader", "resolve", "()V"⟩, 16) := ⟨⟨by decide +kernel, by decide +kernel⟩, List.mem_of_getElem? (i := 30) (by decide +kernel), List.mem_of_getElem? (i := 687) (by decide +kernel), List.mem_of_getElem? (i := 688) (by decide +kernel)⟩
theorem lw_p24 : lw_okq (⟨"TrueInk$Reader", "findLoose", "()V"⟩, 16) := ⟨⟨by decide +kernel, by decide +kernel⟩, List.mem_of_getElem? (i := 30) (by decide +kernel), List.mem_of_getElem? (i := 691) (by decide +kernel), List.mem_of_getElem? (i := 692) (by decide +kernel)⟩
theorem lw_p25 : lw_okq (⟨"TrueInk$Reader", "looksAtShades", "(I)Z"⟩, 16) := ⟨⟨by decide +kernel, by decide +kernel⟩, List.mem_of_getElem? (i := 30) (by decide +kernel), List.mem_of_getElem? (i := 695) (by decide +kernel), List.mem_of_getElem? (i := 696) (by decide +kernel)⟩
theorem lw_p26 : lw_okq (⟨"TrueInk$Reader", "looksAtDay", "()Z"⟩, 16) := ⟨⟨by decide +kernel, by decide +kernel⟩, List.mem_of_getElem? (i := 30) (by decide +kernel), List.mem_of_getElem? (i := 699) (by decide +kernel), List.mem_of_getElem? (i := 700) (by decide +kernel)⟩
theorem lw_p27 : lw_okq (⟨"TrueInk", "beginAnew", "()V"⟩, 15) := ⟨⟨by decide +kernel, by decide +kernel⟩, List.mem_of_getElem? (i := 22) (by decide +kernel), List.mem_of_getElem? (i := 703) (by decide +kernel), List.mem_of_getElem? (i := 704) (by decide +kernel)⟩
theorem lw_p28 : lw_okq (⟨"TrueInk$Press", "run", "(I[I)Z"⟩, 6) := ⟨⟨by decide +kernel, by decide +kernel⟩, List.mem_of_getElem? (i := 255) (by decide +kernel), List.mem_of_getElem? (i := 732) (by decide +kernel), List.mem_of_getElem? (i := 733) (by decide +kernel)⟩
theorem lw_p29 : lw_okq (⟨"TrueInk$Press", "shadeBy", "(II)I"⟩, 6) := ⟨⟨by decide +kernel, by decide +kernel⟩, List.mem_of_getElem? (i := 255) (by decide +kernel), List.mem_of_getElem? (i := 743) (by decide +kernel), List.mem_of_getElem? (i := 744) (by decide +kernel)⟩
theorem lw_p30 : lw_okq (⟨"TrueInk$Press", "unlikePages", "(II)I"⟩, 6) := ⟨⟨by decide +kernel, by decide +kernel⟩, List.mem_of_getElem? (i := 255) (by decide +kernel), List.mem_of_getElem? (i := 753) (by decide +kernel), List.mem_of_getElem? (i := 754) (by decide +kernel)⟩
theorem lw_p31 : lw_okq (⟨"TrueInk", "forgetGuesses", "()V"⟩, 15) := ⟨⟨by decide +kernel, by decide +kernel⟩, List.mem_of_getElem? (i := 22) (by decide +kernel), List.mem_of_getElem? (i := 770) (by decide +kernel), List.mem_of_getElem? (i := 771) (by decide +kernel)⟩
def lw_privs_2 : List (MethodName × Nat) := [(⟨"TrueInk$Reader", "put", "(II)V"⟩, 16), (⟨"TrueInk$Reader", "putWaiting", "(I)V"⟩, 16), (⟨"TrueInk$Reader", "tellPage", "()V"⟩, 16), (⟨"TrueInk$Reader", "tellShading", "()V"⟩, 16), (⟨"TrueInk$Reader", "tellClaim", "()V"⟩, 16), (⟨"TrueInk$Reader", "tellSlips", "()V"⟩, 16), (⟨"TrueInk$Reader", "tellSeed", "()V"⟩, 16), (⟨"TrueInk$Reader", "resolve", "()V"⟩, 16), (⟨"TrueInk$Reader", "findLoose", "()V"⟩, 16), (⟨"TrueInk$Reader", "looksAtShades", "(I)Z"⟩, 16), (⟨"TrueInk$Reader", "looksAtDay", "()Z"⟩, 16), (⟨"TrueInk", "beginAnew", "()V"⟩, 15), (⟨"TrueInk$Press", "run", "(I[I)Z"⟩, 6), (⟨"TrueInk$Press", "shadeBy", "(II)I"⟩, 6), (⟨"TrueInk$Press", "unlikePages", "(II)I"⟩, 6), (⟨"TrueInk", "forgetGuesses", "()V"⟩, 15)]
theorem lw_r2 : ∀ q ∈ lw_privs_2, lw_okq q := List.forall_mem_cons.mpr ⟨lw_p16, List.forall_mem_cons.mpr ⟨lw_p17, List.forall_mem_cons.mpr ⟨lw_p18, List.forall_mem_cons.mpr ⟨lw_p19, List.forall_mem_cons.mpr ⟨lw_p20, List.forall_mem_cons.mpr ⟨lw_p21, List.forall_mem_cons.mpr ⟨lw_p22, List.forall_mem_cons.mpr ⟨lw_p23, List.forall_mem_cons.mpr ⟨lw_p24, List.forall_mem_cons.mpr ⟨lw_p25, List.forall_mem_cons.mpr ⟨lw_p26, List.forall_mem_cons.mpr ⟨lw_p27, List.forall_mem_cons.mpr ⟨lw_p28, List.forall_mem_cons.mpr ⟨lw_p29, List.forall_mem_cons.mpr ⟨lw_p30, List.forall_mem_cons.mpr ⟨lw_p31, fun _ h => absurd h List.not_mem_nil⟩⟩⟩⟩⟩⟩⟩⟩⟩⟩⟩⟩⟩⟩⟩⟩
theorem lw_p32 : lw_okq (⟨"TrueInk", "isFact", "(I)Z"⟩, 15) := ⟨⟨by decide +kernel, by decide +kernel⟩, List.mem_of_getElem? (i := 22) (by decide +kernel), List.mem_of_getElem? (i := 782) (by decide +kernel), List.mem_of_getElem? (i := 783) (by decide +kernel)⟩
theorem lw_p33 : lw_okq (⟨"TrueInk", "isPage", "(I)Z"⟩, 15) := ⟨⟨by decide +kernel, by decide +kernel⟩, List.mem_of_getElem? (i := 22) (by decide +kernel), List.mem_of_getElem? (i := 790) (by decide +kernel), List.mem_of_getElem? (i := 791) (by decide +kernel)⟩
theorem lw_p34 : lw_okq (⟨"TrueInk$Stands", "couldStand", "(II)Z"⟩, 6) := ⟨⟨by decide +kernel, by decide +kernel⟩, List.mem_of_getElem? (i := 331) (by decide +kernel), List.mem_of_getElem? (i := 881) (by decide +kernel), List.mem_of_getElem? (i := 882) (by decide +kernel)⟩
theorem lw_p35 : lw_okq (⟨"TrueInk$Stands", "doesStand", "(I)Z"⟩, 6) := ⟨⟨by decide +kernel, by decide +kernel⟩, List.mem_of_getElem? (i := 331) (by decide +kernel), List.mem_of_getElem? (i := 885) (by decide +kernel), List.mem_of_getElem? (i := 886) (by decide +kernel)⟩
theorem lw_p36 : lw_okq (⟨"TrueInk$Worlds", "fill", "([I)V"⟩, 7) := ⟨⟨by decide +kernel, by decide +kernel⟩, List.mem_of_getElem? (i := 302) (by decide +kernel), List.mem_of_getElem? (i := 915) (by decide +kernel), List.mem_of_getElem? (i := 916) (by decide +kernel)⟩
theorem lw_p37 : lw_okq (⟨"TrueInk$Begun", "forgetDays", "()V"⟩, 13) := ⟨⟨by decide +kernel, by decide +kernel⟩, List.mem_of_getElem? (i := 384) (by decide +kernel), List.mem_of_getElem? (i := 1040) (by decide +kernel), List.mem_of_getElem? (i := 1041) (by decide +kernel)⟩
theorem lw_p38 : lw_okq (⟨"TrueInk$Begun", "dayFrom", "(II)I"⟩, 13) := ⟨⟨by decide +kernel, by decide +kernel⟩, List.mem_of_getElem? (i := 384) (by decide +kernel), List.mem_of_getElem? (i := 1047) (by decide +kernel), List.mem_of_getElem? (i := 1048) (by decide +kernel)⟩
theorem lw_p39 : lw_okq (⟨"TrueInk$Worlds", "findWhitest", "(II)V"⟩, 7) := ⟨⟨by decide +kernel, by decide +kernel⟩, List.mem_of_getElem? (i := 302) (by decide +kernel), List.mem_of_getElem? (i := 1067) (by decide +kernel), List.mem_of_getElem? (i := 1068) (by decide +kernel)⟩
theorem lw_p40 : lw_okq (⟨"TrueInk$Worlds", "partOf", "(II)I"⟩, 7) := ⟨⟨by decide +kernel, by decide +kernel⟩, List.mem_of_getElem? (i := 302) (by decide +kernel), List.mem_of_getElem? (i := 1071) (by decide +kernel), List.mem_of_getElem? (i := 1072) (by decide +kernel)⟩
theorem lw_p41 : lw_okq (⟨"TrueInk$Begun", "isFit", "(II)Z"⟩, 13) := ⟨⟨by decide +kernel, by decide +kernel⟩, List.mem_of_getElem? (i := 384) (by decide +kernel), List.mem_of_getElem? (i := 1115) (by decide +kernel), List.mem_of_getElem? (i := 1116) (by decide +kernel)⟩
theorem lw_p42 : lw_okq (⟨"TrueInk$Begun", "unlikeBits", "(II)I"⟩, 13) := ⟨⟨by decide +kernel, by decide +kernel⟩, List.mem_of_getElem? (i := 384) (by decide +kernel), List.mem_of_getElem? (i := 1128) (by decide +kernel), List.mem_of_getElem? (i := 1129) (by decide +kernel)⟩
theorem lw_p43 : lw_okq (⟨"TrueInk$Begun", "mostAlike", "(III)I"⟩, 13) := ⟨⟨by decide +kernel, by decide +kernel⟩, List.mem_of_getElem? (i := 384) (by decide +kernel), List.mem_of_getElem? (i := 1141) (by decide +kernel), List.mem_of_getElem? (i := 1142) (by decide +kernel)⟩
theorem lw_p44 : lw_okq (⟨"TrueInk$Begun", "partsAll", "(II)Z"⟩, 13) := ⟨⟨by decide +kernel, by decide +kernel⟩, List.mem_of_getElem? (i := 384) (by decide +kernel), List.mem_of_getElem? (i := 1155) (by decide +kernel), List.mem_of_getElem? (i := 1156) (by decide +kernel)⟩
theorem lw_p45 : lw_okq (⟨"TrueInk", "blackBits", "()I"⟩, 15) := ⟨⟨by decide +kernel, by decide +kernel⟩, List.mem_of_getElem? (i := 22) (by decide +kernel), List.mem_of_getElem? (i := 1173) (by decide +kernel), List.mem_of_getElem? (i := 1174) (by decide +kernel)⟩
theorem lw_p46 : lw_okq (⟨"TrueInkModel", "begins", "()V"⟩, 78) := ⟨⟨by decide +kernel, by decide +kernel⟩, List.mem_of_getElem? (i := 1177) (by decide +kernel), List.mem_of_getElem? (i := 1190) (by decide +kernel), List.mem_of_getElem? (i := 1191) (by decide +kernel)⟩
theorem lw_p47 : lw_okq (⟨"TrueInkModel", "beginsIn", "(I)V"⟩, 78) := ⟨⟨by decide +kernel, by decide +kernel⟩, List.mem_of_getElem? (i := 1177) (by decide +kernel), List.mem_of_getElem? (i := 1194) (by decide +kernel), List.mem_of_getElem? (i := 1195) (by decide +kernel)⟩
def lw_privs_3 : List (MethodName × Nat) := [(⟨"TrueInk", "isFact", "(I)Z"⟩, 15), (⟨"TrueInk", "isPage", "(I)Z"⟩, 15), (⟨"TrueInk$Stands", "couldStand", "(II)Z"⟩, 6), (⟨"TrueInk$Stands", "doesStand", "(I)Z"⟩, 6), (⟨"TrueInk$Worlds", "fill", "([I)V"⟩, 7), (⟨"TrueInk$Begun", "forgetDays", "()V"⟩, 13), (⟨"TrueInk$Begun", "dayFrom", "(II)I"⟩, 13), (⟨"TrueInk$Worlds", "findWhitest", "(II)V"⟩, 7), (⟨"TrueInk$Worlds", "partOf", "(II)I"⟩, 7), (⟨"TrueInk$Begun", "isFit", "(II)Z"⟩, 13), (⟨"TrueInk$Begun", "unlikeBits", "(II)I"⟩, 13), (⟨"TrueInk$Begun", "mostAlike", "(III)I"⟩, 13), (⟨"TrueInk$Begun", "partsAll", "(II)Z"⟩, 13), (⟨"TrueInk", "blackBits", "()I"⟩, 15), (⟨"TrueInkModel", "begins", "()V"⟩, 78), (⟨"TrueInkModel", "beginsIn", "(I)V"⟩, 78)]
theorem lw_r3 : ∀ q ∈ lw_privs_3, lw_okq q := List.forall_mem_cons.mpr ⟨lw_p32, List.forall_mem_cons.mpr ⟨lw_p33, List.forall_mem_cons.mpr ⟨lw_p34, List.forall_mem_cons.mpr ⟨lw_p35, List.forall_mem_cons.mpr ⟨lw_p36, List.forall_mem_cons.mpr ⟨lw_p37, List.forall_mem_cons.mpr ⟨lw_p38, List.forall_mem_cons.mpr ⟨lw_p39, List.forall_mem_cons.mpr ⟨lw_p40, List.forall_mem_cons.mpr ⟨lw_p41, List.forall_mem_cons.mpr ⟨lw_p42, List.forall_mem_cons.mpr ⟨lw_p43, List.forall_mem_cons.mpr ⟨lw_p44, List.forall_mem_cons.mpr ⟨lw_p45, List.forall_mem_cons.mpr ⟨lw_p46, List.forall_mem_cons.mpr ⟨lw_p47, fun _ h => absurd h List.not_mem_nil⟩⟩⟩⟩⟩⟩⟩⟩⟩⟩⟩⟩⟩⟩⟩⟩
theorem lw_p48 : lw_okq (⟨"TrueInkModel", "setsWorld", "(I)V"⟩, 78) := ⟨⟨by decide +kernel, by decide +kernel⟩, List.mem_of_getElem? (i := 1177) (by decide +kernel), List.mem_of_getElem? (i := 1198) (by decide +kernel), List.mem_of_getElem? (i := 1199) (by decide +kernel)⟩
theorem lw_p49 : lw_okq (⟨"TrueInkModel", "settles", "()V"⟩, 78) := ⟨⟨by decide +kernel, by decide +kernel⟩, List.mem_of_getElem? (i := 1177) (by decide +kernel), List.mem_of_getElem? (i := 1202) (by decide +kernel), List.mem_of_getElem? (i := 1203) (by decide +kernel)⟩
theorem lw_p50 : lw_okq (⟨"TrueInkModel", "shadesNow", "()I"⟩, 78) := ⟨⟨by decide +kernel, by decide +kernel⟩, List.mem_of_getElem? (i := 1177) (by decide +kernel), List.mem_of_getElem? (i := 1206) (by decide +kernel), List.mem_of_getElem? (i := 1207) (by decide +kernel)⟩
theorem lw_p51 : lw_okq (⟨"TrueInkModel", "steps", "()Z"⟩, 78) := ⟨⟨by decide +kernel, by decide +kernel⟩, List.mem_of_getElem? (i := 1177) (by decide +kernel), List.mem_of_getElem? (i := 1210) (by decide +kernel), List.mem_of_getElem? (i := 1211) (by decide +kernel)⟩
theorem lw_p52 : lw_okq (⟨"TrueInkModel", "setsVariables", "()V"⟩, 78) := ⟨⟨by decide +kernel, by decide +kernel⟩, List.mem_of_getElem? (i := 1177) (by decide +kernel), List.mem_of_getElem? (i := 1214) (by decide +kernel), List.mem_of_getElem? (i := 1215) (by decide +kernel)⟩
theorem lw_p53 : lw_okq (⟨"TrueInkModel", "shadeNext", "(I)I"⟩, 78) := ⟨⟨by decide +kernel, by decide +kernel⟩, List.mem_of_getElem? (i := 1177) (by decide +kernel), List.mem_of_getElem? (i := 1218) (by decide +kernel), List.mem_of_getElem? (i := 1219) (by decide +kernel)⟩
theorem lw_p54 : lw_okq (⟨"TrueInkModel", "trueOf", "(I)I"⟩, 78) := ⟨⟨by decide +kernel, by decide +kernel⟩, List.mem_of_getElem? (i := 1177) (by decide +kernel), List.mem_of_getElem? (i := 1222) (by decide +kernel), List.mem_of_getElem? (i := 1223) (by decide +kernel)⟩
theorem lw_p55 : lw_okq (⟨"TrueInkModel", "claimIs", "(II)I"⟩, 78) := ⟨⟨by decide +kernel, by decide +kernel⟩, List.mem_of_getElem? (i := 1177) (by decide +kernel), List.mem_of_getElem? (i := 1226) (by decide +kernel), List.mem_of_getElem? (i := 1227) (by decide +kernel)⟩
theorem lw_p56 : lw_okq (⟨"TrueInkModel", "termOf", "(II)I"⟩, 78) := ⟨⟨by decide +kernel, by decide +kernel⟩, List.mem_of_getElem? (i := 1177) (by decide +kernel), List.mem_of_getElem? (i := 1230) (by decide +kernel), List.mem_of_getElem? (i := 1231) (by decide +kernel)⟩
theorem lw_p57 : lw_okq (⟨"TrueInkModel", "blinks", "(I)V"⟩, 78) := ⟨⟨by decide +kernel, by decide +kernel⟩, List.mem_of_getElem? (i := 1177) (by decide +kernel), List.mem_of_getElem? (i := 1234) (by decide +kernel), List.mem_of_getElem? (i := 1235) (by decide +kernel)⟩
theorem lw_p58 : lw_okq (⟨"TrueInkModel", "keepsRow", "()V"⟩, 78) := ⟨⟨by decide +kernel, by decide +kernel⟩, List.mem_of_getElem? (i := 1177) (by decide +kernel), List.mem_of_getElem? (i := 1241) (by decide +kernel), List.mem_of_getElem? (i := 1242) (by decide +kernel)⟩
theorem lw_p59 : lw_okq (⟨"TrueInkModel", "put", "(I)V"⟩, 78) := ⟨⟨by decide +kernel, by decide +kernel⟩, List.mem_of_getElem? (i := 1177) (by decide +kernel), List.mem_of_getElem? (i := 1484) (by decide +kernel), List.mem_of_getElem? (i := 1485) (by decide +kernel)⟩
theorem lw_p60 : lw_okq (⟨"TrueInkModel", "cut", "()V"⟩, 78) := ⟨⟨by decide +kernel, by decide +kernel⟩, List.mem_of_getElem? (i := 1177) (by decide +kernel), List.mem_of_getElem? (i := 1496) (by decide +kernel), List.mem_of_getElem? (i := 1497) (by decide +kernel)⟩
theorem lw_p61 : lw_okq (⟨"TrueInkModel", "byteAt", "(I)I"⟩, 78) := ⟨⟨by decide +kernel, by decide +kernel⟩, List.mem_of_getElem? (i := 1177) (by decide +kernel), List.mem_of_getElem? (i := 1500) (by decide +kernel), List.mem_of_getElem? (i := 1501) (by decide +kernel)⟩
theorem lw_p62 : lw_okq (⟨"TrueInkModel", "token", "(IIIJ)V"⟩, 78) := ⟨⟨by decide +kernel, by decide +kernel⟩, List.mem_of_getElem? (i := 1177) (by decide +kernel), List.mem_of_getElem? (i := 1504) (by decide +kernel), List.mem_of_getElem? (i := 1505) (by decide +kernel)⟩
theorem lw_p63 : lw_okq (⟨"TrueInkModel", "sign", "(III)I"⟩, 78) := ⟨⟨by decide +kernel, by decide +kernel⟩, List.mem_of_getElem? (i := 1177) (by decide +kernel), List.mem_of_getElem? (i := 1514) (by decide +kernel), List.mem_of_getElem? (i := 1515) (by decide +kernel)⟩
def lw_privs_4 : List (MethodName × Nat) := [(⟨"TrueInkModel", "setsWorld", "(I)V"⟩, 78), (⟨"TrueInkModel", "settles", "()V"⟩, 78), (⟨"TrueInkModel", "shadesNow", "()I"⟩, 78), (⟨"TrueInkModel", "steps", "()Z"⟩, 78), (⟨"TrueInkModel", "setsVariables", "()V"⟩, 78), (⟨"TrueInkModel", "shadeNext", "(I)I"⟩, 78), (⟨"TrueInkModel", "trueOf", "(I)I"⟩, 78), (⟨"TrueInkModel", "claimIs", "(II)I"⟩, 78), (⟨"TrueInkModel", "termOf", "(II)I"⟩, 78), (⟨"TrueInkModel", "blinks", "(I)V"⟩, 78), (⟨"TrueInkModel", "keepsRow", "()V"⟩, 78), (⟨"TrueInkModel", "put", "(I)V"⟩, 78), (⟨"TrueInkModel", "cut", "()V"⟩, 78), (⟨"TrueInkModel", "byteAt", "(I)I"⟩, 78), (⟨"TrueInkModel", "token", "(IIIJ)V"⟩, 78), (⟨"TrueInkModel", "sign", "(III)I"⟩, 78)]
theorem lw_r4 : ∀ q ∈ lw_privs_4, lw_okq q := List.forall_mem_cons.mpr ⟨lw_p48, List.forall_mem_cons.mpr ⟨lw_p49, List.forall_mem_cons.mpr ⟨lw_p50, List.forall_mem_cons.mpr ⟨lw_p51, List.forall_mem_cons.mpr ⟨lw_p52, List.forall_mem_cons.mpr ⟨lw_p53, List.forall_mem_cons.mpr ⟨lw_p54, List.forall_mem_cons.mpr ⟨lw_p55, List.forall_mem_cons.mpr ⟨lw_p56, List.forall_mem_cons.mpr ⟨lw_p57, List.forall_mem_cons.mpr ⟨lw_p58, List.forall_mem_cons.mpr ⟨lw_p59, List.forall_mem_cons.mpr ⟨lw_p60, List.forall_mem_cons.mpr ⟨lw_p61, List.forall_mem_cons.mpr ⟨lw_p62, List.forall_mem_cons.mpr ⟨lw_p63, fun _ h => absurd h List.not_mem_nil⟩⟩⟩⟩⟩⟩⟩⟩⟩⟩⟩⟩⟩⟩⟩⟩
theorem lw_p64 : lw_okq (⟨"TrueInkModel", "is", "(I)Z"⟩, 78) := ⟨⟨by decide +kernel, by decide +kernel⟩, List.mem_of_getElem? (i := 1177) (by decide +kernel), List.mem_of_getElem? (i := 1518) (by decide +kernel), List.mem_of_getElem? (i := 1519) (by decide +kernel)⟩
theorem lw_p65 : lw_okq (⟨"TrueInkModel", "tell", "()V"⟩, 78) := ⟨⟨by decide +kernel, by decide +kernel⟩, List.mem_of_getElem? (i := 1177) (by decide +kernel), List.mem_of_getElem? (i := 1522) (by decide +kernel), List.mem_of_getElem? (i := 1523) (by decide +kernel)⟩
theorem lw_p66 : lw_okq (⟨"TrueInkModel", "fail", "(I)V"⟩, 78) := ⟨⟨by decide +kernel, by decide +kernel⟩, List.mem_of_getElem? (i := 1177) (by decide +kernel), List.mem_of_getElem? (i := 1526) (by decide +kernel), List.mem_of_getElem? (i := 1527) (by decide +kernel)⟩
theorem lw_p67 : lw_okq (⟨"TrueInkModel", "tellFact", "()V"⟩, 78) := ⟨⟨by decide +kernel, by decide +kernel⟩, List.mem_of_getElem? (i := 1177) (by decide +kernel), List.mem_of_getElem? (i := 1530) (by decide +kernel), List.mem_of_getElem? (i := 1531) (by decide +kernel)⟩
theorem lw_p68 : lw_okq (⟨"TrueInkModel", "named", "()I"⟩, 78) := ⟨⟨by decide +kernel, by decide +kernel⟩, List.mem_of_getElem? (i := 1177) (by decide +kernel), List.mem_of_getElem? (i := 1534) (by decide +kernel), List.mem_of_getElem? (i := 1535) (by decide +kernel)⟩
theorem lw_p69 : lw_okq (⟨"TrueInkModel", "goesOn", "()V"⟩, 78) := ⟨⟨by decide +kernel, by decide +kernel⟩, List.mem_of_getElem? (i := 1177) (by decide +kernel), List.mem_of_getElem? (i := 1538) (by decide +kernel), List.mem_of_getElem? (i := 1539) (by decide +kernel)⟩
theorem lw_p70 : lw_okq (⟨"TrueInkModel", "must", "(I)V"⟩, 78) := ⟨⟨by decide +kernel, by decide +kernel⟩, List.mem_of_getElem? (i := 1177) (by decide +kernel), List.mem_of_getElem? (i := 1542) (by decide +kernel), List.mem_of_getElem? (i := 1543) (by decide +kernel)⟩
theorem lw_p71 : lw_okq (⟨"TrueInkModel", "wrong", "(II)V"⟩, 78) := ⟨⟨by decide +kernel, by decide +kernel⟩, List.mem_of_getElem? (i := 1177) (by decide +kernel), List.mem_of_getElem? (i := 1546) (by decide +kernel), List.mem_of_getElem? (i := 1547) (by decide +kernel)⟩
theorem lw_p72 : lw_okq (⟨"TrueInkModel", "bounded", "(II)I"⟩, 78) := ⟨⟨by decide +kernel, by decide +kernel⟩, List.mem_of_getElem? (i := 1177) (by decide +kernel), List.mem_of_getElem? (i := 1550) (by decide +kernel), List.mem_of_getElem? (i := 1551) (by decide +kernel)⟩
theorem lw_p73 : lw_okq (⟨"TrueInkModel", "notes", "(II)V"⟩, 78) := ⟨⟨by decide +kernel, by decide +kernel⟩, List.mem_of_getElem? (i := 1177) (by decide +kernel), List.mem_of_getElem? (i := 1554) (by decide +kernel), List.mem_of_getElem? (i := 1555) (by decide +kernel)⟩
theorem lw_p74 : lw_okq (⟨"TrueInkModel", "tellLaw", "(I)V"⟩, 78) := ⟨⟨by decide +kernel, by decide +kernel⟩, List.mem_of_getElem? (i := 1177) (by decide +kernel), List.mem_of_getElem? (i := 1558) (by decide +kernel), List.mem_of_getElem? (i := 1559) (by decide +kernel)⟩
theorem lw_p75 : lw_okq (⟨"TrueInkModel", "expression", "()V"⟩, 78) := ⟨⟨by decide +kernel, by decide +kernel⟩, List.mem_of_getElem? (i := 1177) (by decide +kernel), List.mem_of_getElem? (i := 1562) (by decide +kernel), List.mem_of_getElem? (i := 1563) (by decide +kernel)⟩
theorem lw_p76 : lw_okq (⟨"TrueInkModel", "unit", "()V"⟩, 78) := ⟨⟨by decide +kernel, by decide +kernel⟩, List.mem_of_getElem? (i := 1177) (by decide +kernel), List.mem_of_getElem? (i := 1566) (by decide +kernel), List.mem_of_getElem? (i := 1567) (by decide +kernel)⟩
theorem lw_p77 : lw_okq (⟨"TrueInkModel", "emit", "(II)V"⟩, 78) := ⟨⟨by decide +kernel, by decide +kernel⟩, List.mem_of_getElem? (i := 1177) (by decide +kernel), List.mem_of_getElem? (i := 1570) (by decide +kernel), List.mem_of_getElem? (i := 1571) (by decide +kernel)⟩
theorem lw_p78 : lw_okq (⟨"TrueInkModel", "comesOut", "(Z)V"⟩, 78) := ⟨⟨by decide +kernel, by decide +kernel⟩, List.mem_of_getElem? (i := 1177) (by decide +kernel), List.mem_of_getElem? (i := 1574) (by decide +kernel), List.mem_of_getElem? (i := 1575) (by decide +kernel)⟩
theorem lw_p79 : lw_okq (⟨"TrueInkModel", "term", "()V"⟩, 78) := ⟨⟨by decide +kernel, by decide +kernel⟩, List.mem_of_getElem? (i := 1177) (by decide +kernel), List.mem_of_getElem? (i := 1578) (by decide +kernel), List.mem_of_getElem? (i := 1579) (by decide +kernel)⟩
def lw_privs_5 : List (MethodName × Nat) := [(⟨"TrueInkModel", "is", "(I)Z"⟩, 78), (⟨"TrueInkModel", "tell", "()V"⟩, 78), (⟨"TrueInkModel", "fail", "(I)V"⟩, 78), (⟨"TrueInkModel", "tellFact", "()V"⟩, 78), (⟨"TrueInkModel", "named", "()I"⟩, 78), (⟨"TrueInkModel", "goesOn", "()V"⟩, 78), (⟨"TrueInkModel", "must", "(I)V"⟩, 78), (⟨"TrueInkModel", "wrong", "(II)V"⟩, 78), (⟨"TrueInkModel", "bounded", "(II)I"⟩, 78), (⟨"TrueInkModel", "notes", "(II)V"⟩, 78), (⟨"TrueInkModel", "tellLaw", "(I)V"⟩, 78), (⟨"TrueInkModel", "expression", "()V"⟩, 78), (⟨"TrueInkModel", "unit", "()V"⟩, 78), (⟨"TrueInkModel", "emit", "(II)V"⟩, 78), (⟨"TrueInkModel", "comesOut", "(Z)V"⟩, 78), (⟨"TrueInkModel", "term", "()V"⟩, 78)]
theorem lw_r5 : ∀ q ∈ lw_privs_5, lw_okq q := List.forall_mem_cons.mpr ⟨lw_p64, List.forall_mem_cons.mpr ⟨lw_p65, List.forall_mem_cons.mpr ⟨lw_p66, List.forall_mem_cons.mpr ⟨lw_p67, List.forall_mem_cons.mpr ⟨lw_p68, List.forall_mem_cons.mpr ⟨lw_p69, List.forall_mem_cons.mpr ⟨lw_p70, List.forall_mem_cons.mpr ⟨lw_p71, List.forall_mem_cons.mpr ⟨lw_p72, List.forall_mem_cons.mpr ⟨lw_p73, List.forall_mem_cons.mpr ⟨lw_p74, List.forall_mem_cons.mpr ⟨lw_p75, List.forall_mem_cons.mpr ⟨lw_p76, List.forall_mem_cons.mpr ⟨lw_p77, List.forall_mem_cons.mpr ⟨lw_p78, List.forall_mem_cons.mpr ⟨lw_p79, fun _ h => absurd h List.not_mem_nil⟩⟩⟩⟩⟩⟩⟩⟩⟩⟩⟩⟩⟩⟩⟩⟩
theorem lw_p80 : lw_okq (⟨"TrueInkModel", "tellPage", "()V"⟩, 78) := ⟨⟨by decide +kernel, by decide +kernel⟩, List.mem_of_getElem? (i := 1177) (by decide +kernel), List.mem_of_getElem? (i := 1582) (by decide +kernel), List.mem_of_getElem? (i := 1583) (by decide +kernel)⟩
theorem lw_p81 : lw_okq (⟨"TrueInkModel", "tellClaim", "()V"⟩, 78) := ⟨⟨by decide +kernel, by decide +kernel⟩, List.mem_of_getElem? (i := 1177) (by decide +kernel), List.mem_of_getElem? (i := 1586) (by decide +kernel), List.mem_of_getElem? (i := 1587) (by decide +kernel)⟩
theorem lw_p82 : lw_okq (⟨"TrueInkModel", "findsNames", "()V"⟩, 78) := ⟨⟨by decide +kernel, by decide +kernel⟩, List.mem_of_getElem? (i := 1177) (by decide +kernel), List.mem_of_getElem? (i := 1590) (by decide +kernel), List.mem_of_getElem? (i := 1591) (by decide +kernel)⟩
theorem lw_p83 : lw_okq (⟨"TrueInkModel", "isFact", "(I)Z"⟩, 78) := ⟨⟨by decide +kernel, by decide +kernel⟩, List.mem_of_getElem? (i := 1177) (by decide +kernel), List.mem_of_getElem? (i := 1602) (by decide +kernel), List.mem_of_getElem? (i := 1603) (by decide +kernel)⟩
theorem lw_p84 : lw_okq (⟨"TrueInkModel", "isPage", "(I)Z"⟩, 78) := ⟨⟨by decide +kernel, by decide +kernel⟩, List.mem_of_getElem? (i := 1177) (by decide +kernel), List.mem_of_getElem? (i := 1613) (by decide +kernel), List.mem_of_getElem? (i := 1614) (by decide +kernel)⟩
theorem lw_p85 : lw_okq (⟨"TrueInkModel", "copies", "()V"⟩, 78) := ⟨⟨by decide +kernel, by decide +kernel⟩, List.mem_of_getElem? (i := 1177) (by decide +kernel), List.mem_of_getElem? (i := 1617) (by decide +kernel), List.mem_of_getElem? (i := 1618) (by decide +kernel)⟩
theorem lw_p86 : lw_okq (⟨"TrueInkModel", "goes", "(I)V"⟩, 78) := ⟨⟨by decide +kernel, by decide +kernel⟩, List.mem_of_getElem? (i := 1177) (by decide +kernel), List.mem_of_getElem? (i := 1629) (by decide +kernel), List.mem_of_getElem? (i := 1630) (by decide +kernel)⟩
theorem lw_p87 : lw_okq (⟨"TrueInkModel", "dayGoes", "()V"⟩, 78) := ⟨⟨by decide +kernel, by decide +kernel⟩, List.mem_of_getElem? (i := 1177) (by decide +kernel), List.mem_of_getElem? (i := 1633) (by decide +kernel), List.mem_of_getElem? (i := 1634) (by decide +kernel)⟩
theorem lw_p88 : lw_okq (⟨"TrueInkModel", "goesTo", "(I)I"⟩, 78) := ⟨⟨by decide +kernel, by decide +kernel⟩, List.mem_of_getElem? (i := 1177) (by decide +kernel), List.mem_of_getElem? (i := 1637) (by decide +kernel), List.mem_of_getElem? (i := 1638) (by decide +kernel)⟩
theorem lw_p89 : lw_okq (⟨"TrueInkModel", "lotOf", "(I)I"⟩, 78) := ⟨⟨by decide +kernel, by decide +kernel⟩, List.mem_of_getElem? (i := 1177) (by decide +kernel), List.mem_of_getElem? (i := 1641) (by decide +kernel), List.mem_of_getElem? (i := 1642) (by decide +kernel)⟩
theorem lw_p90 : lw_okq (⟨"TrueInkModel", "keeps", "()V"⟩, 78) := ⟨⟨by decide +kernel, by decide +kernel⟩, List.mem_of_getElem? (i := 1177) (by decide +kernel), List.mem_of_getElem? (i := 1649) (by decide +kernel), List.mem_of_getElem? (i := 1650) (by decide +kernel)⟩
theorem lw_p91 : lw_okq (⟨"TrueInkModel", "worldNow", "()I"⟩, 78) := ⟨⟨by decide +kernel, by decide +kernel⟩, List.mem_of_getElem? (i := 1177) (by decide +kernel), List.mem_of_getElem? (i := 1669) (by decide +kernel), List.mem_of_getElem? (i := 1670) (by decide +kernel)⟩
theorem lw_p92 : lw_okq (⟨"TrueInkModel", "isBlack", "(I)Z"⟩, 78) := ⟨⟨by decide +kernel, by decide +kernel⟩, List.mem_of_getElem? (i := 1177) (by decide +kernel), List.mem_of_getElem? (i := 1681) (by decide +kernel), List.mem_of_getElem? (i := 1682) (by decide +kernel)⟩
theorem lw_p93 : lw_okq (⟨"TrueInkModel", "unlikeNow", "(I)I"⟩, 78) := ⟨⟨by decide +kernel, by decide +kernel⟩, List.mem_of_getElem? (i := 1177) (by decide +kernel), List.mem_of_getElem? (i := 1716) (by decide +kernel), List.mem_of_getElem? (i := 1717) (by decide +kernel)⟩
theorem lw_p94 : lw_okq (⟨"TrueInkModel", "factIn", "(II)I"⟩, 78) := ⟨⟨by decide +kernel, by decide +kernel⟩, List.mem_of_getElem? (i := 1177) (by decide +kernel), List.mem_of_getElem? (i := 1720) (by decide +kernel), List.mem_of_getElem? (i := 1721) (by decide +kernel)⟩
theorem lw_p95 : lw_okq (⟨"TrueInkModel", "tries", "(I)V"⟩, 78) := ⟨⟨by decide +kernel, by decide +kernel⟩, List.mem_of_getElem? (i := 1177) (by decide +kernel), List.mem_of_getElem? (i := 1724) (by decide +kernel), List.mem_of_getElem? (i := 1725) (by decide +kernel)⟩
def lw_privs_6 : List (MethodName × Nat) := [(⟨"TrueInkModel", "tellPage", "()V"⟩, 78), (⟨"TrueInkModel", "tellClaim", "()V"⟩, 78), (⟨"TrueInkModel", "findsNames", "()V"⟩, 78), (⟨"TrueInkModel", "isFact", "(I)Z"⟩, 78), (⟨"TrueInkModel", "isPage", "(I)Z"⟩, 78), (⟨"TrueInkModel", "copies", "()V"⟩, 78), (⟨"TrueInkModel", "goes", "(I)V"⟩, 78), (⟨"TrueInkModel", "dayGoes", "()V"⟩, 78), (⟨"TrueInkModel", "goesTo", "(I)I"⟩, 78), (⟨"TrueInkModel", "lotOf", "(I)I"⟩, 78), (⟨"TrueInkModel", "keeps", "()V"⟩, 78), (⟨"TrueInkModel", "worldNow", "()I"⟩, 78), (⟨"TrueInkModel", "isBlack", "(I)Z"⟩, 78), (⟨"TrueInkModel", "unlikeNow", "(I)I"⟩, 78), (⟨"TrueInkModel", "factIn", "(II)I"⟩, 78), (⟨"TrueInkModel", "tries", "(I)V"⟩, 78)]
theorem lw_r6 : ∀ q ∈ lw_privs_6, lw_okq q := List.forall_mem_cons.mpr ⟨lw_p80, List.forall_mem_cons.mpr ⟨lw_p81, List.forall_mem_cons.mpr ⟨lw_p82, List.forall_mem_cons.mpr ⟨lw_p83, List.forall_mem_cons.mpr ⟨lw_p84, List.forall_mem_cons.mpr ⟨lw_p85, List.forall_mem_cons.mpr ⟨lw_p86, List.forall_mem_cons.mpr ⟨lw_p87, List.forall_mem_cons.mpr ⟨lw_p88, List.forall_mem_cons.mpr ⟨lw_p89, List.forall_mem_cons.mpr ⟨lw_p90, List.forall_mem_cons.mpr ⟨lw_p91, List.forall_mem_cons.mpr ⟨lw_p92, List.forall_mem_cons.mpr ⟨lw_p93, List.forall_mem_cons.mpr ⟨lw_p94, List.forall_mem_cons.mpr ⟨lw_p95, fun _ h => absurd h List.not_mem_nil⟩⟩⟩⟩⟩⟩⟩⟩⟩⟩⟩⟩⟩⟩⟩⟩
theorem lw_p96 : lw_okq (⟨"TrueInkModel", "fillsWorlds", "()V"⟩, 78) := ⟨⟨by decide +kernel, by decide +kernel⟩, List.mem_of_getElem? (i := 1177) (by decide +kernel), List.mem_of_getElem? (i := 1732) (by decide +kernel), List.mem_of_getElem? (i := 1733) (by decide +kernel)⟩
theorem lw_p97 : lw_okq (⟨"TrueInkModel", "counts", "(I)I"⟩, 78) := ⟨⟨by decide +kernel, by decide +kernel⟩, List.mem_of_getElem? (i := 1177) (by decide +kernel), List.mem_of_getElem? (i := 1747) (by decide +kernel), List.mem_of_getElem? (i := 1748) (by decide +kernel)⟩
theorem lw_p98 : lw_okq (⟨"TrueInkModel", "blackPages", "(I)I"⟩, 78) := ⟨⟨by decide +kernel, by decide +kernel⟩, List.mem_of_getElem? (i := 1177) (by decide +kernel), List.mem_of_getElem? (i := 1759) (by decide +kernel), List.mem_of_getElem? (i := 1760) (by decide +kernel)⟩
theorem lw_p99 : lw_okq (⟨"TrueInkModel", "isResting", "(III)Z"⟩, 78) := ⟨⟨by decide +kernel, by decide +kernel⟩, List.mem_of_getElem? (i := 1177) (by decide +kernel), List.mem_of_getElem? (i := 1767) (by decide +kernel), List.mem_of_getElem? (i := 1768) (by decide +kernel)⟩
theorem lw_p100 : lw_okq (⟨"TrueInkModel", "isAlikeBut", "(III)Z"⟩, 78) := ⟨⟨by decide +kernel, by decide +kernel⟩, List.mem_of_getElem? (i := 1177) (by decide +kernel), List.mem_of_getElem? (i := 1771) (by decide +kernel), List.mem_of_getElem? (i := 1772) (by decide +kernel)⟩
theorem lw_p101 : lw_okq (⟨"TrueInkModel", "fillsBehind", "(I)V"⟩, 78) := ⟨⟨by decide +kernel, by decide +kernel⟩, List.mem_of_getElem? (i := 1177) (by decide +kernel), List.mem_of_getElem? (i := 1782) (by decide +kernel), List.mem_of_getElem? (i := 1783) (by decide +kernel)⟩
theorem lw_p102 : lw_okq (⟨"TrueInkModel", "clears", "()V"⟩, 78) := ⟨⟨by decide +kernel, by decide +kernel⟩, List.mem_of_getElem? (i := 1177) (by decide +kernel), List.mem_of_getElem? (i := 1786) (by decide +kernel), List.mem_of_getElem? (i := 1787) (by decide +kernel)⟩
theorem lw_p103 : lw_okq (⟨"TrueInkModel", "tellsAll", "(I)Z"⟩, 78) := ⟨⟨by decide +kernel, by decide +kernel⟩, List.mem_of_getElem? (i := 1177) (by decide +kernel), List.mem_of_getElem? (i := 1797) (by decide +kernel), List.mem_of_getElem? (i := 1798) (by decide +kernel)⟩
theorem lw_p104 : lw_okq (⟨"TrueInkModel", "isKnown", "(I)Z"⟩, 78) := ⟨⟨by decide +kernel, by decide +kernel⟩, List.mem_of_getElem? (i := 1177) (by decide +kernel), List.mem_of_getElem? (i := 1813) (by decide +kernel), List.mem_of_getElem? (i := 1814) (by decide +kernel)⟩
theorem lw_p105 : lw_okq (⟨"TrueInkModel", "isFit", "(II)Z"⟩, 78) := ⟨⟨by decide +kernel, by decide +kernel⟩, List.mem_of_getElem? (i := 1177) (by decide +kernel), List.mem_of_getElem? (i := 1817) (by decide +kernel), List.mem_of_getElem? (i := 1818) (by decide +kernel)⟩
def lw_privs_7 : List (MethodName × Nat) := [(⟨"TrueInkModel", "fillsWorlds", "()V"⟩, 78), (⟨"TrueInkModel", "counts", "(I)I"⟩, 78), (⟨"TrueInkModel", "blackPages", "(I)I"⟩, 78), (⟨"TrueInkModel", "isResting", "(III)Z"⟩, 78), (⟨"TrueInkModel", "isAlikeBut", "(III)Z"⟩, 78), (⟨"TrueInkModel", "fillsBehind", "(I)V"⟩, 78), (⟨"TrueInkModel", "clears", "()V"⟩, 78), (⟨"TrueInkModel", "tellsAll", "(I)Z"⟩, 78), (⟨"TrueInkModel", "isKnown", "(I)Z"⟩, 78), (⟨"TrueInkModel", "isFit", "(II)Z"⟩, 78)]
theorem lw_r7 : ∀ q ∈ lw_privs_7, lw_okq q := List.forall_mem_cons.mpr ⟨lw_p96, List.forall_mem_cons.mpr ⟨lw_p97, List.forall_mem_cons.mpr ⟨lw_p98, List.forall_mem_cons.mpr ⟨lw_p99, List.forall_mem_cons.mpr ⟨lw_p100, List.forall_mem_cons.mpr ⟨lw_p101, List.forall_mem_cons.mpr ⟨lw_p102, List.forall_mem_cons.mpr ⟨lw_p103, List.forall_mem_cons.mpr ⟨lw_p104, List.forall_mem_cons.mpr ⟨lw_p105, fun _ h => absurd h List.not_mem_nil⟩⟩⟩⟩⟩⟩⟩⟩⟩⟩
def lw_privs : List (MethodName × Nat) := lw_privs_1 ++ (lw_privs_2 ++ (lw_privs_3 ++ (lw_privs_4 ++ (lw_privs_5 ++ (lw_privs_6 ++ (lw_privs_7))))))
def lw_tbl : List Cond := k2_sels lw_privs ++ tables_1
theorem lw_privs_ok : ∀ q ∈ lw_privs, lw_okq q := by
  show ∀ q ∈ lw_privs_1 ++ (lw_privs_2 ++ (lw_privs_3 ++ (lw_privs_4 ++ (lw_privs_5 ++ (lw_privs_6 ++ (lw_privs_7)))))), lw_okq q
  exact List.forall_mem_append.mpr ⟨lw_r1, List.forall_mem_append.mpr ⟨lw_r2, List.forall_mem_append.mpr ⟨lw_r3, List.forall_mem_append.mpr ⟨lw_r4, List.forall_mem_append.mpr ⟨lw_r5, List.forall_mem_append.mpr ⟨lw_r6, lw_r7⟩⟩⟩⟩⟩⟩
def RX0 : String := "TrueInk$Ahead"
def TX0 : u_T := fun k => match k with
  | 0 => ("TrueInk$Ahead", "reached", "I", false)
  | 1 => ("TrueInk$Ahead", "press", "LTrueInk$Press;", true)
  | 2 => ("TrueInk$Ahead", "row", "[I", true)
  | 3 => ("TrueInk$Ahead", "hoped", "[I", true)
  | 4 => ("TrueInk$Ahead", "shades", "[I", true)
  | _ => ("TrueInk$Ahead", "worlds", "[I", true)
def tyX0 : Nat → FieldType := fun k => match k with
  | 0 => .int
  | 1 => .object "TrueInk$Press"
  | 2 => .array .int
  | 3 => .array .int
  | 4 => .array .int
  | _ => .array .int
abbrev wsX00 : List Cond := u_ws RX0 TX0 6
theorem nmX0 : ∀ a, a < 6 → ∀ b, b < 6 → a ≠ b → (TX0 a).2.1 ≠ (TX0 b).2.1 := by decide +kernel
theorem tyX0_ok : ∀ k, k < 6 → parseFieldDescriptor (TX0 k).2.2.1 = some (tyX0 k) := by decide +kernel
def RX1 : String := "TrueInk$Begun"
def TX1 : u_T := fun k => match k with
  | 0 => ("TrueInk$Begun", "seenCount", "I", false)
  | 1 => ("TrueInk$Begun", "press", "LTrueInk$Press;", true)
  | 2 => ("TrueInk$Begun", "seenPage", "[I", true)
  | 3 => ("TrueInk$Begun", "seenDay", "[I", true)
  | 4 => ("TrueInk$Begun", "seenShade", "[I", true)
  | 5 => ("TrueInk$Begun", "row", "[I", true)
  | 6 => ("TrueInk$Begun", "parted", "[I", true)
  | 7 => ("TrueInk$Begun", "reached", "I", false)
  | 8 => ("TrueInk$Begun", "worlds", "[I", false)
  | 9 => ("TrueInk$Begun", "shades", "[I", false)
  | 10 => ("TrueInk$Begun", "marks", "[I", false)
  | 11 => ("TrueInk$Begun", "from", "[I", false)
  | _ => ("TrueInk$Begun", "into", "[I", false)
def tyX1 : Nat → FieldType := fun k => match k with
  | 0 => .int
  | 1 => .object "TrueInk$Press"
  | 2 => .array .int
  | 3 => .array .int
  | 4 => .array .int
  | 5 => .array .int
  | 6 => .array .int
  | 7 => .int
  | 8 => .array .int
  | 9 => .array .int
  | 10 => .array .int
  | 11 => .array .int
  | _ => .array .int
abbrev wsX10 : List Cond := u_ws RX1 TX1 13
theorem nmX1 : ∀ a, a < 13 → ∀ b, b < 13 → a ≠ b → (TX1 a).2.1 ≠ (TX1 b).2.1 := by decide +kernel
theorem tyX1_ok : ∀ k, k < 13 → parseFieldDescriptor (TX1 k).2.2.1 = some (tyX1 k) := by decide +kernel
def RX2 : String := "TrueInk$Past"
def TX2 : u_T := fun k => match k with
  | 0 => ("TrueInk$Past", "size", "I", false)
  | 1 => ("TrueInk$Past", "top", "I", false)
  | _ => ("TrueInk$Past", "rows", "[I", true)
def tyX2 : Nat → FieldType := fun k => match k with
  | 0 => .int
  | 1 => .int
  | _ => .array .int
abbrev wsX20 : List Cond := u_ws RX2 TX2 3
theorem nmX2 : ∀ a, a < 3 → ∀ b, b < 3 → a ≠ b → (TX2 a).2.1 ≠ (TX2 b).2.1 := by decide +kernel
theorem tyX2_ok : ∀ k, k < 3 → parseFieldDescriptor (TX2 k).2.2.1 = some (tyX2 k) := by decide +kernel
def RX3 : String := "TrueInk$Press"
def TX3 : u_T := fun k => match k with
  | 0 => ("TrueInk$Press", "script", "LTrueInk$Script;", false)
  | 1 => ("TrueInk$Press", "stack", "[I", true)
  | 2 => ("TrueInk$Press", "been", "[I", true)
  | 3 => ("TrueInk$Press", "fresh", "[I", true)
  | 4 => ("TrueInk$Press", "firm", "[I", true)
  | _ => ("TrueInk$Press", "value", "I", false)
def tyX3 : Nat → FieldType := fun k => match k with
  | 0 => .object "TrueInk$Script"
  | 1 => .array .int
  | 2 => .array .int
  | 3 => .array .int
  | 4 => .array .int
  | _ => .int
abbrev wsX30 : List Cond := u_ws RX3 TX3 6
theorem nmX3 : ∀ a, a < 6 → ∀ b, b < 6 → a ≠ b → (TX3 a).2.1 ≠ (TX3 b).2.1 := by decide +kernel
theorem tyX3_ok : ∀ k, k < 6 → parseFieldDescriptor (TX3 k).2.2.1 = some (tyX3 k) := by decide +kernel
def RX4 : String := "TrueInk$Reader"
def TX4 : u_T := fun k => match k with
  | 0 => ("TrueInk$Reader", "faultPlace", "I", false)
  | 1 => ("TrueInk$Reader", "fault", "I", false)
  | 2 => ("TrueInk$Reader", "softFault", "I", false)
  | 3 => ("TrueInk$Reader", "softPlace", "I", false)
  | 4 => ("TrueInk$Reader", "tokens", "I", false)
  | 5 => ("TrueInk$Reader", "at", "I", false)
  | 6 => ("TrueInk$Reader", "pageNow", "I", false)
  | 7 => ("TrueInk$Reader", "waitCount", "I", false)
  | 8 => ("TrueInk$Reader", "into", "LTrueInk$Script;", false)
  | 9 => ("TrueInk$Reader", "words", "[J", true)
  | 10 => ("TrueInk$Reader", "kinds", "[I", true)
  | 11 => ("TrueInk$Reader", "places", "[I", true)
  | 12 => ("TrueInk$Reader", "values", "[J", true)
  | 13 => ("TrueInk$Reader", "waiting", "[I", true)
  | 14 => ("TrueInk$Reader", "factNames", "[J", true)
  | _ => ("TrueInk$Reader", "pageNames", "[J", true)
def tyX4 : Nat → FieldType := fun k => match k with
  | 0 => .int
  | 1 => .int
  | 2 => .int
  | 3 => .int
  | 4 => .int
  | 5 => .int
  | 6 => .int
  | 7 => .int
  | 8 => .object "TrueInk$Script"
  | 9 => .array .long
  | 10 => .array .int
  | 11 => .array .int
  | 12 => .array .long
  | 13 => .array .int
  | 14 => .array .long
  | _ => .array .long
abbrev wsX40 : List Cond := u_ws RX4 TX4 16
theorem nmX4 : ∀ a, a < 16 → ∀ b, b < 16 → a ≠ b → (TX4 a).2.1 ≠ (TX4 b).2.1 := by decide +kernel
theorem tyX4_ok : ∀ k, k < 16 → parseFieldDescriptor (TX4 k).2.2.1 = some (tyX4 k) := by decide +kernel
def RX5 : String := "TrueInk$Script"
def TX5 : u_T := fun k => match k with
  | 0 => ("TrueInk$Script", "facts", "I", false)
  | 1 => ("TrueInk$Script", "pages", "I", false)
  | 2 => ("TrueInk$Script", "slips", "I", false)
  | 3 => ("TrueInk$Script", "seed", "I", false)
  | 4 => ("TrueInk$Script", "mine", "I", false)
  | 5 => ("TrueInk$Script", "yours", "I", false)
  | 6 => ("TrueInk$Script", "worldCount", "I", false)
  | 7 => ("TrueInk$Script", "length", "I", false)
  | 8 => ("TrueInk$Script", "steady", "Z", false)
  | 9 => ("TrueInk$Script", "most", "[I", true)
  | 10 => ("TrueInk$Script", "told", "[I", true)
  | 11 => ("TrueInk$Script", "counts", "[I", true)
  | 12 => ("TrueInk$Script", "law", "[I", true)
  | 13 => ("TrueInk$Script", "shading", "[I", true)
  | 14 => ("TrueInk$Script", "claimCount", "[I", true)
  | 15 => ("TrueInk$Script", "loose", "[I", true)
  | 16 => ("TrueInk$Script", "claim", "[I", true)
  | _ => ("TrueInk$Script", "code", "[I", true)
def tyX5 : Nat → FieldType := fun k => match k with
  | 0 => .int
  | 1 => .int
  | 2 => .int
  | 3 => .int
  | 4 => .int
  | 5 => .int
  | 6 => .int
  | 7 => .int
  | 8 => .boolean
  | 9 => .array .int
  | 10 => .array .int
  | 11 => .array .int
  | 12 => .array .int
  | 13 => .array .int
  | 14 => .array .int
  | 15 => .array .int
  | 16 => .array .int
  | _ => .array .int
abbrev wsX50 : List Cond := u_ws RX5 TX5 18
theorem nmX5 : ∀ a, a < 18 → ∀ b, b < 18 → a ≠ b → (TX5 a).2.1 ≠ (TX5 b).2.1 := by decide +kernel
theorem tyX5_ok : ∀ k, k < 18 → parseFieldDescriptor (TX5 k).2.2.1 = some (tyX5 k) := by decide +kernel
def RX6 : String := "TrueInk$Stands"
def TX6 : u_T := fun k => match k with
  | 0 => ("TrueInk$Stands", "ready", "Z", false)
  | 1 => ("TrueInk$Stands", "standCount", "I", false)
  | 2 => ("TrueInk$Stands", "press", "LTrueInk$Press;", true)
  | 3 => ("TrueInk$Stands", "row", "[I", true)
  | 4 => ("TrueInk$Stands", "canBe", "[I", true)
  | _ => ("TrueInk$Stands", "bits", "[J", false)
def tyX6 : Nat → FieldType := fun k => match k with
  | 0 => .boolean
  | 1 => .int
  | 2 => .object "TrueInk$Press"
  | 3 => .array .int
  | 4 => .array .int
  | _ => .array .long
abbrev wsX60 : List Cond := u_ws RX6 TX6 6
theorem nmX6 : ∀ a, a < 6 → ∀ b, b < 6 → a ≠ b → (TX6 a).2.1 ≠ (TX6 b).2.1 := by decide +kernel
theorem tyX6_ok : ∀ k, k < 6 → parseFieldDescriptor (TX6 k).2.2.1 = some (tyX6 k) := by decide +kernel
def RX7 : String := "TrueInk$Worlds"
def TX7 : u_T := fun k => match k with
  | 0 => ("TrueInk$Worlds", "ready", "Z", false)
  | 1 => ("TrueInk$Worlds", "press", "LTrueInk$Press;", true)
  | 2 => ("TrueInk$Worlds", "row", "[I", true)
  | 3 => ("TrueInk$Worlds", "untrue", "[I", true)
  | 4 => ("TrueInk$Worlds", "shades", "[I", false)
  | 5 => ("TrueInk$Worlds", "whitestMine", "[I", false)
  | _ => ("TrueInk$Worlds", "whitestYours", "[I", false)
def tyX7 : Nat → FieldType := fun k => match k with
  | 0 => .boolean
  | 1 => .object "TrueInk$Press"
  | 2 => .array .int
  | 3 => .array .int
  | 4 => .array .int
  | 5 => .array .int
  | _ => .array .int
abbrev wsX70 : List Cond := u_ws RX7 TX7 7
theorem nmX7 : ∀ a, a < 7 → ∀ b, b < 7 → a ≠ b → (TX7 a).2.1 ≠ (TX7 b).2.1 := by decide +kernel
theorem tyX7_ok : ∀ k, k < 7 → parseFieldDescriptor (TX7 k).2.2.1 = some (tyX7 k) := by decide +kernel
def RX8 : String := "TrueInk"
def TX8 : u_T := fun k => match k with
  | 0 => ("TrueInk", "tape", "[B", true)
  | 1 => ("TrueInk", "tapeLength", "I", false)
  | 2 => ("TrueInk", "faultPlace", "I", false)
  | 3 => ("TrueInk", "reader", "LTrueInk$Reader;", true)
  | 4 => ("TrueInk", "script", "LTrueInk$Script;", false)
  | 5 => ("TrueInk", "spare", "LTrueInk$Script;", false)
  | 6 => ("TrueInk", "press", "LTrueInk$Press;", true)
  | 7 => ("TrueInk", "now", "[I", true)
  | 8 => ("TrueInk", "past", "LTrueInk$Past;", true)
  | 9 => ("TrueInk", "slots", "[I", true)
  | 10 => ("TrueInk", "heldSlots", "I", false)
  | 11 => ("TrueInk", "worlds", "LTrueInk$Worlds;", true)
  | 12 => ("TrueInk", "stands", "LTrueInk$Stands;", true)
  | 13 => ("TrueInk", "ahead", "LTrueInk$Ahead;", true)
  | _ => ("TrueInk", "begun", "LTrueInk$Begun;", true)
def tyX8 : Nat → FieldType := fun k => match k with
  | 0 => .array .byte
  | 1 => .int
  | 2 => .int
  | 3 => .object "TrueInk$Reader"
  | 4 => .object "TrueInk$Script"
  | 5 => .object "TrueInk$Script"
  | 6 => .object "TrueInk$Press"
  | 7 => .array .int
  | 8 => .object "TrueInk$Past"
  | 9 => .array .int
  | 10 => .int
  | 11 => .object "TrueInk$Worlds"
  | 12 => .object "TrueInk$Stands"
  | 13 => .object "TrueInk$Ahead"
  | _ => .object "TrueInk$Begun"
abbrev wsX80 : List Cond := u_ws RX8 TX8 15
theorem nmX8 : ∀ a, a < 15 → ∀ b, b < 15 → a ≠ b → (TX8 a).2.1 ≠ (TX8 b).2.1 := by decide +kernel
theorem tyX8_ok : ∀ k, k < 15 → parseFieldDescriptor (TX8 k).2.2.1 = some (tyX8 k) := by decide +kernel
def RX9 : String := "TrueInkModel"
def TX9 : u_T := fun k => match k with
  | 0 => ("TrueInkModel", "thrown", "I", false)
  | 1 => ("TrueInkModel", "tape", "[B", true)
  | 2 => ("TrueInkModel", "taped", "I", false)
  | 3 => ("TrueInkModel", "text", "[B", true)
  | 4 => ("TrueInkModel", "size", "I", false)
  | 5 => ("TrueInkModel", "tKind", "[I", true)
  | 6 => ("TrueInkModel", "tPlace", "[I", true)
  | 7 => ("TrueInkModel", "tValue", "[I", true)
  | 8 => ("TrueInkModel", "tName", "[J", true)
  | 9 => ("TrueInkModel", "keys", "[J", true)
  | 10 => ("TrueInkModel", "tokens", "I", false)
  | 11 => ("TrueInkModel", "t", "I", false)
  | 12 => ("TrueInkModel", "open", "I", false)
  | 13 => ("TrueInkModel", "fault", "I", false)
  | 14 => ("TrueInkModel", "faultPlace", "I", false)
  | 15 => ("TrueInkModel", "worst", "I", false)
  | 16 => ("TrueInkModel", "worstPlace", "I", false)
  | 17 => ("TrueInkModel", "place", "I", false)
  | 18 => ("TrueInkModel", "live", "I", false)
  | 19 => ("TrueInkModel", "side", "I", false)
  | 20 => ("TrueInkModel", "names", "I", false)
  | 21 => ("TrueInkModel", "nameOf", "[J", true)
  | 22 => ("TrueInkModel", "nameAt", "[I", true)
  | 23 => ("TrueInkModel", "facts", "[I", true)
  | 24 => ("TrueInkModel", "mostOf", "[I", true)
  | 25 => ("TrueInkModel", "factTold", "[I", true)
  | 26 => ("TrueInkModel", "whose", "[I", true)
  | 27 => ("TrueInkModel", "worlds", "[I", true)
  | 28 => ("TrueInkModel", "pages", "[I", true)
  | 29 => ("TrueInkModel", "shading", "[I", true)
  | 30 => ("TrueInkModel", "claimFirst", "[I", true)
  | 31 => ("TrueInkModel", "claimLast", "[I", true)
  | 32 => ("TrueInkModel", "claims", "I", false)
  | 33 => ("TrueInkModel", "claimSort", "[I", true)
  | 34 => ("TrueInkModel", "claimFrom", "[I", true)
  | 35 => ("TrueInkModel", "claimMid", "[I", true)
  | 36 => ("TrueInkModel", "claimTo", "[I", true)
  | 37 => ("TrueInkModel", "slips", "[I", true)
  | 38 => ("TrueInkModel", "seed", "[I", true)
  | 39 => ("TrueInkModel", "refs", "I", false)
  | 40 => ("TrueInkModel", "refCode", "[I", true)
  | 41 => ("TrueInkModel", "refToken", "[I", true)
  | 42 => ("TrueInkModel", "inLaw", "Z", false)
  | 43 => ("TrueInkModel", "lawFirst", "[I", true)
  | 44 => ("TrueInkModel", "lawLast", "[I", true)
  | 45 => ("TrueInkModel", "branches", "I", false)
  | 46 => ("TrueInkModel", "hasTest", "[Z", true)
  | 47 => ("TrueInkModel", "testFrom", "[I", true)
  | 48 => ("TrueInkModel", "testMid", "[I", true)
  | 49 => ("TrueInkModel", "testTo", "[I", true)
  | 50 => ("TrueInkModel", "termTo", "[I", true)
  | 51 => ("TrueInkModel", "codes", "I", false)
  | 52 => ("TrueInkModel", "code", "[I", true)
  | 53 => ("TrueInkModel", "codeInt", "[I", true)
  | 54 => ("TrueInkModel", "waits", "[I", true)
  | 55 => ("TrueInkModel", "waiting", "I", false)
  | 56 => ("TrueInkModel", "variables", "[I", true)
  | 57 => ("TrueInkModel", "pile", "[I", true)
  | 58 => ("TrueInkModel", "isBroken", "Z", false)
  | 59 => ("TrueInkModel", "now", "[I", true)
  | 60 => ("TrueInkModel", "row", "[I", true)
  | 61 => ("TrueInkModel", "lots", "I", false)
  | 62 => ("TrueInkModel", "shadeThen", "[I", true)
  | 63 => ("TrueInkModel", "shadesAt", "[I", true)
  | 64 => ("TrueInkModel", "factThen", "[I", true)
  | 65 => ("TrueInkModel", "undos", "I", false)
  | 66 => ("TrueInkModel", "history", "[I", true)
  | 67 => ("TrueInkModel", "dayState", "[I", true)
  | 68 => ("TrueInkModel", "worldShades", "[I", true)
  | 69 => ("TrueInkModel", "notTrue", "[I", true)
  | 70 => ("TrueInkModel", "firstWith", "[I", true)
  | 71 => ("TrueInkModel", "seen", "I", false)
  | 72 => ("TrueInkModel", "seenPage", "[I", true)
  | 73 => ("TrueInkModel", "seenDays", "[I", true)
  | 74 => ("TrueInkModel", "seenShade", "[I", true)
  | 75 => ("TrueInkModel", "groupOf", "[I", true)
  | 76 => ("TrueInkModel", "isHeld", "[Z", true)
  | _ => ("TrueInkModel", "held", "[I", true)
def tyX9 : Nat → FieldType := fun k => match k with
  | 0 => .int
  | 1 => .array .byte
  | 2 => .int
  | 3 => .array .byte
  | 4 => .int
  | 5 => .array .int
  | 6 => .array .int
  | 7 => .array .int
  | 8 => .array .long
  | 9 => .array .long
  | 10 => .int
  | 11 => .int
  | 12 => .int
  | 13 => .int
  | 14 => .int
  | 15 => .int
  | 16 => .int
  | 17 => .int
  | 18 => .int
  | 19 => .int
  | 20 => .int
  | 21 => .array .long
  | 22 => .array .int
  | 23 => .array .int
  | 24 => .array .int
  | 25 => .array .int
  | 26 => .array .int
  | 27 => .array .int
  | 28 => .array .int
  | 29 => .array .int
  | 30 => .array .int
  | 31 => .array .int
  | 32 => .int
  | 33 => .array .int
  | 34 => .array .int
  | 35 => .array .int
  | 36 => .array .int
  | 37 => .array .int
  | 38 => .array .int
  | 39 => .int
  | 40 => .array .int
  | 41 => .array .int
  | 42 => .boolean
  | 43 => .array .int
  | 44 => .array .int
  | 45 => .int
  | 46 => .array .boolean
  | 47 => .array .int
  | 48 => .array .int
  | 49 => .array .int
  | 50 => .array .int
  | 51 => .int
  | 52 => .array .int
  | 53 => .array .int
  | 54 => .array .int
  | 55 => .int
  | 56 => .array .int
  | 57 => .array .int
  | 58 => .boolean
  | 59 => .array .int
  | 60 => .array .int
  | 61 => .int
  | 62 => .array .int
  | 63 => .array .int
  | 64 => .array .int
  | 65 => .int
  | 66 => .array .int
  | 67 => .array .int
  | 68 => .array .int
  | 69 => .array .int
  | 70 => .array .int
  | 71 => .int
  | 72 => .array .int
  | 73 => .array .int
  | 74 => .array .int
  | 75 => .array .int
  | 76 => .array .boolean
  | _ => .array .int
abbrev wsX90 : List Cond := u_ws RX9 TX9 78
theorem nmX9 : ∀ a, a < 78 → ∀ b, b < 78 → a ≠ b → (TX9 a).2.1 ≠ (TX9 b).2.1 := by decide +kernel
theorem tyX9_ok : ∀ k, k < 78 → parseFieldDescriptor (TX9 k).2.2.1 = some (tyX9 k) := by decide +kernel
def kls : List vw_C := [(RX0, TX0, 6), (RX1, TX1, 13), (RX2, TX2, 3), (RX3, TX3, 6), (RX4, TX4, 16), (RX5, TX5, 18), (RX6, TX6, 6), (RX7, TX7, 7), (RX8, TX8, 15), (RX9, TX9, 78)]
def x_ty (ci : Nat) : Nat → FieldType := match ci with
  | 0 => tyX0
  | 1 => tyX1
  | 2 => tyX2
  | 3 => tyX3
  | 4 => tyX4
  | 5 => tyX5
  | 6 => tyX6
  | 7 => tyX7
  | 8 => tyX8
  | _ => tyX9
def x_T (ci : Nat) : u_T := match ci with
  | 0 => TX0
  | 1 => TX1
  | 2 => TX2
  | 3 => TX3
  | 4 => TX4
  | 5 => TX5
  | 6 => TX6
  | 7 => TX7
  | 8 => TX8
  | _ => TX9
def x_nf (ci : Nat) : Nat := match ci with
  | 0 => 6
  | 1 => 13
  | 2 => 3
  | 3 => 6
  | 4 => 16
  | 5 => 18
  | 6 => 6
  | 7 => 7
  | 8 => 15
  | _ => 78
