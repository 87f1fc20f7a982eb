section
-- ===== PART A: goes FIRST, ahead of the names: the tables' words, and 'selects' of the private methods out of them =====
/-- a private method of a class that the tables say can be made, by its rows of tables_1 -/
def lw_okq (q : MethodName × Nat) : Prop := (q.1.cls ≠ "java/lang/invoke/MethodHandle" ∧ q.1.cls ≠ "java/lang/invoke/VarHandle") ∧ Cond.instantiable q.1.cls q.2 ∈ tables_1 ∧ Cond.privateMethod q.1 ∈ tables_1 ∧ Cond.instanceMethod q.1 ∈ tables_1
theorem lw_p0 : lw_okq (⟨"StormParting$Tape", "pastBlanks", "(I)I"⟩, 2) := ⟨⟨by decide +kernel, by decide +kernel⟩, List.mem_of_getElem? (i := 30) (by decide +kernel), List.mem_of_getElem? (i := 273) (by decide +kernel), List.mem_of_getElem? (i := 274) (by decide +kernel)⟩
theorem lw_p1 : lw_okq (⟨"StormParting$Tape", "isDigit", "(I)Z"⟩, 2) := ⟨⟨by decide +kernel, by decide +kernel⟩, List.mem_of_getElem? (i := 30) (by decide +kernel), List.mem_of_getElem? (i := 367) (by decide +kernel), List.mem_of_getElem? (i := 368) (by decide +kernel)⟩
theorem lw_p2 : lw_okq (⟨"StormParting$Tape", "valueOf", "(II)I"⟩, 2) := ⟨⟨by decide +kernel, by decide +kernel⟩, List.mem_of_getElem? (i := 30) (by decide +kernel), List.mem_of_getElem? (i := 371) (by decide +kernel), List.mem_of_getElem? (i := 372) (by decide +kernel)⟩
theorem lw_p3 : lw_okq (⟨"StormParting", "coverAt", "(I)LStormParting$Cover;"⟩, 10) := ⟨⟨by decide +kernel, by decide +kernel⟩, List.mem_of_getElem? (i := 22) (by decide +kernel), List.mem_of_getElem? (i := 404) (by decide +kernel), List.mem_of_getElem? (i := 405) (by decide +kernel)⟩
theorem lw_p4 : lw_okq (⟨"StormParting$ToldParting", "bar", "(LStormParting$Cover;II)Z"⟩, 6) := ⟨⟨by decide +kernel, by decide +kernel⟩, List.mem_of_getElem? (i := 100) (by decide +kernel), List.mem_of_getElem? (i := 468) (by decide +kernel), List.mem_of_getElem? (i := 469) (by decide +kernel)⟩
theorem lw_p5 : lw_okq (⟨"StormParting$ToldParting", "areTooNear", "(III)Z"⟩, 6) := ⟨⟨by decide +kernel, by decide +kernel⟩, List.mem_of_getElem? (i := 100) (by decide +kernel), List.mem_of_getElem? (i := 481) (by decide +kernel), List.mem_of_getElem? (i := 482) (by decide +kernel)⟩
theorem lw_p6 : lw_okq (⟨"StormParting$Search", "seeWhoIsNear", "()V"⟩, 14) := ⟨⟨by decide +kernel, by decide +kernel⟩, List.mem_of_getElem? (i := 129) (by decide +kernel), List.mem_of_getElem? (i := 586) (by decide +kernel), List.mem_of_getElem? (i := 587) (by decide +kernel)⟩
theorem lw_p7 : lw_okq (⟨"StormParting$Search", "listHappenings", "()V"⟩, 14) := ⟨⟨by decide +kernel, by decide +kernel⟩, List.mem_of_getElem? (i := 129) (by decide +kernel), List.mem_of_getElem? (i := 591) (by decide +kernel), List.mem_of_getElem? (i := 592) (by decide +kernel)⟩
theorem lw_p8 : lw_okq (⟨"StormParting$Search", "listSetsFrom", "(I)V"⟩, 14) := ⟨⟨by decide +kernel, by decide +kernel⟩, List.mem_of_getElem? (i := 129) (by decide +kernel), List.mem_of_getElem? (i := 595) (by decide +kernel), List.mem_of_getElem? (i := 596) (by decide +kernel)⟩
theorem lw_p9 : lw_okq (⟨"StormParting$Search", "areOne", "(I)Z"⟩, 14) := ⟨⟨by decide +kernel, by decide +kernel⟩, List.mem_of_getElem? (i := 129) (by decide +kernel), List.mem_of_getElem? (i := 599) (by decide +kernel), List.mem_of_getElem? (i := 600) (by decide +kernel)⟩
theorem lw_p10 : lw_okq (⟨"StormParting$Search", "list", "(I)V"⟩, 14) := ⟨⟨by decide +kernel, by decide +kernel⟩, List.mem_of_getElem? (i := 129) (by decide +kernel), List.mem_of_getElem? (i := 604) (by decide +kernel), List.mem_of_getElem? (i := 605) (by decide +kernel)⟩
theorem lw_p11 : lw_okq (⟨"StormParting$Search", "listRunsFrom", "(I)V"⟩, 14) := ⟨⟨by decide +kernel, by decide +kernel⟩, List.mem_of_getElem? (i := 129) (by decide +kernel), List.mem_of_getElem? (i := 613) (by decide +kernel), List.mem_of_getElem? (i := 614) (by decide +kernel)⟩
theorem lw_p12 : lw_okq (⟨"StormParting$Search", "part", "(III)V"⟩, 14) := ⟨⟨by decide +kernel, by decide +kernel⟩, List.mem_of_getElem? (i := 129) (by decide +kernel), List.mem_of_getElem? (i := 617) (by decide +kernel), List.mem_of_getElem? (i := 618) (by decide +kernel)⟩
theorem lw_p13 : lw_okq (⟨"StormParting$Search", "note", "(II)V"⟩, 14) := ⟨⟨by decide +kernel, by decide +kernel⟩, List.mem_of_getElem? (i := 129) (by decide +kernel), List.mem_of_getElem? (i := 621) (by decide +kernel), List.mem_of_getElem? (i := 622) (by decide +kernel)⟩
theorem lw_p14 : lw_okq (⟨"StormParting", "greatestFor", "(LStormParting$Cover;I)I"⟩, 10) := ⟨⟨by decide +kernel, by decide +kernel⟩, List.mem_of_getElem? (i := 22) (by decide +kernel), List.mem_of_getElem? (i := 639) (by decide +kernel), List.mem_of_getElem? (i := 640) (by decide +kernel)⟩
theorem lw_p15 : lw_okq (⟨"StormParting", "lossOfGreatestWeight", "(LStormParting$Cover;Z)I"⟩, 10) := ⟨⟨by decide +kernel, by decide +kernel⟩, List.mem_of_getElem? (i := 22) (by decide +kernel), List.mem_of_getElem? (i := 647) (by decide +kernel), List.mem_of_getElem? (i := 648) (by decide +kernel)⟩
def lw_privs_1 : List (MethodName × Nat) := [(⟨"StormParting$Tape", "pastBlanks", "(I)I"⟩, 2), (⟨"StormParting$Tape", "isDigit", "(I)Z"⟩, 2), (⟨"StormParting$Tape", "valueOf", "(II)I"⟩, 2), (⟨"StormParting", "coverAt", "(I)LStormParting$Cover;"⟩, 10), (⟨"StormParting$ToldParting", "bar", "(LStormParting$Cover;II)Z"⟩, 6), (⟨"StormParting$ToldParting", "areTooNear", "(III)Z"⟩, 6), (⟨"StormParting$Search", "seeWhoIsNear", "()V"⟩, 14), (⟨"StormParting$Search", "listHappenings", "()V"⟩, 14), (⟨"StormParting$Search", "listSetsFrom", "(I)V"⟩, 14), (⟨"StormParting$Search", "areOne", "(I)Z"⟩, 14), (⟨"StormParting$Search", "list", "(I)V"⟩, 14), (⟨"StormParting$Search", "listRunsFrom", "(I)V"⟩, 14), (⟨"StormParting$Search", "part", "(III)V"⟩, 14), (⟨"StormParting$Search", "note", "(II)V"⟩, 14), (⟨"StormParting", "greatestFor", "(LStormParting$Cover;I)I"⟩, 10), (⟨"StormParting", "lossOfGreatestWeight", "(LStormParting$Cover;Z)I"⟩, 10)]
theorem lw_r1 : ∀ q ∈ lw_privs_1, lw_okq q := List.forall_mem_cons.mpr ⟨lw_p0, List.forall_mem_cons.mpr ⟨lw_p1, List.forall_mem_cons.mpr ⟨lw_p2, List.forall_mem_cons.mpr ⟨lw_p3, List.forall_mem_cons.mpr ⟨lw_p4, List.forall_mem_cons.mpr ⟨lw_p5, List.forall_mem_cons.mpr ⟨lw_p6, List.forall_mem_cons.mpr ⟨lw_p7, List.forall_mem_cons.mpr ⟨lw_p8, List.forall_mem_cons.mpr ⟨lw_p9, List.forall_mem_cons.mpr ⟨lw_p10, List.forall_mem_cons.mpr ⟨lw_p11, List.forall_mem_cons.mpr ⟨lw_p12, List.forall_mem_cons.mpr ⟨lw_p13, List.forall_mem_cons.mpr ⟨lw_p14, List.forall_mem_cons.mpr ⟨lw_p15, fun _ h => absurd h List.not_mem_nil⟩⟩⟩⟩⟩⟩⟩⟩⟩⟩⟩⟩⟩⟩⟩⟩
theorem lw_p16 : lw_okq (⟨"StormParting", "greatestByOneParting", "(I)I"⟩, 10) := ⟨⟨by decide +kernel, by decide +kernel⟩, List.mem_of_getElem? (i := 22) (by decide +kernel), List.mem_of_getElem? (i := 659) (by decide +kernel), List.mem_of_getElem? (i := 660) (by decide +kernel)⟩
theorem lw_p17 : lw_okq (⟨"StormParting", "greatestByOwnPartings", "(I)I"⟩, 10) := ⟨⟨by decide +kernel, by decide +kernel⟩, List.mem_of_getElem? (i := 22) (by decide +kernel), List.mem_of_getElem? (i := 666) (by decide +kernel), List.mem_of_getElem? (i := 667) (by decide +kernel)⟩
theorem lw_p18 : lw_okq (⟨"java/lang/Throwable", "fillInStackTrace", "(I)Ljava/lang/Throwable;"⟩, 6) := ⟨⟨by decide +kernel, by decide +kernel⟩, List.mem_of_getElem? (i := 744) (by decide +kernel), List.mem_of_getElem? (i := 742) (by decide +kernel), List.mem_of_getElem? (i := 743) (by decide +kernel)⟩
theorem lw_p19 : lw_okq (⟨"StormPartingModel", "put", "(I)V"⟩, 42) := ⟨⟨by decide +kernel, by decide +kernel⟩, List.mem_of_getElem? (i := 769) (by decide +kernel), List.mem_of_getElem? (i := 913) (by decide +kernel), List.mem_of_getElem? (i := 914) (by decide +kernel)⟩
theorem lw_p20 : lw_okq (⟨"StormPartingModel", "readCover", "()Z"⟩, 42) := ⟨⟨by decide +kernel, by decide +kernel⟩, List.mem_of_getElem? (i := 769) (by decide +kernel), List.mem_of_getElem? (i := 925) (by decide +kernel), List.mem_of_getElem? (i := 926) (by decide +kernel)⟩
theorem lw_p21 : lw_okq (⟨"StormPartingModel", "look", "()I"⟩, 42) := ⟨⟨by decide +kernel, by decide +kernel⟩, List.mem_of_getElem? (i := 769) (by decide +kernel), List.mem_of_getElem? (i := 932) (by decide +kernel), List.mem_of_getElem? (i := 933) (by decide +kernel)⟩
theorem lw_p22 : lw_okq (⟨"StormPartingModel", "here", "()I"⟩, 42) := ⟨⟨by decide +kernel, by decide +kernel⟩, List.mem_of_getElem? (i := 769) (by decide +kernel), List.mem_of_getElem? (i := 936) (by decide +kernel), List.mem_of_getElem? (i := 937) (by decide +kernel)⟩
theorem lw_p23 : lw_okq (⟨"StormPartingModel", "fails", "(I)Z"⟩, 42) := ⟨⟨by decide +kernel, by decide +kernel⟩, List.mem_of_getElem? (i := 769) (by decide +kernel), List.mem_of_getElem? (i := 940) (by decide +kernel), List.mem_of_getElem? (i := 941) (by decide +kernel)⟩
theorem lw_p24 : lw_okq (⟨"StormPartingModel", "readWord", "(I)Z"⟩, 42) := ⟨⟨by decide +kernel, by decide +kernel⟩, List.mem_of_getElem? (i := 769) (by decide +kernel), List.mem_of_getElem? (i := 944) (by decide +kernel), List.mem_of_getElem? (i := 945) (by decide +kernel)⟩
theorem lw_p25 : lw_okq (⟨"StormPartingModel", "number", "(II)Z"⟩, 42) := ⟨⟨by decide +kernel, by decide +kernel⟩, List.mem_of_getElem? (i := 769) (by decide +kernel), List.mem_of_getElem? (i := 954) (by decide +kernel), List.mem_of_getElem? (i := 955) (by decide +kernel)⟩
theorem lw_p26 : lw_okq (⟨"StormPartingModel", "isDigit", "()Z"⟩, 42) := ⟨⟨by decide +kernel, by decide +kernel⟩, List.mem_of_getElem? (i := 769) (by decide +kernel), List.mem_of_getElem? (i := 958) (by decide +kernel), List.mem_of_getElem? (i := 959) (by decide +kernel)⟩
theorem lw_p27 : lw_okq (⟨"StormPartingModel", "isCover", "(I)Z"⟩, 42) := ⟨⟨by decide +kernel, by decide +kernel⟩, List.mem_of_getElem? (i := 769) (by decide +kernel), List.mem_of_getElem? (i := 975) (by decide +kernel), List.mem_of_getElem? (i := 976) (by decide +kernel)⟩
theorem lw_p28 : lw_okq (⟨"StormPartingModel", "wordOf", "(II)I"⟩, 42) := ⟨⟨by decide +kernel, by decide +kernel⟩, List.mem_of_getElem? (i := 769) (by decide +kernel), List.mem_of_getElem? (i := 979) (by decide +kernel), List.mem_of_getElem? (i := 980) (by decide +kernel)⟩
theorem lw_p29 : lw_okq (⟨"StormPartingModel", "isLoss", "(I)Z"⟩, 42) := ⟨⟨by decide +kernel, by decide +kernel⟩, List.mem_of_getElem? (i := 769) (by decide +kernel), List.mem_of_getElem? (i := 991) (by decide +kernel), List.mem_of_getElem? (i := 992) (by decide +kernel)⟩
theorem lw_p30 : lw_okq (⟨"StormPartingModel", "isSet", "(I)Z"⟩, 42) := ⟨⟨by decide +kernel, by decide +kernel⟩, List.mem_of_getElem? (i := 769) (by decide +kernel), List.mem_of_getElem? (i := 1000) (by decide +kernel), List.mem_of_getElem? (i := 1001) (by decide +kernel)⟩
theorem lw_p31 : lw_okq (⟨"StormPartingModel", "mayBeOne", "(II)Z"⟩, 42) := ⟨⟨by decide +kernel, by decide +kernel⟩, List.mem_of_getElem? (i := 769) (by decide +kernel), List.mem_of_getElem? (i := 1004) (by decide +kernel), List.mem_of_getElem? (i := 1005) (by decide +kernel)⟩
def lw_privs_2 : List (MethodName × Nat) := [(⟨"StormParting", "greatestByOneParting", "(I)I"⟩, 10), (⟨"StormParting", "greatestByOwnPartings", "(I)I"⟩, 10), (⟨"java/lang/Throwable", "fillInStackTrace", "(I)Ljava/lang/Throwable;"⟩, 6), (⟨"StormPartingModel", "put", "(I)V"⟩, 42), (⟨"StormPartingModel", "readCover", "()Z"⟩, 42), (⟨"StormPartingModel", "look", "()I"⟩, 42), (⟨"StormPartingModel", "here", "()I"⟩, 42), (⟨"StormPartingModel", "fails", "(I)Z"⟩, 42), (⟨"StormPartingModel", "readWord", "(I)Z"⟩, 42), (⟨"StormPartingModel", "number", "(II)Z"⟩, 42), (⟨"StormPartingModel", "isDigit", "()Z"⟩, 42), (⟨"StormPartingModel", "isCover", "(I)Z"⟩, 42), (⟨"StormPartingModel", "wordOf", "(II)I"⟩, 42), (⟨"StormPartingModel", "isLoss", "(I)Z"⟩, 42), (⟨"StormPartingModel", "isSet", "(I)Z"⟩, 42), (⟨"StormPartingModel", "mayBeOne", "(II)Z"⟩, 42)]
theorem lw_r2 : ∀ q ∈ lw_privs_2, lw_okq q := List.forall_mem_cons.mpr ⟨lw_p16, List.forall_mem_cons.mpr ⟨lw_p17, List.forall_mem_cons.mpr ⟨lw_p18, List.forall_mem_cons.mpr ⟨lw_p19, List.forall_mem_cons.mpr ⟨lw_p20, List.forall_mem_cons.mpr ⟨lw_p21, List.forall_mem_cons.mpr ⟨lw_p22, List.forall_mem_cons.mpr ⟨lw_p23, List.forall_mem_cons.mpr ⟨lw_p24, List.forall_mem_cons.mpr ⟨lw_p25, List.forall_mem_cons.mpr ⟨lw_p26, List.forall_mem_cons.mpr ⟨lw_p27, List.forall_mem_cons.mpr ⟨lw_p28, List.forall_mem_cons.mpr ⟨lw_p29, List.forall_mem_cons.mpr ⟨lw_p30, List.forall_mem_cons.mpr ⟨lw_p31, fun _ h => absurd h List.not_mem_nil⟩⟩⟩⟩⟩⟩⟩⟩⟩⟩⟩⟩⟩⟩⟩⟩
theorem lw_p32 : lw_okq (⟨"StormPartingModel", "mostHour", "(I)I"⟩, 42) := ⟨⟨by decide +kernel, by decide +kernel⟩, List.mem_of_getElem? (i := 769) (by decide +kernel), List.mem_of_getElem? (i := 1008) (by decide +kernel), List.mem_of_getElem? (i := 1009) (by decide +kernel)⟩
theorem lw_p33 : lw_okq (⟨"StormPartingModel", "leastHour", "(I)I"⟩, 42) := ⟨⟨by decide +kernel, by decide +kernel⟩, List.mem_of_getElem? (i := 769) (by decide +kernel), List.mem_of_getElem? (i := 1015) (by decide +kernel), List.mem_of_getElem? (i := 1016) (by decide +kernel)⟩
theorem lw_p34 : lw_okq (⟨"StormPartingModel", "areNear", "(III)Z"⟩, 42) := ⟨⟨by decide +kernel, by decide +kernel⟩, List.mem_of_getElem? (i := 769) (by decide +kernel), List.mem_of_getElem? (i := 1020) (by decide +kernel), List.mem_of_getElem? (i := 1021) (by decide +kernel)⟩
theorem lw_p35 : lw_okq (⟨"StormPartingModel", "sumOf", "(I)I"⟩, 42) := ⟨⟨by decide +kernel, by decide +kernel⟩, List.mem_of_getElem? (i := 769) (by decide +kernel), List.mem_of_getElem? (i := 1028) (by decide +kernel), List.mem_of_getElem? (i := 1029) (by decide +kernel)⟩
theorem lw_p36 : lw_okq (⟨"StormPartingModel", "paidOf", "(II)I"⟩, 42) := ⟨⟨by decide +kernel, by decide +kernel⟩, List.mem_of_getElem? (i := 769) (by decide +kernel), List.mem_of_getElem? (i := 1032) (by decide +kernel), List.mem_of_getElem? (i := 1033) (by decide +kernel)⟩
theorem lw_p37 : lw_okq (⟨"StormPartingModel", "judged", "(I)I"⟩, 42) := ⟨⟨by decide +kernel, by decide +kernel⟩, List.mem_of_getElem? (i := 769) (by decide +kernel), List.mem_of_getElem? (i := 1044) (by decide +kernel), List.mem_of_getElem? (i := 1045) (by decide +kernel)⟩
theorem lw_p38 : lw_okq (⟨"StormPartingModel", "bars", "(III)Z"⟩, 42) := ⟨⟨by decide +kernel, by decide +kernel⟩, List.mem_of_getElem? (i := 769) (by decide +kernel), List.mem_of_getElem? (i := 1048) (by decide +kernel), List.mem_of_getElem? (i := 1049) (by decide +kernel)⟩
theorem lw_p39 : lw_okq (⟨"StormPartingModel", "toldWith", "(I)I"⟩, 42) := ⟨⟨by decide +kernel, by decide +kernel⟩, List.mem_of_getElem? (i := 769) (by decide +kernel), List.mem_of_getElem? (i := 1052) (by decide +kernel), List.mem_of_getElem? (i := 1053) (by decide +kernel)⟩
theorem lw_p40 : lw_okq (⟨"StormPartingModel", "areApart", "(III)Z"⟩, 42) := ⟨⟨by decide +kernel, by decide +kernel⟩, List.mem_of_getElem? (i := 769) (by decide +kernel), List.mem_of_getElem? (i := 1056) (by decide +kernel), List.mem_of_getElem? (i := 1057) (by decide +kernel)⟩
theorem lw_p41 : lw_okq (⟨"StormPartingModel", "layRow", "()V"⟩, 42) := ⟨⟨by decide +kernel, by decide +kernel⟩, List.mem_of_getElem? (i := 769) (by decide +kernel), List.mem_of_getElem? (i := 1066) (by decide +kernel), List.mem_of_getElem? (i := 1067) (by decide +kernel)⟩
theorem lw_p42 : lw_okq (⟨"StormPartingModel", "isAhead", "(III)Z"⟩, 42) := ⟨⟨by decide +kernel, by decide +kernel⟩, List.mem_of_getElem? (i := 769) (by decide +kernel), List.mem_of_getElem? (i := 1070) (by decide +kernel), List.mem_of_getElem? (i := 1071) (by decide +kernel)⟩
theorem lw_p43 : lw_okq (⟨"StormPartingModel", "bringsBy", "(I)I"⟩, 42) := ⟨⟨by decide +kernel, by decide +kernel⟩, List.mem_of_getElem? (i := 769) (by decide +kernel), List.mem_of_getElem? (i := 1074) (by decide +kernel), List.mem_of_getElem? (i := 1075) (by decide +kernel)⟩
theorem lw_p44 : lw_okq (⟨"StormPartingModel", "netBy", "(I)I"⟩, 42) := ⟨⟨by decide +kernel, by decide +kernel⟩, List.mem_of_getElem? (i := 769) (by decide +kernel), List.mem_of_getElem? (i := 1078) (by decide +kernel), List.mem_of_getElem? (i := 1079) (by decide +kernel)⟩
theorem lw_p45 : lw_okq (⟨"StormPartingModel", "layAll", "(II)Z"⟩, 42) := ⟨⟨by decide +kernel, by decide +kernel⟩, List.mem_of_getElem? (i := 769) (by decide +kernel), List.mem_of_getElem? (i := 1090) (by decide +kernel), List.mem_of_getElem? (i := 1091) (by decide +kernel)⟩
theorem lw_p46 : lw_okq (⟨"StormPartingModel", "isTold", "(II)Z"⟩, 42) := ⟨⟨by decide +kernel, by decide +kernel⟩, List.mem_of_getElem? (i := 769) (by decide +kernel), List.mem_of_getElem? (i := 1094) (by decide +kernel), List.mem_of_getElem? (i := 1095) (by decide +kernel)⟩
theorem lw_p47 : lw_okq (⟨"StormPartingModel", "layPairs", "()V"⟩, 42) := ⟨⟨by decide +kernel, by decide +kernel⟩, List.mem_of_getElem? (i := 769) (by decide +kernel), List.mem_of_getElem? (i := 1099) (by decide +kernel), List.mem_of_getElem? (i := 1100) (by decide +kernel)⟩
def lw_privs_3 : List (MethodName × Nat) := [(⟨"StormPartingModel", "mostHour", "(I)I"⟩, 42), (⟨"StormPartingModel", "leastHour", "(I)I"⟩, 42), (⟨"StormPartingModel", "areNear", "(III)Z"⟩, 42), (⟨"StormPartingModel", "sumOf", "(I)I"⟩, 42), (⟨"StormPartingModel", "paidOf", "(II)I"⟩, 42), (⟨"StormPartingModel", "judged", "(I)I"⟩, 42), (⟨"StormPartingModel", "bars", "(III)Z"⟩, 42), (⟨"StormPartingModel", "toldWith", "(I)I"⟩, 42), (⟨"StormPartingModel", "areApart", "(III)Z"⟩, 42), (⟨"StormPartingModel", "layRow", "()V"⟩, 42), (⟨"StormPartingModel", "isAhead", "(III)Z"⟩, 42), (⟨"StormPartingModel", "bringsBy", "(I)I"⟩, 42), (⟨"StormPartingModel", "netBy", "(I)I"⟩, 42), (⟨"StormPartingModel", "layAll", "(II)Z"⟩, 42), (⟨"StormPartingModel", "isTold", "(II)Z"⟩, 42), (⟨"StormPartingModel", "layPairs", "()V"⟩, 42)]
theorem lw_r3 : ∀ q ∈ lw_privs_3, lw_okq q := List.forall_mem_cons.mpr ⟨lw_p32, List.forall_mem_cons.mpr ⟨lw_p33, List.forall_mem_cons.mpr ⟨lw_p34, List.forall_mem_cons.mpr ⟨lw_p35, List.forall_mem_cons.mpr ⟨lw_p36, List.forall_mem_cons.mpr ⟨lw_p37, List.forall_mem_cons.mpr ⟨lw_p38, List.forall_mem_cons.mpr ⟨lw_p39, List.forall_mem_cons.mpr ⟨lw_p40, List.forall_mem_cons.mpr ⟨lw_p41, List.forall_mem_cons.mpr ⟨lw_p42, List.forall_mem_cons.mpr ⟨lw_p43, List.forall_mem_cons.mpr ⟨lw_p44, List.forall_mem_cons.mpr ⟨lw_p45, List.forall_mem_cons.mpr ⟨lw_p46, List.forall_mem_cons.mpr ⟨lw_p47, fun _ h => absurd h List.not_mem_nil⟩⟩⟩⟩⟩⟩⟩⟩⟩⟩⟩⟩⟩⟩⟩⟩
theorem lw_p48 : lw_okq (⟨"StormPartingModel", "every", "()I"⟩, 42) := ⟨⟨by decide +kernel, by decide +kernel⟩, List.mem_of_getElem? (i := 769) (by decide +kernel), List.mem_of_getElem? (i := 1103) (by decide +kernel), List.mem_of_getElem? (i := 1104) (by decide +kernel)⟩
theorem lw_p49 : lw_okq (⟨"StormPartingModel", "isAsked", "(I)Z"⟩, 42) := ⟨⟨by decide +kernel, by decide +kernel⟩, List.mem_of_getElem? (i := 769) (by decide +kernel), List.mem_of_getElem? (i := 1107) (by decide +kernel), List.mem_of_getElem? (i := 1108) (by decide +kernel)⟩
theorem lw_p50 : lw_okq (⟨"StormPartingModel", "partByHours", "(I)V"⟩, 42) := ⟨⟨by decide +kernel, by decide +kernel⟩, List.mem_of_getElem? (i := 769) (by decide +kernel), List.mem_of_getElem? (i := 1111) (by decide +kernel), List.mem_of_getElem? (i := 1112) (by decide +kernel)⟩
theorem lw_p51 : lw_okq (⟨"StormPartingModel", "counts", "()V"⟩, 42) := ⟨⟨by decide +kernel, by decide +kernel⟩, List.mem_of_getElem? (i := 769) (by decide +kernel), List.mem_of_getElem? (i := 1115) (by decide +kernel), List.mem_of_getElem? (i := 1116) (by decide +kernel)⟩
theorem lw_p52 : lw_okq (⟨"StormPartingModel", "isRowApart", "(I)Z"⟩, 42) := ⟨⟨by decide +kernel, by decide +kernel⟩, List.mem_of_getElem? (i := 769) (by decide +kernel), List.mem_of_getElem? (i := 1119) (by decide +kernel), List.mem_of_getElem? (i := 1120) (by decide +kernel)⟩
theorem lw_p53 : lw_okq (⟨"StormPartingModel", "mayNow", "(I)Z"⟩, 42) := ⟨⟨by decide +kernel, by decide +kernel⟩, List.mem_of_getElem? (i := 769) (by decide +kernel), List.mem_of_getElem? (i := 1123) (by decide +kernel), List.mem_of_getElem? (i := 1124) (by decide +kernel)⟩
theorem lw_p54 : lw_okq (⟨"StormPartingModel", "part", "(I)V"⟩, 42) := ⟨⟨by decide +kernel, by decide +kernel⟩, List.mem_of_getElem? (i := 769) (by decide +kernel), List.mem_of_getElem? (i := 1127) (by decide +kernel), List.mem_of_getElem? (i := 1128) (by decide +kernel)⟩
theorem lw_p55 : lw_okq (⟨"StormPartingModel", "isTurn", "(I)Z"⟩, 42) := ⟨⟨by decide +kernel, by decide +kernel⟩, List.mem_of_getElem? (i := 769) (by decide +kernel), List.mem_of_getElem? (i := 1155) (by decide +kernel), List.mem_of_getElem? (i := 1156) (by decide +kernel)⟩
theorem lw_p56 : lw_okq (⟨"StormPartingModel", "worthOf", "(I)I"⟩, 42) := ⟨⟨by decide +kernel, by decide +kernel⟩, List.mem_of_getElem? (i := 769) (by decide +kernel), List.mem_of_getElem? (i := 1171) (by decide +kernel), List.mem_of_getElem? (i := 1172) (by decide +kernel)⟩
def lw_privs_4 : List (MethodName × Nat) := [(⟨"StormPartingModel", "every", "()I"⟩, 42), (⟨"StormPartingModel", "isAsked", "(I)Z"⟩, 42), (⟨"StormPartingModel", "partByHours", "(I)V"⟩, 42), (⟨"StormPartingModel", "counts", "()V"⟩, 42), (⟨"StormPartingModel", "isRowApart", "(I)Z"⟩, 42), (⟨"StormPartingModel", "mayNow", "(I)Z"⟩, 42), (⟨"StormPartingModel", "part", "(I)V"⟩, 42), (⟨"StormPartingModel", "isTurn", "(I)Z"⟩, 42), (⟨"StormPartingModel", "worthOf", "(I)I"⟩, 42)]
theorem lw_r4 : ∀ q ∈ lw_privs_4, lw_okq q := List.forall_mem_cons.mpr ⟨lw_p48, List.forall_mem_cons.mpr ⟨lw_p49, List.forall_mem_cons.mpr ⟨lw_p50, List.forall_mem_cons.mpr ⟨lw_p51, List.forall_mem_cons.mpr ⟨lw_p52, List.forall_mem_cons.mpr ⟨lw_p53, List.forall_mem_cons.mpr ⟨lw_p54, List.forall_mem_cons.mpr ⟨lw_p55, List.forall_mem_cons.mpr ⟨lw_p56, fun _ h => absurd h List.not_mem_nil⟩⟩⟩⟩⟩⟩⟩⟩⟩
def lw_privs : List (MethodName × Nat) := lw_privs_1 ++ (lw_privs_2 ++ (lw_privs_3 ++ (lw_privs_4)))
def lw_tbl : List Cond := k2_sels lw_privs ++ tables_1
theorem lw_privs_ok : ∀ q ∈ lw_privs, lw_okq q := by
  show ∀ q ∈ lw_privs_1 ++ (lw_privs_2 ++ (lw_privs_3 ++ (lw_privs_4))), lw_okq q
  exact List.forall_mem_append.mpr ⟨lw_r1, List.forall_mem_append.mpr ⟨lw_r2, List.forall_mem_append.mpr ⟨lw_r3, lw_r4⟩⟩⟩
-- ===== end of PART A; then your names; then what follows =====
end
section
def RX0 : String := "StormParting$Cover"
def TX0 : u_T := fun k => match k with
  | _ => ("StormParting$Cover", "words", "[I", true)
def tyX0 : Nat → FieldType := fun k => match k with
  | _ => .array .int
abbrev wsX00 : List Cond := u_ws RX0 TX0 1
theorem nmX0 : ∀ a, a < 1 → ∀ b, b < 1 → a ≠ b → (TX0 a).2.1 ≠ (TX0 b).2.1 := by decide +kernel
theorem tyX0_ok : ∀ k, k < 1 → parseFieldDescriptor (TX0 k).2.2.1 = some (tyX0 k) := by decide +kernel
abbrev cX0_init : ByteArray := prog_2_method_1_code
def yX0_init : MethodName := ⟨RX0, "<init>", "()V"⟩
abbrev cX0_whatOf : ByteArray := prog_2_method_2_code
def yX0_whatOf : MethodName := ⟨RX0, "whatOf", "(I)I"⟩
abbrev cX0_forget : ByteArray := prog_2_method_3_code
def yX0_forget : MethodName := ⟨RX0, "forget", "()V"⟩
abbrev cX0_copyFrom : ByteArray := prog_2_method_4_code
def yX0_copyFrom : MethodName := ⟨RX0, "copyFrom", "(LStormParting$Cover;)V"⟩
abbrev cX0_tell : ByteArray := prog_2_method_5_code
def yX0_tell : MethodName := ⟨RX0, "tell", "(II)Z"⟩
abbrev cX0_overlaps : ByteArray := prog_2_method_6_code
def yX0_overlaps : MethodName := ⟨RX0, "overlaps", "()Z"⟩
abbrev cX0_asksCauses : ByteArray := prog_2_method_7_code
def yX0_asksCauses : MethodName := ⟨RX0, "asksCauses", "()Z"⟩
abbrev cX0_payFor : ByteArray := prog_2_method_8_code
def yX0_payFor : MethodName := ⟨RX0, "payFor", "(I)I"⟩
abbrev cX0_share : ByteArray := prog_2_method_9_code
def yX0_share : MethodName := ⟨RX0, "share", "()I"⟩
abbrev cX0_bringFor : ByteArray := prog_2_method_10_code
def yX0_bringFor : MethodName := ⟨RX0, "bringFor", "(I)I"⟩
abbrev cX0_netOf : ByteArray := prog_2_method_11_code
def yX0_netOf : MethodName := ⟨RX0, "netOf", "(I)I"⟩
abbrev cX0_narrowBy : ByteArray := prog_2_method_12_code
def yX0_narrowBy : MethodName := ⟨RX0, "narrowBy", "(LStormParting$Cover;)V"⟩
def RX1 : String := "StormParting$Losses"
def TX1 : u_T := fun k => match k with
  | 0 => ("StormParting$Losses", "sums", "[I", true)
  | 1 => ("StormParting$Losses", "hours", "[I", true)
  | 2 => ("StormParting$Losses", "lastHours", "[I", true)
  | 3 => ("StormParting$Losses", "xs", "[I", true)
  | 4 => ("StormParting$Losses", "ys", "[I", true)
  | 5 => ("StormParting$Losses", "causes", "[I", true)
  | _ => ("StormParting$Losses", "size", "I", false)
def tyX1 : Nat → FieldType := fun k => match k with
  | 0 => .array .int
  | 1 => .array .int
  | 2 => .array .int
  | 3 => .array .int
  | 4 => .array .int
  | 5 => .array .int
  | _ => .int
abbrev wsX10 : List Cond := u_ws RX1 TX1 7
theorem nmX1 : ∀ a, a < 7 → ∀ b, b < 7 → a ≠ b → (TX1 a).2.1 ≠ (TX1 b).2.1 := by decide +kernel
theorem tyX1_ok : ∀ k, k < 7 → parseFieldDescriptor (TX1 k).2.2.1 = some (tyX1 k) := by decide +kernel
abbrev cX1_init : ByteArray := prog_3_method_1_code
def yX1_init : MethodName := ⟨RX1, "<init>", "()V"⟩
abbrev cX1_has : ByteArray := prog_3_method_2_code
def yX1_has : MethodName := ⟨RX1, "has", "(I)Z"⟩
abbrev cX1_all : ByteArray := prog_3_method_3_code
def yX1_all : MethodName := ⟨RX1, "all", "()I"⟩
abbrev cX1_hasAll : ByteArray := prog_3_method_4_code
def yX1_hasAll : MethodName := ⟨RX1, "hasAll", "(I)Z"⟩
abbrev cX1_isIn : ByteArray := prog_3_method_5_code
def yX1_isIn : MethodName := ⟨RX1, "isIn", "(II)Z"⟩
abbrev cX1_sumOf : ByteArray := prog_3_method_6_code
def yX1_sumOf : MethodName := ⟨RX1, "sumOf", "(I)I"⟩
abbrev cX1_sumBefore : ByteArray := prog_3_method_7_code
def yX1_sumBefore : MethodName := ⟨RX1, "sumBefore", "(II)I"⟩
abbrev cX1_leastHourOf : ByteArray := prog_3_method_8_code
def yX1_leastHourOf : MethodName := ⟨RX1, "leastHourOf", "(I)I"⟩
abbrev cX1_greatestHourOf : ByteArray := prog_3_method_9_code
def yX1_greatestHourOf : MethodName := ⟨RX1, "greatestHourOf", "(I)I"⟩
abbrev cX1_someAreApartBy : ByteArray := prog_3_method_10_code
def yX1_someAreApartBy : MethodName := ⟨RX1, "someAreApartBy", "(I)Z"⟩
abbrev cX1_areNear : ByteArray := prog_3_method_11_code
def yX1_areNear : MethodName := ⟨RX1, "areNear", "(LStormParting$Cover;II)Z"⟩
abbrev cX1_areOne : ByteArray := prog_3_method_12_code
def yX1_areOne : MethodName := ⟨RX1, "areOne", "(LStormParting$Cover;I)Z"⟩
abbrev cX1_putInRow : ByteArray := prog_3_method_13_code
def yX1_putInRow : MethodName := ⟨RX1, "putInRow", "(I[I)I"⟩
def RX2 : String := "StormParting$Payers"
def TX2 : u_T := fun k => match k with
  | 0 => ("StormParting$Payers", "pays", "[I", true)
  | 1 => ("StormParting$Payers", "often", "[I", true)
  | 2 => ("StormParting$Payers", "shares", "[I", true)
  | 3 => ("StormParting$Payers", "timesPaid", "[I", true)
  | 4 => ("StormParting$Payers", "members", "[LStormParting$Cover;", true)
  | _ => ("StormParting$Payers", "size", "I", false)
def tyX2 : Nat → FieldType := fun k => match k with
  | 0 => .array .int
  | 1 => .array .int
  | 2 => .array .int
  | 3 => .array .int
  | 4 => .array (.object "StormParting$Cover")
  | _ => .int
abbrev wsX20 : List Cond := u_ws RX2 TX2 6
theorem nmX2 : ∀ a, a < 6 → ∀ b, b < 6 → a ≠ b → (TX2 a).2.1 ≠ (TX2 b).2.1 := by decide +kernel
theorem tyX2_ok : ∀ k, k < 6 → parseFieldDescriptor (TX2 k).2.2.1 = some (tyX2 k) := by decide +kernel
abbrev cX2_init : ByteArray := prog_4_method_1_code
def yX2_init : MethodName := ⟨RX2, "<init>", "()V"⟩
abbrev cX2_clear : ByteArray := prog_4_method_2_code
def yX2_clear : MethodName := ⟨RX2, "clear", "()V"⟩
abbrev cX2_isEmpty : ByteArray := prog_4_method_3_code
def yX2_isEmpty : MethodName := ⟨RX2, "isEmpty", "()Z"⟩
abbrev cX2_join : ByteArray := prog_4_method_4_code
def yX2_join : MethodName := ⟨RX2, "join", "(LStormParting$Cover;)V"⟩
abbrev cX2_price : ByteArray := prog_4_method_5_code
def yX2_price : MethodName := ⟨RX2, "price", "(II)V"⟩
abbrev cX2_bringFor : ByteArray := prog_4_method_6_code
def yX2_bringFor : MethodName := ⟨RX2, "bringFor", "(II)I"⟩
def RX3 : String := "StormParting$Search"
def TX3 : u_T := fun k => match k with
  | 0 => ("StormParting$Search", "greatest", "I", false)
  | 1 => ("StormParting$Search", "least", "I", false)
  | 2 => ("StormParting$Search", "fewestForGreatest", "I", false)
  | 3 => ("StormParting$Search", "fewestForLeast", "I", false)
  | 4 => ("StormParting$Search", "found", "Z", false)
  | 5 => ("StormParting$Search", "losses", "LStormParting$Losses;", true)
  | 6 => ("StormParting$Search", "joint", "LStormParting$Cover;", true)
  | 7 => ("StormParting$Search", "payers", "LStormParting$Payers;", true)
  | 8 => ("StormParting$Search", "row", "[I", true)
  | 9 => ("StormParting$Search", "near", "[I", true)
  | 10 => ("StormParting$Search", "happenings", "[I", true)
  | 11 => ("StormParting$Search", "firstHappening", "[I", true)
  | 12 => ("StormParting$Search", "length", "I", false)
  | _ => ("StormParting$Search", "happeningCount", "I", false)
def tyX3 : Nat → FieldType := fun k => match k with
  | 0 => .int
  | 1 => .int
  | 2 => .int
  | 3 => .int
  | 4 => .boolean
  | 5 => .object "StormParting$Losses"
  | 6 => .object "StormParting$Cover"
  | 7 => .object "StormParting$Payers"
  | 8 => .array .int
  | 9 => .array .int
  | 10 => .array .int
  | 11 => .array .int
  | 12 => .int
  | _ => .int
abbrev wsX30 : List Cond := u_ws RX3 TX3 14
theorem nmX3 : ∀ a, a < 14 → ∀ b, b < 14 → a ≠ b → (TX3 a).2.1 ≠ (TX3 b).2.1 := by decide +kernel
theorem tyX3_ok : ∀ k, k < 14 → parseFieldDescriptor (TX3 k).2.2.1 = some (tyX3 k) := by decide +kernel
abbrev cX3_init : ByteArray := prog_5_method_1_code
def yX3_init : MethodName := ⟨RX3, "<init>", "(LStormParting$Losses;)V"⟩
abbrev cX3_isToldFor : ByteArray := prog_5_method_2_code
def yX3_isToldFor : MethodName := ⟨RX3, "isToldFor", "(LStormParting$Cover;I)Z"⟩
abbrev cX3_findFor : ByteArray := prog_5_method_3_code
def yX3_findFor : MethodName := ⟨RX3, "findFor", "(LStormParting$Cover;I)Z"⟩
abbrev cX3_startJoining : ByteArray := prog_5_method_4_code
def yX3_startJoining : MethodName := ⟨RX3, "startJoining", "()V"⟩
abbrev cX3_join : ByteArray := prog_5_method_5_code
def yX3_join : MethodName := ⟨RX3, "join", "(LStormParting$Cover;)V"⟩
abbrev cX3_findForJoined : ByteArray := prog_5_method_6_code
def yX3_findForJoined : MethodName := ⟨RX3, "findForJoined", "(I)Z"⟩
abbrev cX3_seeWhoIsNear : ByteArray := prog_5_method_7_code
def yX3_seeWhoIsNear : MethodName := ⟨RX3, "seeWhoIsNear", "()V"⟩
abbrev cX3_areOne : ByteArray := prog_5_method_8_code
def yX3_areOne : MethodName := ⟨RX3, "areOne", "(I)Z"⟩
abbrev cX3_listHappenings : ByteArray := prog_5_method_9_code
def yX3_listHappenings : MethodName := ⟨RX3, "listHappenings", "()V"⟩
abbrev cX3_listSetsFrom : ByteArray := prog_5_method_10_code
def yX3_listSetsFrom : MethodName := ⟨RX3, "listSetsFrom", "(I)V"⟩
abbrev cX3_listRunsFrom : ByteArray := prog_5_method_11_code
def yX3_listRunsFrom : MethodName := ⟨RX3, "listRunsFrom", "(I)V"⟩
abbrev cX3_list : ByteArray := prog_5_method_12_code
def yX3_list : MethodName := ⟨RX3, "list", "(I)V"⟩
abbrev cX3_part : ByteArray := prog_5_method_13_code
def yX3_part : MethodName := ⟨RX3, "part", "(III)V"⟩
abbrev cX3_note : ByteArray := prog_5_method_14_code
def yX3_note : MethodName := ⟨RX3, "note", "(II)V"⟩
def RX4 : String := "StormParting$Tape"
def TX4 : u_T := fun k => match k with
  | 0 => ("StormParting$Tape", "bytes", "[I", true)
  | _ => ("StormParting$Tape", "length", "I", false)
def tyX4 : Nat → FieldType := fun k => match k with
  | 0 => .array .int
  | _ => .int
abbrev wsX40 : List Cond := u_ws RX4 TX4 2
theorem nmX4 : ∀ a, a < 2 → ∀ b, b < 2 → a ≠ b → (TX4 a).2.1 ≠ (TX4 b).2.1 := by decide +kernel
theorem tyX4_ok : ∀ k, k < 2 → parseFieldDescriptor (TX4 k).2.2.1 = some (tyX4 k) := by decide +kernel
abbrev cX4_init : ByteArray := prog_6_method_1_code
def yX4_init : MethodName := ⟨RX4, "<init>", "()V"⟩
abbrev cX4_bytesIn : ByteArray := prog_6_method_2_code
def yX4_bytesIn : MethodName := ⟨RX4, "bytesIn", "(I)I"⟩
abbrev cX4_append : ByteArray := prog_6_method_3_code
def yX4_append : MethodName := ⟨RX4, "append", "(I)V"⟩
abbrev cX4_readInto : ByteArray := prog_6_method_4_code
def yX4_readInto : MethodName := ⟨RX4, "readInto", "(LStormParting$Cover;)I"⟩
abbrev cX4_pastBlanks : ByteArray := prog_6_method_5_code
def yX4_pastBlanks : MethodName := ⟨RX4, "pastBlanks", "(I)I"⟩
abbrev cX4_isDigit : ByteArray := prog_6_method_6_code
def yX4_isDigit : MethodName := ⟨RX4, "isDigit", "(I)Z"⟩
abbrev cX4_valueOf : ByteArray := prog_6_method_7_code
def yX4_valueOf : MethodName := ⟨RX4, "valueOf", "(II)I"⟩
def RX5 : String := "StormParting$ToldParting"
def TX5 : u_T := fun k => match k with
  | 0 => ("StormParting$ToldParting", "numbers", "[I", true)
  | 1 => ("StormParting$ToldParting", "happenings", "I", false)
  | 2 => ("StormParting$ToldParting", "happeningsPaid", "I", false)
  | 3 => ("StormParting$ToldParting", "paidInAll", "I", false)
  | 4 => ("StormParting$ToldParting", "losses", "LStormParting$Losses;", true)
  | _ => ("StormParting$ToldParting", "row", "[I", true)
def tyX5 : Nat → FieldType := fun k => match k with
  | 0 => .array .int
  | 1 => .int
  | 2 => .int
  | 3 => .int
  | 4 => .object "StormParting$Losses"
  | _ => .array .int
abbrev wsX50 : List Cond := u_ws RX5 TX5 6
theorem nmX5 : ∀ a, a < 6 → ∀ b, b < 6 → a ≠ b → (TX5 a).2.1 ≠ (TX5 b).2.1 := by decide +kernel
theorem tyX5_ok : ∀ k, k < 6 → parseFieldDescriptor (TX5 k).2.2.1 = some (tyX5 k) := by decide +kernel
abbrev cX5_init : ByteArray := prog_7_method_1_code
def yX5_init : MethodName := ⟨RX5, "<init>", "(LStormParting$Losses;)V"⟩
abbrev cX5_happeningOf : ByteArray := prog_7_method_2_code
def yX5_happeningOf : MethodName := ⟨RX5, "happeningOf", "(I)I"⟩
abbrev cX5_firstBar : ByteArray := prog_7_method_3_code
def yX5_firstBar : MethodName := ⟨RX5, "firstBar", "(LStormParting$Cover;)I"⟩
abbrev cX5_bar : ByteArray := prog_7_method_4_code
def yX5_bar : MethodName := ⟨RX5, "bar", "(LStormParting$Cover;II)Z"⟩
abbrev cX5_areTooNear : ByteArray := prog_7_method_5_code
def yX5_areTooNear : MethodName := ⟨RX5, "areTooNear", "(III)Z"⟩
abbrev cX5_reckon : ByteArray := prog_7_method_6_code
def yX5_reckon : MethodName := ⟨RX5, "reckon", "(LStormParting$Cover;)V"⟩
def RX6 : String := "StormParting"
def TX6 : u_T := fun k => match k with
  | 0 => ("StormParting", "tape", "LStormParting$Tape;", true)
  | 1 => ("StormParting", "covers", "[LStormParting$Cover;", true)
  | 2 => ("StormParting", "trial", "LStormParting$Cover;", true)
  | 3 => ("StormParting", "losses", "LStormParting$Losses;", true)
  | 4 => ("StormParting", "toldParting", "LStormParting$ToldParting;", true)
  | 5 => ("StormParting", "search", "LStormParting$Search;", true)
  | 6 => ("StormParting", "stormLosses", "[I", true)
  | 7 => ("StormParting", "stormWeights", "[I", true)
  | 8 => ("StormParting", "coverCount", "I", false)
  | _ => ("StormParting", "stormCount", "I", false)
def tyX6 : Nat → FieldType := fun k => match k with
  | 0 => .object "StormParting$Tape"
  | 1 => .array (.object "StormParting$Cover")
  | 2 => .object "StormParting$Cover"
  | 3 => .object "StormParting$Losses"
  | 4 => .object "StormParting$ToldParting"
  | 5 => .object "StormParting$Search"
  | 6 => .array .int
  | 7 => .array .int
  | 8 => .int
  | _ => .int
abbrev wsX60 : List Cond := u_ws RX6 TX6 10
theorem nmX6 : ∀ a, a < 10 → ∀ b, b < 10 → a ≠ b → (TX6 a).2.1 ≠ (TX6 b).2.1 := by decide +kernel
theorem tyX6_ok : ∀ k, k < 10 → parseFieldDescriptor (TX6 k).2.2.1 = some (tyX6 k) := by decide +kernel
abbrev cX6_init : ByteArray := prog_1_method_1_code
def yX6_init : MethodName := ⟨RX6, "<init>", "()V"⟩
abbrev cX6_feed : ByteArray := prog_1_method_2_code
def yX6_feed : MethodName := ⟨RX6, "feed", "(IIIII)I"⟩
abbrev cX6_end : ByteArray := prog_1_method_3_code
def yX6_end : MethodName := ⟨RX6, "end", "(I)Z"⟩
abbrev cX6_fault : ByteArray := prog_1_method_4_code
def yX6_fault : MethodName := ⟨RX6, "fault", "()I"⟩
abbrev cX6_cover : ByteArray := prog_1_method_5_code
def yX6_cover : MethodName := ⟨RX6, "cover", "()I"⟩
abbrev cX6_word : ByteArray := prog_1_method_6_code
def yX6_word : MethodName := ⟨RX6, "word", "(II)I"⟩
abbrev cX6_loss : ByteArray := prog_1_method_7_code
def yX6_loss : MethodName := ⟨RX6, "loss", "(IIIIII)I"⟩
abbrev cX6_may : ByteArray := prog_1_method_8_code
def yX6_may : MethodName := ⟨RX6, "may", "(II)I"⟩
abbrev cX6_paid : ByteArray := prog_1_method_9_code
def yX6_paid : MethodName := ⟨RX6, "paid", "(II)I"⟩
abbrev cX6_put : ByteArray := prog_1_method_10_code
def yX6_put : MethodName := ⟨RX6, "put", "(II)Z"⟩
abbrev cX6_judge : ByteArray := prog_1_method_11_code
def yX6_judge : MethodName := ⟨RX6, "judge", "(I)I"⟩
abbrev cX6_brings : ByteArray := prog_1_method_12_code
def yX6_brings : MethodName := ⟨RX6, "brings", "(II)I"⟩
abbrev cX6_year : ByteArray := prog_1_method_13_code
def yX6_year : MethodName := ⟨RX6, "year", "(IIZ)I"⟩
abbrev cX6_most : ByteArray := prog_1_method_14_code
def yX6_most : MethodName := ⟨RX6, "most", "(III)I"⟩
abbrev cX6_net : ByteArray := prog_1_method_15_code
def yX6_net : MethodName := ⟨RX6, "net", "(III)I"⟩
abbrev cX6_ends : ByteArray := prog_1_method_16_code
def yX6_ends : MethodName := ⟨RX6, "ends", "(III)I"⟩
abbrev cX6_hangs : ByteArray := prog_1_method_17_code
def yX6_hangs : MethodName := ⟨RX6, "hangs", "(I)I"⟩
abbrev cX6_told : ByteArray := prog_1_method_18_code
def yX6_told : MethodName := ⟨RX6, "told", "(III)I"⟩
abbrev cX6_layers : ByteArray := prog_1_method_19_code
def yX6_layers : MethodName := ⟨RX6, "layers", "(IZ)I"⟩
abbrev cX6_nearest : ByteArray := prog_1_method_20_code
def yX6_nearest : MethodName := ⟨RX6, "nearest", "(II)I"⟩
abbrev cX6_storm : ByteArray := prog_1_method_21_code
def yX6_storm : MethodName := ⟨RX6, "storm", "(II)I"⟩
abbrev cX6_mean : ByteArray := prog_1_method_22_code
def yX6_mean : MethodName := ⟨RX6, "mean", "(II)I"⟩
abbrev cX6_game : ByteArray := prog_1_method_23_code
def yX6_game : MethodName := ⟨RX6, "game", "(III)I"⟩
abbrev cX6_mend : ByteArray := prog_1_method_24_code
def yX6_mend : MethodName := ⟨RX6, "mend", "(III)Z"⟩
abbrev cX6_count : ByteArray := prog_1_method_25_code
def yX6_count : MethodName := ⟨RX6, "count", "(I)I"⟩
abbrev cX6_isWithin : ByteArray := prog_1_method_26_code
def yX6_isWithin : MethodName := ⟨RX6, "isWithin", "(III)Z"⟩
abbrev cX6_coverAt : ByteArray := prog_1_method_27_code
def yX6_coverAt : MethodName := ⟨RX6, "coverAt", "(I)LStormParting$Cover;"⟩
abbrev cX6_greatestFor : ByteArray := prog_1_method_28_code
def yX6_greatestFor : MethodName := ⟨RX6, "greatestFor", "(LStormParting$Cover;I)I"⟩
abbrev cX6_greatestByOwnPartings : ByteArray := prog_1_method_29_code
def yX6_greatestByOwnPartings : MethodName := ⟨RX6, "greatestByOwnPartings", "(I)I"⟩
abbrev cX6_greatestByOneParting : ByteArray := prog_1_method_30_code
def yX6_greatestByOneParting : MethodName := ⟨RX6, "greatestByOneParting", "(I)I"⟩
abbrev cX6_lossOfGreatestWeight : ByteArray := prog_1_method_31_code
def yX6_lossOfGreatestWeight : MethodName := ⟨RX6, "lossOfGreatestWeight", "(LStormParting$Cover;Z)I"⟩
def RX7 : String := "StormPartingModel"
def TX7 : u_T := fun k => match k with
  | 0 => ("StormPartingModel", "thrown", "I", false)
  | 1 => ("StormPartingModel", "tape", "[B", true)
  | 2 => ("StormPartingModel", "length", "I", false)
  | 3 => ("StormPartingModel", "at", "I", false)
  | 4 => ("StormPartingModel", "fault", "I", false)
  | 5 => ("StormPartingModel", "number", "I", false)
  | 6 => ("StormPartingModel", "words", "[I", true)
  | 7 => ("StormPartingModel", "covers", "I", false)
  | 8 => ("StormPartingModel", "sum", "[I", true)
  | 9 => ("StormPartingModel", "hour", "[I", true)
  | 10 => ("StormPartingModel", "lastHour", "[I", true)
  | 11 => ("StormPartingModel", "placeX", "[I", true)
  | 12 => ("StormPartingModel", "placeY", "[I", true)
  | 13 => ("StormPartingModel", "cause", "[I", true)
  | 14 => ("StormPartingModel", "told", "[I", true)
  | 15 => ("StormPartingModel", "losses", "I", false)
  | 16 => ("StormPartingModel", "parts", "[I", true)
  | 17 => ("StormPartingModel", "row", "[I", true)
  | 18 => ("StormPartingModel", "rowSum", "[I", true)
  | 19 => ("StormPartingModel", "rowLow", "[I", true)
  | 20 => ("StormPartingModel", "rowHigh", "[I", true)
  | 21 => ("StormPartingModel", "rowFirst", "[I", true)
  | 22 => ("StormPartingModel", "partMany", "I", false)
  | 23 => ("StormPartingModel", "paidMany", "I", false)
  | 24 => ("StormPartingModel", "paidSum", "I", false)
  | 25 => ("StormPartingModel", "asked", "I", false)
  | 26 => ("StormPartingModel", "setNow", "I", false)
  | 27 => ("StormPartingModel", "most", "I", false)
  | 28 => ("StormPartingModel", "least", "I", false)
  | 29 => ("StormPartingModel", "fewestMost", "I", false)
  | 30 => ("StormPartingModel", "fewestLeast", "I", false)
  | 31 => ("StormPartingModel", "netMost", "I", false)
  | 32 => ("StormPartingModel", "netBrings", "I", false)
  | 33 => ("StormPartingModel", "any", "Z", false)
  | 34 => ("StormPartingModel", "together", "Z", false)
  | 35 => ("StormPartingModel", "goesWith", "[I", true)
  | 36 => ("StormPartingModel", "partCause", "[I", true)
  | 37 => ("StormPartingModel", "asksCause", "Z", false)
  | 38 => ("StormPartingModel", "stormSet", "[I", true)
  | 39 => ("StormPartingModel", "stormWeight", "[I", true)
  | 40 => ("StormPartingModel", "storms", "I", false)
  | _ => ("StormPartingModel", "struck", "I", false)
def tyX7 : Nat → FieldType := fun k => match k with
  | 0 => .int
  | 1 => .array .byte
  | 2 => .int
  | 3 => .int
  | 4 => .int
  | 5 => .int
  | 6 => .array .int
  | 7 => .int
  | 8 => .array .int
  | 9 => .array .int
  | 10 => .array .int
  | 11 => .array .int
  | 12 => .array .int
  | 13 => .array .int
  | 14 => .array .int
  | 15 => .int
  | 16 => .array .int
  | 17 => .array .int
  | 18 => .array .int
  | 19 => .array .int
  | 20 => .array .int
  | 21 => .array .int
  | 22 => .int
  | 23 => .int
  | 24 => .int
  | 25 => .int
  | 26 => .int
  | 27 => .int
  | 28 => .int
  | 29 => .int
  | 30 => .int
  | 31 => .int
  | 32 => .int
  | 33 => .boolean
  | 34 => .boolean
  | 35 => .array .int
  | 36 => .array .int
  | 37 => .boolean
  | 38 => .array .int
  | 39 => .array .int
  | 40 => .int
  | _ => .int
abbrev wsX70 : List Cond := u_ws RX7 TX7 42
theorem nmX7 : ∀ a, a < 42 → ∀ b, b < 42 → a ≠ b → (TX7 a).2.1 ≠ (TX7 b).2.1 := by decide +kernel
theorem tyX7_ok : ∀ k, k < 42 → parseFieldDescriptor (TX7 k).2.2.1 = some (tyX7 k) := by decide +kernel
abbrev cX7_init : ByteArray := prog_9_method_1_code
def yX7_init : MethodName := ⟨RX7, "<init>", "()V"⟩
abbrev cX7_thrown : ByteArray := prog_9_method_2_code
def yX7_thrown : MethodName := ⟨RX7, "thrown", "()I"⟩
abbrev cX7_isIn : ByteArray := prog_9_method_3_code
def yX7_isIn : MethodName := ⟨RX7, "isIn", "(III)Z"⟩
abbrev cX7_bytesIn : ByteArray := prog_9_method_4_code
def yX7_bytesIn : MethodName := ⟨RX7, "bytesIn", "(I)I"⟩
abbrev cX7_put : ByteArray := prog_9_method_5_code
def yX7_put : MethodName := ⟨RX7, "put", "(I)V"⟩
abbrev cX7_feed : ByteArray := prog_9_method_6_code
def yX7_feed : MethodName := ⟨RX7, "feed", "(IIIII)I"⟩
abbrev cX7_end : ByteArray := prog_9_method_7_code
def yX7_end : MethodName := ⟨RX7, "end", "(I)Z"⟩
abbrev cX7_here : ByteArray := prog_9_method_8_code
def yX7_here : MethodName := ⟨RX7, "here", "()I"⟩
abbrev cX7_look : ByteArray := prog_9_method_9_code
def yX7_look : MethodName := ⟨RX7, "look", "()I"⟩
abbrev cX7_fails : ByteArray := prog_9_method_10_code
def yX7_fails : MethodName := ⟨RX7, "fails", "(I)Z"⟩
abbrev cX7_isDigit : ByteArray := prog_9_method_11_code
def yX7_isDigit : MethodName := ⟨RX7, "isDigit", "()Z"⟩
abbrev cX7_number : ByteArray := prog_9_method_12_code
def yX7_number : MethodName := ⟨RX7, "number", "(II)Z"⟩
abbrev cX7_leastOf : ByteArray := prog_9_method_13_code
def yX7_leastOf : MethodName := ⟨RX7, "leastOf", "(I)I"⟩
abbrev cX7_mostOf : ByteArray := prog_9_method_14_code
def yX7_mostOf : MethodName := ⟨RX7, "mostOf", "(I)I"⟩
abbrev cX7_firstOf : ByteArray := prog_9_method_15_code
def yX7_firstOf : MethodName := ⟨RX7, "firstOf", "(I)I"⟩
abbrev cX7_readWord : ByteArray := prog_9_method_16_code
def yX7_readWord : MethodName := ⟨RX7, "readWord", "(I)Z"⟩
abbrev cX7_readCover : ByteArray := prog_9_method_17_code
def yX7_readCover : MethodName := ⟨RX7, "readCover", "()Z"⟩
abbrev cX7_fault : ByteArray := prog_9_method_18_code
def yX7_fault : MethodName := ⟨RX7, "fault", "()I"⟩
abbrev cX7_cover : ByteArray := prog_9_method_19_code
def yX7_cover : MethodName := ⟨RX7, "cover", "()I"⟩
abbrev cX7_isCover : ByteArray := prog_9_method_20_code
def yX7_isCover : MethodName := ⟨RX7, "isCover", "(I)Z"⟩
abbrev cX7_wordOf : ByteArray := prog_9_method_21_code
def yX7_wordOf : MethodName := ⟨RX7, "wordOf", "(II)I"⟩
abbrev cX7_word : ByteArray := prog_9_method_22_code
def yX7_word : MethodName := ⟨RX7, "word", "(II)I"⟩
abbrev cX7_isLoss : ByteArray := prog_9_method_23_code
def yX7_isLoss : MethodName := ⟨RX7, "isLoss", "(I)Z"⟩
abbrev cX7_isSet : ByteArray := prog_9_method_24_code
def yX7_isSet : MethodName := ⟨RX7, "isSet", "(I)Z"⟩
abbrev cX7_every : ByteArray := prog_9_method_25_code
def yX7_every : MethodName := ⟨RX7, "every", "()I"⟩
abbrev cX7_has : ByteArray := prog_9_method_26_code
def yX7_has : MethodName := ⟨RX7, "has", "(II)Z"⟩
abbrev cX7_loss : ByteArray := prog_9_method_27_code
def yX7_loss : MethodName := ⟨RX7, "loss", "(IIIIII)I"⟩
abbrev cX7_mend : ByteArray := prog_9_method_28_code
def yX7_mend : MethodName := ⟨RX7, "mend", "(III)Z"⟩
abbrev cX7_leastHour : ByteArray := prog_9_method_29_code
def yX7_leastHour : MethodName := ⟨RX7, "leastHour", "(I)I"⟩
abbrev cX7_mostHour : ByteArray := prog_9_method_30_code
def yX7_mostHour : MethodName := ⟨RX7, "mostHour", "(I)I"⟩
abbrev cX7_areNear : ByteArray := prog_9_method_31_code
def yX7_areNear : MethodName := ⟨RX7, "areNear", "(III)Z"⟩
abbrev cX7_mayBeOne : ByteArray := prog_9_method_32_code
def yX7_mayBeOne : MethodName := ⟨RX7, "mayBeOne", "(II)Z"⟩
abbrev cX7_areApart : ByteArray := prog_9_method_33_code
def yX7_areApart : MethodName := ⟨RX7, "areApart", "(III)Z"⟩
abbrev cX7_may : ByteArray := prog_9_method_34_code
def yX7_may : MethodName := ⟨RX7, "may", "(II)I"⟩
abbrev cX7_sumOf : ByteArray := prog_9_method_35_code
def yX7_sumOf : MethodName := ⟨RX7, "sumOf", "(I)I"⟩
abbrev cX7_paidOf : ByteArray := prog_9_method_36_code
def yX7_paidOf : MethodName := ⟨RX7, "paidOf", "(II)I"⟩
abbrev cX7_paid : ByteArray := prog_9_method_37_code
def yX7_paid : MethodName := ⟨RX7, "paid", "(II)I"⟩
abbrev cX7_isAhead : ByteArray := prog_9_method_38_code
def yX7_isAhead : MethodName := ⟨RX7, "isAhead", "(III)Z"⟩
abbrev cX7_layRow : ByteArray := prog_9_method_39_code
def yX7_layRow : MethodName := ⟨RX7, "layRow", "()V"⟩
abbrev cX7_isRowApart : ByteArray := prog_9_method_40_code
def yX7_isRowApart : MethodName := ⟨RX7, "isRowApart", "(I)Z"⟩
abbrev cX7_bringsBy : ByteArray := prog_9_method_41_code
def yX7_bringsBy : MethodName := ⟨RX7, "bringsBy", "(I)I"⟩
abbrev cX7_netBy : ByteArray := prog_9_method_42_code
def yX7_netBy : MethodName := ⟨RX7, "netBy", "(I)I"⟩
abbrev cX7_put_ : ByteArray := prog_9_method_43_code
def yX7_put_ : MethodName := ⟨RX7, "put", "(II)Z"⟩
abbrev cX7_toldWith : ByteArray := prog_9_method_44_code
def yX7_toldWith : MethodName := ⟨RX7, "toldWith", "(I)I"⟩
abbrev cX7_bars : ByteArray := prog_9_method_45_code
def yX7_bars : MethodName := ⟨RX7, "bars", "(III)Z"⟩
abbrev cX7_judged : ByteArray := prog_9_method_46_code
def yX7_judged : MethodName := ⟨RX7, "judged", "(I)I"⟩
abbrev cX7_judge : ByteArray := prog_9_method_47_code
def yX7_judge : MethodName := ⟨RX7, "judge", "(I)I"⟩
abbrev cX7_brings : ByteArray := prog_9_method_48_code
def yX7_brings : MethodName := ⟨RX7, "brings", "(II)I"⟩
abbrev cX7_year : ByteArray := prog_9_method_49_code
def yX7_year : MethodName := ⟨RX7, "year", "(IIZ)I"⟩
abbrev cX7_isTold : ByteArray := prog_9_method_50_code
def yX7_isTold : MethodName := ⟨RX7, "isTold", "(II)Z"⟩
abbrev cX7_isAsked : ByteArray := prog_9_method_51_code
def yX7_isAsked : MethodName := ⟨RX7, "isAsked", "(I)Z"⟩
abbrev cX7_layPairs : ByteArray := prog_9_method_52_code
def yX7_layPairs : MethodName := ⟨RX7, "layPairs", "()V"⟩
abbrev cX7_counts : ByteArray := prog_9_method_53_code
def yX7_counts : MethodName := ⟨RX7, "counts", "()V"⟩
abbrev cX7_part : ByteArray := prog_9_method_54_code
def yX7_part : MethodName := ⟨RX7, "part", "(I)V"⟩
abbrev cX7_mayNow : ByteArray := prog_9_method_55_code
def yX7_mayNow : MethodName := ⟨RX7, "mayNow", "(I)Z"⟩
abbrev cX7_partByHours : ByteArray := prog_9_method_56_code
def yX7_partByHours : MethodName := ⟨RX7, "partByHours", "(I)V"⟩
abbrev cX7_layAll : ByteArray := prog_9_method_57_code
def yX7_layAll : MethodName := ⟨RX7, "layAll", "(II)Z"⟩
abbrev cX7_most : ByteArray := prog_9_method_58_code
def yX7_most : MethodName := ⟨RX7, "most", "(III)I"⟩
abbrev cX7_net : ByteArray := prog_9_method_59_code
def yX7_net : MethodName := ⟨RX7, "net", "(III)I"⟩
abbrev cX7_ends : ByteArray := prog_9_method_60_code
def yX7_ends : MethodName := ⟨RX7, "ends", "(III)I"⟩
abbrev cX7_hangs : ByteArray := prog_9_method_61_code
def yX7_hangs : MethodName := ⟨RX7, "hangs", "(I)I"⟩
abbrev cX7_told : ByteArray := prog_9_method_62_code
def yX7_told : MethodName := ⟨RX7, "told", "(III)I"⟩
abbrev cX7_layers : ByteArray := prog_9_method_63_code
def yX7_layers : MethodName := ⟨RX7, "layers", "(IZ)I"⟩
abbrev cX7_isTurn : ByteArray := prog_9_method_64_code
def yX7_isTurn : MethodName := ⟨RX7, "isTurn", "(I)Z"⟩
abbrev cX7_nearest : ByteArray := prog_9_method_65_code
def yX7_nearest : MethodName := ⟨RX7, "nearest", "(II)I"⟩
abbrev cX7_storm : ByteArray := prog_9_method_66_code
def yX7_storm : MethodName := ⟨RX7, "storm", "(II)I"⟩
abbrev cX7_mean : ByteArray := prog_9_method_67_code
def yX7_mean : MethodName := ⟨RX7, "mean", "(II)I"⟩
abbrev cX7_worthOf : ByteArray := prog_9_method_68_code
def yX7_worthOf : MethodName := ⟨RX7, "worthOf", "(I)I"⟩
abbrev cX7_game : ByteArray := prog_9_method_69_code
def yX7_game : MethodName := ⟨RX7, "game", "(III)I"⟩
abbrev cX7_count : ByteArray := prog_9_method_70_code
def yX7_count : MethodName := ⟨RX7, "count", "(I)I"⟩
def RJx145de : String := "java/io/Serializable"
def TJx145de : u_T := fun k => match k with
  | _ => ("", "", "", false)
def tyJx145de : Nat → FieldType := fun k => match k with
  | _ => .int
theorem nmJx145de : ∀ a, a < 0 → ∀ b, b < 0 → a ≠ b → (TJx145de a).2.1 ≠ (TJx145de b).2.1 := by decide +kernel
theorem tyJx145de_ok : ∀ k, k < 0 → parseFieldDescriptor (TJx145de k).2.2.1 = some (tyJx145de k) := by decide +kernel
def RJx9f9b0 : String := "java/lang/CharSequence"
def TJx9f9b0 : u_T := fun k => match k with
  | _ => ("", "", "", false)
def tyJx9f9b0 : Nat → FieldType := fun k => match k with
  | _ => .int
theorem nmJx9f9b0 : ∀ a, a < 0 → ∀ b, b < 0 → a ≠ b → (TJx9f9b0 a).2.1 ≠ (TJx9f9b0 b).2.1 := by decide +kernel
theorem tyJx9f9b0_ok : ∀ k, k < 0 → parseFieldDescriptor (TJx9f9b0 k).2.2.1 = some (tyJx9f9b0 k) := by decide +kernel
def RJ11 : String := "java/lang/Character"
def TJ11 : u_T := fun k => match k with
  | _ => ("", "", "", false)
def tyJ11 : Nat → FieldType := fun k => match k with
  | _ => .int
abbrev wsJ110 : List Cond := u_ws RJ11 TJ11 0
theorem nmJ11 : ∀ a, a < 0 → ∀ b, b < 0 → a ≠ b → (TJ11 a).2.1 ≠ (TJ11 b).2.1 := by decide +kernel
theorem tyJ11_ok : ∀ k, k < 0 → parseFieldDescriptor (TJ11 k).2.2.1 = some (tyJ11 k) := by decide +kernel
abbrev cJ11_isValidCodePoint_9a6ad : ByteArray := prog_12_method_11_code
def yJ11_isValidCodePoint_9a6ad : MethodName := ⟨RJ11, "isValidCodePoint", "(I)Z"⟩
abbrev cJ11_highSurrogate_5068e : ByteArray := prog_12_method_28_code
def yJ11_highSurrogate_5068e : MethodName := ⟨RJ11, "highSurrogate", "(I)C"⟩
abbrev cJ11_lowSurrogate_5068e : ByteArray := prog_12_method_29_code
def yJ11_lowSurrogate_5068e : MethodName := ⟨RJ11, "lowSurrogate", "(I)C"⟩
def RJxb160c : String := "java/lang/Comparable"
def TJxb160c : u_T := fun k => match k with
  | _ => ("", "", "", false)
def tyJxb160c : Nat → FieldType := fun k => match k with
  | _ => .int
theorem nmJxb160c : ∀ a, a < 0 → ∀ b, b < 0 → a ≠ b → (TJxb160c a).2.1 ≠ (TJxb160c b).2.1 := by decide +kernel
theorem tyJxb160c_ok : ∀ k, k < 0 → parseFieldDescriptor (TJxb160c k).2.2.1 = some (tyJxb160c k) := by decide +kernel
def RJ6 : String := "java/lang/Integer"
def TJ6 : u_T := fun k => match k with
  | _ => ("", "", "", false)
def tyJ6 : Nat → FieldType := fun k => match k with
  | _ => .int
abbrev wsJ60 : List Cond := u_ws RJ6 TJ6 0
theorem nmJ6 : ∀ a, a < 0 → ∀ b, b < 0 → a ≠ b → (TJ6 a).2.1 ≠ (TJ6 b).2.1 := by decide +kernel
theorem tyJ6_ok : ∀ k, k < 0 → parseFieldDescriptor (TJ6 k).2.2.1 = some (tyJ6 k) := by decide +kernel
abbrev cJ6_numberOfTrailingZeros_0f7a4 : ByteArray := prog_15_method_48_code
def yJ6_numberOfTrailingZeros_0f7a4 : MethodName := ⟨RJ6, "numberOfTrailingZeros", "(I)I"⟩
abbrev cJ6_bitCount_0f7a4 : ByteArray := prog_15_method_49_code
def yJ6_bitCount_0f7a4 : MethodName := ⟨RJ6, "bitCount", "(I)I"⟩
def RJ9 : String := "java/lang/Math"
def TJ9 : u_T := fun k => match k with
  | _ => ("", "", "", false)
def tyJ9 : Nat → FieldType := fun k => match k with
  | _ => .int
abbrev wsJ90 : List Cond := u_ws RJ9 TJ9 0
theorem nmJ9 : ∀ a, a < 0 → ∀ b, b < 0 → a ≠ b → (TJ9 a).2.1 ≠ (TJ9 b).2.1 := by decide +kernel
theorem tyJ9_ok : ∀ k, k < 0 → parseFieldDescriptor (TJ9 k).2.2.1 = some (tyJ9 k) := by decide +kernel
abbrev cJ9_abs_0f7a4 : ByteArray := prog_16_method_59_code
def yJ9_abs_0f7a4 : MethodName := ⟨RJ9, "abs", "(I)I"⟩
abbrev cJ9_max_7cf53 : ByteArray := prog_16_method_65_code
def yJ9_max_7cf53 : MethodName := ⟨RJ9, "max", "(II)I"⟩
abbrev cJ9_min_7cf53 : ByteArray := prog_16_method_69_code
def yJ9_min_7cf53 : MethodName := ⟨RJ9, "min", "(II)I"⟩
def RJ0 : String := "java/lang/String"
def TJ0 : u_T := fun k => match k with
  | _ => ("", "", "", false)
def tyJ0 : Nat → FieldType := fun k => match k with
  | _ => .int
abbrev wsJ00 : List Cond := u_ws RJ0 TJ0 0
theorem nmJ0 : ∀ a, a < 0 → ∀ b, b < 0 → a ≠ b → (TJ0 a).2.1 ≠ (TJ0 b).2.1 := by decide +kernel
theorem tyJ0_ok : ∀ k, k < 0 → parseFieldDescriptor (TJ0 k).2.2.1 = some (tyJ0 k) := by decide +kernel
abbrev cJ0_length_8abf5 : ByteArray := prog_18_method_54_code
def yJ0_length_8abf5 : MethodName := ⟨RJ0, "length", "()I"⟩
abbrev cJ0_indexOf_0f7a4 : ByteArray := prog_18_method_79_code
def yJ0_indexOf_0f7a4 : MethodName := ⟨RJ0, "indexOf", "(I)I"⟩
abbrev cJ0_indexOf_7cf53 : ByteArray := prog_18_method_80_code
def yJ0_indexOf_7cf53 : MethodName := ⟨RJ0, "indexOf", "(II)I"⟩
abbrev cJ0_coder_7d493 : ByteArray := prog_18_method_152_code
def yJ0_coder_7d493 : MethodName := ⟨RJ0, "coder", "()B"⟩
abbrev cJ0_isLatin1_aae02 : ByteArray := prog_18_method_154_code
def yJ0_isLatin1_aae02 : MethodName := ⟨RJ0, "isLatin1", "()Z"⟩
abbrev cJ0_checkBoundsBeginEnd_23922 : ByteArray := prog_18_method_158_code
def yJ0_checkBoundsBeginEnd_23922 : MethodName := ⟨RJ0, "checkBoundsBeginEnd", "(III)V"⟩
def RJ1 : String := "java/lang/StringLatin1"
def TJ1 : u_T := fun k => match k with
  | _ => ("", "", "", false)
def tyJ1 : Nat → FieldType := fun k => match k with
  | _ => .int
abbrev wsJ10 : List Cond := u_ws RJ1 TJ1 0
theorem nmJ1 : ∀ a, a < 0 → ∀ b, b < 0 → a ≠ b → (TJ1 a).2.1 ≠ (TJ1 b).2.1 := by decide +kernel
theorem tyJ1_ok : ∀ k, k < 0 → parseFieldDescriptor (TJ1 k).2.2.1 = some (tyJ1 k) := by decide +kernel
abbrev cJ1_canEncode_9a6ad : ByteArray := prog_19_method_4_code
def yJ1_canEncode_9a6ad : MethodName := ⟨RJ1, "canEncode", "(I)Z"⟩
abbrev cJ1_indexOf_4cfef : ByteArray := prog_19_method_22_code
def yJ1_indexOf_4cfef : MethodName := ⟨RJ1, "indexOf", "([BIII)I"⟩
abbrev cJ1_indexOfChar_4cfef : ByteArray := prog_19_method_23_code
def yJ1_indexOfChar_4cfef : MethodName := ⟨RJ1, "indexOfChar", "([BIII)I"⟩
def RJ2 : String := "java/lang/StringUTF16"
def TJ2 : u_T := fun k => match k with
  | _ => ("", "", "", false)
def tyJ2 : Nat → FieldType := fun k => match k with
  | _ => .int
abbrev wsJ20 : List Cond := u_ws RJ2 TJ2 0
theorem nmJ2 : ∀ a, a < 0 → ∀ b, b < 0 → a ≠ b → (TJ2 a).2.1 ≠ (TJ2 b).2.1 := by decide +kernel
theorem tyJ2_ok : ∀ k, k < 0 → parseFieldDescriptor (TJ2 k).2.2.1 = some (tyJ2 k) := by decide +kernel
abbrev cJ2_getChar_3b067 : ByteArray := prog_20_method_5_code
def yJ2_getChar_3b067 : MethodName := ⟨RJ2, "getChar", "([BI)C"⟩
abbrev cJ2_length_9d52b : ByteArray := prog_20_method_6_code
def yJ2_length_9d52b : MethodName := ⟨RJ2, "length", "([B)I"⟩
abbrev cJ2_indexOf_4cfef : ByteArray := prog_20_method_40_code
def yJ2_indexOf_4cfef : MethodName := ⟨RJ2, "indexOf", "([BIII)I"⟩
abbrev cJ2_indexOfChar_4cfef : ByteArray := prog_20_method_47_code
def yJ2_indexOfChar_4cfef : MethodName := ⟨RJ2, "indexOfChar", "([BIII)I"⟩
abbrev cJ2_indexOfCharUnsafe_4cfef : ByteArray := prog_20_method_48_code
def yJ2_indexOfCharUnsafe_4cfef : MethodName := ⟨RJ2, "indexOfCharUnsafe", "([BIII)I"⟩
abbrev cJ2_indexOfSupplementary_4cfef : ByteArray := prog_20_method_49_code
def yJ2_indexOfSupplementary_4cfef : MethodName := ⟨RJ2, "indexOfSupplementary", "([BIII)I"⟩
abbrev cJ2_checkBoundsBeginEnd_d044e : ByteArray := prog_20_method_93_code
def yJ2_checkBoundsBeginEnd_d044e : MethodName := ⟨RJ2, "checkBoundsBeginEnd", "(II[B)V"⟩
def RJ10 : String := "java/lang/System"
def TJ10 : u_T := fun k => match k with
  | _ => ("", "", "", false)
def tyJ10 : Nat → FieldType := fun k => match k with
  | _ => .int
abbrev wsJ100 : List Cond := u_ws RJ10 TJ10 0
theorem nmJ10 : ∀ a, a < 0 → ∀ b, b < 0 → a ≠ b → (TJ10 a).2.1 ≠ (TJ10 b).2.1 := by decide +kernel
theorem tyJ10_ok : ∀ k, k < 0 → parseFieldDescriptor (TJ10 k).2.2.1 = some (tyJ10 k) := by decide +kernel
def RJxfd54e : String := "java/lang/constant/Constable"
def TJxfd54e : u_T := fun k => match k with
  | _ => ("", "", "", false)
def tyJxfd54e : Nat → FieldType := fun k => match k with
  | _ => .int
theorem nmJxfd54e : ∀ a, a < 0 → ∀ b, b < 0 → a ≠ b → (TJxfd54e a).2.1 ≠ (TJxfd54e b).2.1 := by decide +kernel
theorem tyJxfd54e_ok : ∀ k, k < 0 → parseFieldDescriptor (TJxfd54e k).2.2.1 = some (tyJxfd54e k) := by decide +kernel
def RJx3cf43 : String := "java/lang/constant/ConstantDesc"
def TJx3cf43 : u_T := fun k => match k with
  | _ => ("", "", "", false)
def tyJx3cf43 : Nat → FieldType := fun k => match k with
  | _ => .int
theorem nmJx3cf43 : ∀ a, a < 0 → ∀ b, b < 0 → a ≠ b → (TJx3cf43 a).2.1 ≠ (TJx3cf43 b).2.1 := by decide +kernel
theorem tyJx3cf43_ok : ∀ k, k < 0 → parseFieldDescriptor (TJx3cf43 k).2.2.1 = some (tyJx3cf43 k) := by decide +kernel
def RJ3 : String := "jdk/internal/util/Preconditions"
def TJ3 : u_T := fun k => match k with
  | _ => ("", "", "", false)
def tyJ3 : Nat → FieldType := fun k => match k with
  | _ => .int
abbrev wsJ30 : List Cond := u_ws RJ3 TJ3 0
theorem nmJ3 : ∀ a, a < 0 → ∀ b, b < 0 → a ≠ b → (TJ3 a).2.1 ≠ (TJ3 b).2.1 := by decide +kernel
theorem tyJ3_ok : ∀ k, k < 0 → parseFieldDescriptor (TJ3 k).2.2.1 = some (tyJ3 k) := by decide +kernel
abbrev cJ3_checkFromToIndex_8c36e : ByteArray := prog_26_method_12_code
def yJ3_checkFromToIndex_8c36e : MethodName := ⟨RJ3, "checkFromToIndex", "(IIILjava/util/function/BiFunction;)I"⟩
def RL : String := "StormPartingLaw"
abbrev cL_word : ByteArray := method_3_code
def yL_word : MethodName := ⟨RL, "word", "(LStormParting;II[J)I"⟩
abbrev cL_law : ByteArray := code
def yL_law : MethodName := ⟨RL, "law", "([I)Z"⟩
abbrev vwCl : List vw_C := [(RX0, TX0, 1), (RX1, TX1, 7), (RX2, TX2, 6), (RX3, TX3, 14), (RX4, TX4, 2), (RX5, TX5, 6), (RX6, TX6, 10), (RX7, TX7, 42)]
end
section
theorem dJ11_isValidCodePoint_9a6ad_0 : decode cJ11_isValidCodePoint_9a6ad 0 = .ok (.iload_n 0, 1) := by decide +kernel
theorem dJ11_isValidCodePoint_9a6ad_1 : decode cJ11_isValidCodePoint_9a6ad 1 = .ok (.bipush 16, 2) := by decide +kernel
theorem dJ11_isValidCodePoint_9a6ad_3 : decode cJ11_isValidCodePoint_9a6ad 3 = .ok (.iushr, 1) := by decide +kernel
theorem dJ11_isValidCodePoint_9a6ad_4 : decode cJ11_isValidCodePoint_9a6ad 4 = .ok (.istore_n 1, 1) := by decide +kernel
theorem dJ11_isValidCodePoint_9a6ad_5 : decode cJ11_isValidCodePoint_9a6ad 5 = .ok (.iload_n 1, 1) := by decide +kernel
theorem dJ11_isValidCodePoint_9a6ad_6 : decode cJ11_isValidCodePoint_9a6ad 6 = .ok (.bipush 17, 2) := by decide +kernel
theorem dJ11_isValidCodePoint_9a6ad_8 : decode cJ11_isValidCodePoint_9a6ad 8 = .ok (.if_icmp .ge 7, 3) := by decide +kernel
theorem dJ11_isValidCodePoint_9a6ad_11 : decode cJ11_isValidCodePoint_9a6ad 11 = .ok (.iconst 1, 1) := by decide +kernel
theorem dJ11_isValidCodePoint_9a6ad_12 : decode cJ11_isValidCodePoint_9a6ad 12 = .ok (.goto 4, 3) := by decide +kernel
theorem dJ11_isValidCodePoint_9a6ad_15 : decode cJ11_isValidCodePoint_9a6ad 15 = .ok (.iconst 0, 1) := by decide +kernel
theorem dJ11_isValidCodePoint_9a6ad_16 : decode cJ11_isValidCodePoint_9a6ad 16 = .ok (.ireturn, 1) := by decide +kernel
theorem dJ11_highSurrogate_5068e_0 : decode cJ11_highSurrogate_5068e 0 = .ok (.iload_n 0, 1) := by decide +kernel
theorem dJ11_highSurrogate_5068e_1 : decode cJ11_highSurrogate_5068e 1 = .ok (.bipush 10, 2) := by decide +kernel
theorem dJ11_highSurrogate_5068e_3 : decode cJ11_highSurrogate_5068e 3 = .ok (.iushr, 1) := by decide +kernel
theorem dJ11_highSurrogate_5068e_4 : decode cJ11_highSurrogate_5068e 4 = .ok (.ldc 110, 2) := by decide +kernel
theorem dJ11_highSurrogate_5068e_6 : decode cJ11_highSurrogate_5068e 6 = .ok (.iadd, 1) := by decide +kernel
theorem dJ11_highSurrogate_5068e_7 : decode cJ11_highSurrogate_5068e 7 = .ok (.i2c, 1) := by decide +kernel
theorem dJ11_highSurrogate_5068e_8 : decode cJ11_highSurrogate_5068e 8 = .ok (.ireturn, 1) := by decide +kernel
theorem dJ11_lowSurrogate_5068e_0 : decode cJ11_lowSurrogate_5068e 0 = .ok (.iload_n 0, 1) := by decide +kernel
theorem dJ11_lowSurrogate_5068e_1 : decode cJ11_lowSurrogate_5068e 1 = .ok (.sipush 1023, 3) := by decide +kernel
theorem dJ11_lowSurrogate_5068e_4 : decode cJ11_lowSurrogate_5068e 4 = .ok (.iand, 1) := by decide +kernel
theorem dJ11_lowSurrogate_5068e_5 : decode cJ11_lowSurrogate_5068e 5 = .ok (.ldc 76, 2) := by decide +kernel
theorem dJ11_lowSurrogate_5068e_7 : decode cJ11_lowSurrogate_5068e 7 = .ok (.iadd, 1) := by decide +kernel
theorem dJ11_lowSurrogate_5068e_8 : decode cJ11_lowSurrogate_5068e 8 = .ok (.i2c, 1) := by decide +kernel
theorem dJ11_lowSurrogate_5068e_9 : decode cJ11_lowSurrogate_5068e 9 = .ok (.ireturn, 1) := by decide +kernel
theorem dJ6_numberOfTrailingZeros_0f7a4_0 : decode cJ6_numberOfTrailingZeros_0f7a4 0 = .ok (.iload_n 0, 1) := by decide +kernel
theorem dJ6_numberOfTrailingZeros_0f7a4_1 : decode cJ6_numberOfTrailingZeros_0f7a4 1 = .ok (.iconst (-1), 1) := by decide +kernel
theorem dJ6_numberOfTrailingZeros_0f7a4_2 : decode cJ6_numberOfTrailingZeros_0f7a4 2 = .ok (.ixor, 1) := by decide +kernel
theorem dJ6_numberOfTrailingZeros_0f7a4_3 : decode cJ6_numberOfTrailingZeros_0f7a4 3 = .ok (.iload_n 0, 1) := by decide +kernel
theorem dJ6_numberOfTrailingZeros_0f7a4_4 : decode cJ6_numberOfTrailingZeros_0f7a4 4 = .ok (.iconst 1, 1) := by decide +kernel
theorem dJ6_numberOfTrailingZeros_0f7a4_5 : decode cJ6_numberOfTrailingZeros_0f7a4 5 = .ok (.isub, 1) := by decide +kernel
theorem dJ6_numberOfTrailingZeros_0f7a4_6 : decode cJ6_numberOfTrailingZeros_0f7a4 6 = .ok (.iand, 1) := by decide +kernel
theorem dJ6_numberOfTrailingZeros_0f7a4_7 : decode cJ6_numberOfTrailingZeros_0f7a4 7 = .ok (.istore_n 0, 1) := by decide +kernel
theorem dJ6_numberOfTrailingZeros_0f7a4_8 : decode cJ6_numberOfTrailingZeros_0f7a4 8 = .ok (.iload_n 0, 1) := by decide +kernel
theorem dJ6_numberOfTrailingZeros_0f7a4_9 : decode cJ6_numberOfTrailingZeros_0f7a4 9 = .ok (.ifCond .gt 8, 3) := by decide +kernel
theorem dJ6_numberOfTrailingZeros_0f7a4_12 : decode cJ6_numberOfTrailingZeros_0f7a4 12 = .ok (.iload_n 0, 1) := by decide +kernel
theorem dJ6_numberOfTrailingZeros_0f7a4_13 : decode cJ6_numberOfTrailingZeros_0f7a4 13 = .ok (.bipush 32, 2) := by decide +kernel
theorem dJ6_numberOfTrailingZeros_0f7a4_15 : decode cJ6_numberOfTrailingZeros_0f7a4 15 = .ok (.iand, 1) := by decide +kernel
theorem dJ6_numberOfTrailingZeros_0f7a4_16 : decode cJ6_numberOfTrailingZeros_0f7a4 16 = .ok (.ireturn, 1) := by decide +kernel
theorem dJ6_numberOfTrailingZeros_0f7a4_17 : decode cJ6_numberOfTrailingZeros_0f7a4 17 = .ok (.iconst 1, 1) := by decide +kernel
theorem dJ6_numberOfTrailingZeros_0f7a4_18 : decode cJ6_numberOfTrailingZeros_0f7a4 18 = .ok (.istore_n 1, 1) := by decide +kernel
theorem dJ6_numberOfTrailingZeros_0f7a4_19 : decode cJ6_numberOfTrailingZeros_0f7a4 19 = .ok (.iload_n 0, 1) := by decide +kernel
theorem dJ6_numberOfTrailingZeros_0f7a4_20 : decode cJ6_numberOfTrailingZeros_0f7a4 20 = .ok (.ldc_w 264, 3) := by decide +kernel
theorem dJ6_numberOfTrailingZeros_0f7a4_23 : decode cJ6_numberOfTrailingZeros_0f7a4 23 = .ok (.if_icmp .le 11, 3) := by decide +kernel
theorem dJ6_numberOfTrailingZeros_0f7a4_26 : decode cJ6_numberOfTrailingZeros_0f7a4 26 = .ok (.iinc 1 16, 3) := by decide +kernel
theorem dJ6_numberOfTrailingZeros_0f7a4_29 : decode cJ6_numberOfTrailingZeros_0f7a4 29 = .ok (.iload_n 0, 1) := by decide +kernel
theorem dJ6_numberOfTrailingZeros_0f7a4_30 : decode cJ6_numberOfTrailingZeros_0f7a4 30 = .ok (.bipush 16, 2) := by decide +kernel
theorem dJ6_numberOfTrailingZeros_0f7a4_32 : decode cJ6_numberOfTrailingZeros_0f7a4 32 = .ok (.iushr, 1) := by decide +kernel
theorem dJ6_numberOfTrailingZeros_0f7a4_33 : decode cJ6_numberOfTrailingZeros_0f7a4 33 = .ok (.istore_n 0, 1) := by decide +kernel
theorem dJ6_numberOfTrailingZeros_0f7a4_34 : decode cJ6_numberOfTrailingZeros_0f7a4 34 = .ok (.iload_n 0, 1) := by decide +kernel
theorem dJ6_numberOfTrailingZeros_0f7a4_35 : decode cJ6_numberOfTrailingZeros_0f7a4 35 = .ok (.sipush 256, 3) := by decide +kernel
theorem dJ6_numberOfTrailingZeros_0f7a4_38 : decode cJ6_numberOfTrailingZeros_0f7a4 38 = .ok (.if_icmp .le 11, 3) := by decide +kernel
theorem dJ6_numberOfTrailingZeros_0f7a4_41 : decode cJ6_numberOfTrailingZeros_0f7a4 41 = .ok (.iinc 1 8, 3) := by decide +kernel
theorem dJ6_numberOfTrailingZeros_0f7a4_44 : decode cJ6_numberOfTrailingZeros_0f7a4 44 = .ok (.iload_n 0, 1) := by decide +kernel
theorem dJ6_numberOfTrailingZeros_0f7a4_45 : decode cJ6_numberOfTrailingZeros_0f7a4 45 = .ok (.bipush 8, 2) := by decide +kernel
theorem dJ6_numberOfTrailingZeros_0f7a4_47 : decode cJ6_numberOfTrailingZeros_0f7a4 47 = .ok (.iushr, 1) := by decide +kernel
theorem dJ6_numberOfTrailingZeros_0f7a4_48 : decode cJ6_numberOfTrailingZeros_0f7a4 48 = .ok (.istore_n 0, 1) := by decide +kernel
theorem dJ6_numberOfTrailingZeros_0f7a4_49 : decode cJ6_numberOfTrailingZeros_0f7a4 49 = .ok (.iload_n 0, 1) := by decide +kernel
theorem dJ6_numberOfTrailingZeros_0f7a4_50 : decode cJ6_numberOfTrailingZeros_0f7a4 50 = .ok (.bipush 16, 2) := by decide +kernel
theorem dJ6_numberOfTrailingZeros_0f7a4_52 : decode cJ6_numberOfTrailingZeros_0f7a4 52 = .ok (.if_icmp .le 10, 3) := by decide +kernel
theorem dJ6_numberOfTrailingZeros_0f7a4_55 : decode cJ6_numberOfTrailingZeros_0f7a4 55 = .ok (.iinc 1 4, 3) := by decide +kernel
theorem dJ6_numberOfTrailingZeros_0f7a4_58 : decode cJ6_numberOfTrailingZeros_0f7a4 58 = .ok (.iload_n 0, 1) := by decide +kernel
theorem dJ6_numberOfTrailingZeros_0f7a4_59 : decode cJ6_numberOfTrailingZeros_0f7a4 59 = .ok (.iconst 4, 1) := by decide +kernel
theorem dJ6_numberOfTrailingZeros_0f7a4_60 : decode cJ6_numberOfTrailingZeros_0f7a4 60 = .ok (.iushr, 1) := by decide +kernel
theorem dJ6_numberOfTrailingZeros_0f7a4_61 : decode cJ6_numberOfTrailingZeros_0f7a4 61 = .ok (.istore_n 0, 1) := by decide +kernel
theorem dJ6_numberOfTrailingZeros_0f7a4_62 : decode cJ6_numberOfTrailingZeros_0f7a4 62 = .ok (.iload_n 0, 1) := by decide +kernel
theorem dJ6_numberOfTrailingZeros_0f7a4_63 : decode cJ6_numberOfTrailingZeros_0f7a4 63 = .ok (.iconst 4, 1) := by decide +kernel
theorem dJ6_numberOfTrailingZeros_0f7a4_64 : decode cJ6_numberOfTrailingZeros_0f7a4 64 = .ok (.if_icmp .le 10, 3) := by decide +kernel
theorem dJ6_numberOfTrailingZeros_0f7a4_67 : decode cJ6_numberOfTrailingZeros_0f7a4 67 = .ok (.iinc 1 2, 3) := by decide +kernel
theorem dJ6_numberOfTrailingZeros_0f7a4_70 : decode cJ6_numberOfTrailingZeros_0f7a4 70 = .ok (.iload_n 0, 1) := by decide +kernel
theorem dJ6_numberOfTrailingZeros_0f7a4_71 : decode cJ6_numberOfTrailingZeros_0f7a4 71 = .ok (.iconst 2, 1) := by decide +kernel
theorem dJ6_numberOfTrailingZeros_0f7a4_72 : decode cJ6_numberOfTrailingZeros_0f7a4 72 = .ok (.iushr, 1) := by decide +kernel
theorem dJ6_numberOfTrailingZeros_0f7a4_73 : decode cJ6_numberOfTrailingZeros_0f7a4 73 = .ok (.istore_n 0, 1) := by decide +kernel
theorem dJ6_numberOfTrailingZeros_0f7a4_74 : decode cJ6_numberOfTrailingZeros_0f7a4 74 = .ok (.iload_n 1, 1) := by decide +kernel
theorem dJ6_numberOfTrailingZeros_0f7a4_75 : decode cJ6_numberOfTrailingZeros_0f7a4 75 = .ok (.iload_n 0, 1) := by decide +kernel
theorem dJ6_numberOfTrailingZeros_0f7a4_76 : decode cJ6_numberOfTrailingZeros_0f7a4 76 = .ok (.iconst 1, 1) := by decide +kernel
theorem dJ6_numberOfTrailingZeros_0f7a4_77 : decode cJ6_numberOfTrailingZeros_0f7a4 77 = .ok (.iushr, 1) := by decide +kernel
theorem dJ6_numberOfTrailingZeros_0f7a4_78 : decode cJ6_numberOfTrailingZeros_0f7a4 78 = .ok (.iadd, 1) := by decide +kernel
theorem dJ6_numberOfTrailingZeros_0f7a4_79 : decode cJ6_numberOfTrailingZeros_0f7a4 79 = .ok (.ireturn, 1) := by decide +kernel
theorem dJ6_bitCount_0f7a4_0 : decode cJ6_bitCount_0f7a4 0 = .ok (.iload_n 0, 1) := by decide +kernel
theorem dJ6_bitCount_0f7a4_1 : decode cJ6_bitCount_0f7a4 1 = .ok (.iload_n 0, 1) := by decide +kernel
theorem dJ6_bitCount_0f7a4_2 : decode cJ6_bitCount_0f7a4 2 = .ok (.iconst 1, 1) := by decide +kernel
theorem dJ6_bitCount_0f7a4_3 : decode cJ6_bitCount_0f7a4 3 = .ok (.iushr, 1) := by decide +kernel
theorem dJ6_bitCount_0f7a4_4 : decode cJ6_bitCount_0f7a4 4 = .ok (.ldc_w 265, 3) := by decide +kernel
theorem dJ6_bitCount_0f7a4_7 : decode cJ6_bitCount_0f7a4 7 = .ok (.iand, 1) := by decide +kernel
theorem dJ6_bitCount_0f7a4_8 : decode cJ6_bitCount_0f7a4 8 = .ok (.isub, 1) := by decide +kernel
theorem dJ6_bitCount_0f7a4_9 : decode cJ6_bitCount_0f7a4 9 = .ok (.istore_n 0, 1) := by decide +kernel
theorem dJ6_bitCount_0f7a4_10 : decode cJ6_bitCount_0f7a4 10 = .ok (.iload_n 0, 1) := by decide +kernel
theorem dJ6_bitCount_0f7a4_11 : decode cJ6_bitCount_0f7a4 11 = .ok (.ldc_w 266, 3) := by decide +kernel
theorem dJ6_bitCount_0f7a4_14 : decode cJ6_bitCount_0f7a4 14 = .ok (.iand, 1) := by decide +kernel
theorem dJ6_bitCount_0f7a4_15 : decode cJ6_bitCount_0f7a4 15 = .ok (.iload_n 0, 1) := by decide +kernel
theorem dJ6_bitCount_0f7a4_16 : decode cJ6_bitCount_0f7a4 16 = .ok (.iconst 2, 1) := by decide +kernel
theorem dJ6_bitCount_0f7a4_17 : decode cJ6_bitCount_0f7a4 17 = .ok (.iushr, 1) := by decide +kernel
theorem dJ6_bitCount_0f7a4_18 : decode cJ6_bitCount_0f7a4 18 = .ok (.ldc_w 266, 3) := by decide +kernel
theorem dJ6_bitCount_0f7a4_21 : decode cJ6_bitCount_0f7a4 21 = .ok (.iand, 1) := by decide +kernel
theorem dJ6_bitCount_0f7a4_22 : decode cJ6_bitCount_0f7a4 22 = .ok (.iadd, 1) := by decide +kernel
theorem dJ6_bitCount_0f7a4_23 : decode cJ6_bitCount_0f7a4 23 = .ok (.istore_n 0, 1) := by decide +kernel
theorem dJ6_bitCount_0f7a4_24 : decode cJ6_bitCount_0f7a4 24 = .ok (.iload_n 0, 1) := by decide +kernel
theorem dJ6_bitCount_0f7a4_25 : decode cJ6_bitCount_0f7a4 25 = .ok (.iload_n 0, 1) := by decide +kernel
theorem dJ6_bitCount_0f7a4_26 : decode cJ6_bitCount_0f7a4 26 = .ok (.iconst 4, 1) := by decide +kernel
theorem dJ6_bitCount_0f7a4_27 : decode cJ6_bitCount_0f7a4 27 = .ok (.iushr, 1) := by decide +kernel
theorem dJ6_bitCount_0f7a4_28 : decode cJ6_bitCount_0f7a4 28 = .ok (.iadd, 1) := by decide +kernel
theorem dJ6_bitCount_0f7a4_29 : decode cJ6_bitCount_0f7a4 29 = .ok (.ldc_w 267, 3) := by decide +kernel
theorem dJ6_bitCount_0f7a4_32 : decode cJ6_bitCount_0f7a4 32 = .ok (.iand, 1) := by decide +kernel
theorem dJ6_bitCount_0f7a4_33 : decode cJ6_bitCount_0f7a4 33 = .ok (.istore_n 0, 1) := by decide +kernel
theorem dJ6_bitCount_0f7a4_34 : decode cJ6_bitCount_0f7a4 34 = .ok (.iload_n 0, 1) := by decide +kernel
theorem dJ6_bitCount_0f7a4_35 : decode cJ6_bitCount_0f7a4 35 = .ok (.iload_n 0, 1) := by decide +kernel
theorem dJ6_bitCount_0f7a4_36 : decode cJ6_bitCount_0f7a4 36 = .ok (.bipush 8, 2) := by decide +kernel
theorem dJ6_bitCount_0f7a4_38 : decode cJ6_bitCount_0f7a4 38 = .ok (.iushr, 1) := by decide +kernel
theorem dJ6_bitCount_0f7a4_39 : decode cJ6_bitCount_0f7a4 39 = .ok (.iadd, 1) := by decide +kernel
theorem dJ6_bitCount_0f7a4_40 : decode cJ6_bitCount_0f7a4 40 = .ok (.istore_n 0, 1) := by decide +kernel
theorem dJ6_bitCount_0f7a4_41 : decode cJ6_bitCount_0f7a4 41 = .ok (.iload_n 0, 1) := by decide +kernel
theorem dJ6_bitCount_0f7a4_42 : decode cJ6_bitCount_0f7a4 42 = .ok (.iload_n 0, 1) := by decide +kernel
theorem dJ6_bitCount_0f7a4_43 : decode cJ6_bitCount_0f7a4 43 = .ok (.bipush 16, 2) := by decide +kernel
theorem dJ6_bitCount_0f7a4_45 : decode cJ6_bitCount_0f7a4 45 = .ok (.iushr, 1) := by decide +kernel
theorem dJ6_bitCount_0f7a4_46 : decode cJ6_bitCount_0f7a4 46 = .ok (.iadd, 1) := by decide +kernel
theorem dJ6_bitCount_0f7a4_47 : decode cJ6_bitCount_0f7a4 47 = .ok (.istore_n 0, 1) := by decide +kernel
theorem dJ6_bitCount_0f7a4_48 : decode cJ6_bitCount_0f7a4 48 = .ok (.iload_n 0, 1) := by decide +kernel
theorem dJ6_bitCount_0f7a4_49 : decode cJ6_bitCount_0f7a4 49 = .ok (.bipush 63, 2) := by decide +kernel
theorem dJ6_bitCount_0f7a4_51 : decode cJ6_bitCount_0f7a4 51 = .ok (.iand, 1) := by decide +kernel
theorem dJ6_bitCount_0f7a4_52 : decode cJ6_bitCount_0f7a4 52 = .ok (.ireturn, 1) := by decide +kernel
theorem dJ9_abs_0f7a4_0 : decode cJ9_abs_0f7a4 0 = .ok (.iload_n 0, 1) := by decide +kernel
theorem dJ9_abs_0f7a4_1 : decode cJ9_abs_0f7a4 1 = .ok (.ifCond .ge 8, 3) := by decide +kernel
theorem dJ9_abs_0f7a4_4 : decode cJ9_abs_0f7a4 4 = .ok (.iload_n 0, 1) := by decide +kernel
theorem dJ9_abs_0f7a4_5 : decode cJ9_abs_0f7a4 5 = .ok (.ineg, 1) := by decide +kernel
theorem dJ9_abs_0f7a4_6 : decode cJ9_abs_0f7a4 6 = .ok (.goto 4, 3) := by decide +kernel
theorem dJ9_abs_0f7a4_9 : decode cJ9_abs_0f7a4 9 = .ok (.iload_n 0, 1) := by decide +kernel
theorem dJ9_abs_0f7a4_10 : decode cJ9_abs_0f7a4 10 = .ok (.ireturn, 1) := by decide +kernel
theorem dJ9_max_7cf53_0 : decode cJ9_max_7cf53 0 = .ok (.iload_n 0, 1) := by decide +kernel
theorem dJ9_max_7cf53_1 : decode cJ9_max_7cf53 1 = .ok (.iload_n 1, 1) := by decide +kernel
theorem dJ9_max_7cf53_2 : decode cJ9_max_7cf53 2 = .ok (.if_icmp .lt 7, 3) := by decide +kernel
theorem dJ9_max_7cf53_5 : decode cJ9_max_7cf53 5 = .ok (.iload_n 0, 1) := by decide +kernel
theorem dJ9_max_7cf53_6 : decode cJ9_max_7cf53 6 = .ok (.goto 4, 3) := by decide +kernel
theorem dJ9_max_7cf53_9 : decode cJ9_max_7cf53 9 = .ok (.iload_n 1, 1) := by decide +kernel
theorem dJ9_max_7cf53_10 : decode cJ9_max_7cf53 10 = .ok (.ireturn, 1) := by decide +kernel
theorem dJ9_min_7cf53_0 : decode cJ9_min_7cf53 0 = .ok (.iload_n 0, 1) := by decide +kernel
theorem dJ9_min_7cf53_1 : decode cJ9_min_7cf53 1 = .ok (.iload_n 1, 1) := by decide +kernel
theorem dJ9_min_7cf53_2 : decode cJ9_min_7cf53 2 = .ok (.if_icmp .gt 7, 3) := by decide +kernel
theorem dJ9_min_7cf53_5 : decode cJ9_min_7cf53 5 = .ok (.iload_n 0, 1) := by decide +kernel
theorem dJ9_min_7cf53_6 : decode cJ9_min_7cf53 6 = .ok (.goto 4, 3) := by decide +kernel
theorem dJ9_min_7cf53_9 : decode cJ9_min_7cf53 9 = .ok (.iload_n 1, 1) := by decide +kernel
theorem dJ9_min_7cf53_10 : decode cJ9_min_7cf53 10 = .ok (.ireturn, 1) := by decide +kernel
theorem dJ0_length_8abf5_0 : decode cJ0_length_8abf5 0 = .ok (.aload_n 0, 1) := by decide +kernel
theorem dJ0_length_8abf5_1 : decode cJ0_length_8abf5 1 = .ok (.getfield 9, 3) := by decide +kernel
theorem dJ0_length_8abf5_4 : decode cJ0_length_8abf5 4 = .ok (.arraylength, 1) := by decide +kernel
theorem dJ0_length_8abf5_5 : decode cJ0_length_8abf5 5 = .ok (.aload_n 0, 1) := by decide +kernel
theorem dJ0_length_8abf5_6 : decode cJ0_length_8abf5 6 = .ok (.invokevirtual 335, 3) := by decide +kernel
theorem dJ0_length_8abf5_9 : decode cJ0_length_8abf5 9 = .ok (.ishr, 1) := by decide +kernel
theorem dJ0_length_8abf5_10 : decode cJ0_length_8abf5 10 = .ok (.ireturn, 1) := by decide +kernel
theorem dJ0_indexOf_0f7a4_0 : decode cJ0_indexOf_0f7a4 0 = .ok (.aload_n 0, 1) := by decide +kernel
theorem dJ0_indexOf_0f7a4_1 : decode cJ0_indexOf_0f7a4 1 = .ok (.iload_n 1, 1) := by decide +kernel
theorem dJ0_indexOf_0f7a4_2 : decode cJ0_indexOf_0f7a4 2 = .ok (.iconst 0, 1) := by decide +kernel
theorem dJ0_indexOf_0f7a4_3 : decode cJ0_indexOf_0f7a4 3 = .ok (.invokevirtual 633, 3) := by decide +kernel
theorem dJ0_indexOf_0f7a4_6 : decode cJ0_indexOf_0f7a4 6 = .ok (.ireturn, 1) := by decide +kernel
theorem dJ0_indexOf_7cf53_0 : decode cJ0_indexOf_7cf53 0 = .ok (.aload_n 0, 1) := by decide +kernel
theorem dJ0_indexOf_7cf53_1 : decode cJ0_indexOf_7cf53 1 = .ok (.invokevirtual 492, 3) := by decide +kernel
theorem dJ0_indexOf_7cf53_4 : decode cJ0_indexOf_7cf53 4 = .ok (.ifCond .eq 19, 3) := by decide +kernel
theorem dJ0_indexOf_7cf53_7 : decode cJ0_indexOf_7cf53 7 = .ok (.aload_n 0, 1) := by decide +kernel
theorem dJ0_indexOf_7cf53_8 : decode cJ0_indexOf_7cf53 8 = .ok (.getfield 9, 3) := by decide +kernel
theorem dJ0_indexOf_7cf53_11 : decode cJ0_indexOf_7cf53 11 = .ok (.iload_n 1, 1) := by decide +kernel
theorem dJ0_indexOf_7cf53_12 : decode cJ0_indexOf_7cf53 12 = .ok (.iload_n 2, 1) := by decide +kernel
theorem dJ0_indexOf_7cf53_13 : decode cJ0_indexOf_7cf53 13 = .ok (.aload_n 0, 1) := by decide +kernel
theorem dJ0_indexOf_7cf53_14 : decode cJ0_indexOf_7cf53 14 = .ok (.invokevirtual 505, 3) := by decide +kernel
theorem dJ0_indexOf_7cf53_17 : decode cJ0_indexOf_7cf53 17 = .ok (.invokestatic 637, 3) := by decide +kernel
theorem dJ0_indexOf_7cf53_20 : decode cJ0_indexOf_7cf53 20 = .ok (.goto 16, 3) := by decide +kernel
theorem dJ0_indexOf_7cf53_23 : decode cJ0_indexOf_7cf53 23 = .ok (.aload_n 0, 1) := by decide +kernel
theorem dJ0_indexOf_7cf53_24 : decode cJ0_indexOf_7cf53 24 = .ok (.getfield 9, 3) := by decide +kernel
theorem dJ0_indexOf_7cf53_27 : decode cJ0_indexOf_7cf53 27 = .ok (.iload_n 1, 1) := by decide +kernel
theorem dJ0_indexOf_7cf53_28 : decode cJ0_indexOf_7cf53 28 = .ok (.iload_n 2, 1) := by decide +kernel
theorem dJ0_indexOf_7cf53_29 : decode cJ0_indexOf_7cf53 29 = .ok (.aload_n 0, 1) := by decide +kernel
theorem dJ0_indexOf_7cf53_30 : decode cJ0_indexOf_7cf53 30 = .ok (.invokevirtual 505, 3) := by decide +kernel
theorem dJ0_indexOf_7cf53_33 : decode cJ0_indexOf_7cf53 33 = .ok (.invokestatic 640, 3) := by decide +kernel
theorem dJ0_indexOf_7cf53_36 : decode cJ0_indexOf_7cf53 36 = .ok (.ireturn, 1) := by decide +kernel
theorem dJ0_coder_7d493_0 : decode cJ0_coder_7d493 0 = .ok (.getstatic 38, 3) := by decide +kernel
theorem dJ0_coder_7d493_3 : decode cJ0_coder_7d493 3 = .ok (.ifCond .eq 10, 3) := by decide +kernel
theorem dJ0_coder_7d493_6 : decode cJ0_coder_7d493 6 = .ok (.aload_n 0, 1) := by decide +kernel
theorem dJ0_coder_7d493_7 : decode cJ0_coder_7d493 7 = .ok (.getfield 15, 3) := by decide +kernel
theorem dJ0_coder_7d493_10 : decode cJ0_coder_7d493 10 = .ok (.goto 4, 3) := by decide +kernel
theorem dJ0_coder_7d493_13 : decode cJ0_coder_7d493 13 = .ok (.iconst 1, 1) := by decide +kernel
theorem dJ0_coder_7d493_14 : decode cJ0_coder_7d493 14 = .ok (.ireturn, 1) := by decide +kernel
theorem dJ0_isLatin1_aae02_0 : decode cJ0_isLatin1_aae02 0 = .ok (.getstatic 38, 3) := by decide +kernel
theorem dJ0_isLatin1_aae02_3 : decode cJ0_isLatin1_aae02 3 = .ok (.ifCond .eq 14, 3) := by decide +kernel
theorem dJ0_isLatin1_aae02_6 : decode cJ0_isLatin1_aae02 6 = .ok (.aload_n 0, 1) := by decide +kernel
theorem dJ0_isLatin1_aae02_7 : decode cJ0_isLatin1_aae02 7 = .ok (.getfield 15, 3) := by decide +kernel
theorem dJ0_isLatin1_aae02_10 : decode cJ0_isLatin1_aae02 10 = .ok (.ifCond .ne 7, 3) := by decide +kernel
theorem dJ0_isLatin1_aae02_13 : decode cJ0_isLatin1_aae02 13 = .ok (.iconst 1, 1) := by decide +kernel
theorem dJ0_isLatin1_aae02_14 : decode cJ0_isLatin1_aae02 14 = .ok (.goto 4, 3) := by decide +kernel
theorem dJ0_isLatin1_aae02_17 : decode cJ0_isLatin1_aae02 17 = .ok (.iconst 0, 1) := by decide +kernel
theorem dJ0_isLatin1_aae02_18 : decode cJ0_isLatin1_aae02 18 = .ok (.ireturn, 1) := by decide +kernel
theorem dJ0_checkBoundsBeginEnd_23922_0 : decode cJ0_checkBoundsBeginEnd_23922 0 = .ok (.iload_n 0, 1) := by decide +kernel
theorem dJ0_checkBoundsBeginEnd_23922_1 : decode cJ0_checkBoundsBeginEnd_23922 1 = .ok (.iload_n 1, 1) := by decide +kernel
theorem dJ0_checkBoundsBeginEnd_23922_2 : decode cJ0_checkBoundsBeginEnd_23922 2 = .ok (.iload_n 2, 1) := by decide +kernel
theorem dJ0_checkBoundsBeginEnd_23922_3 : decode cJ0_checkBoundsBeginEnd_23922 3 = .ok (.getstatic 1053, 3) := by decide +kernel
theorem dJ0_checkBoundsBeginEnd_23922_6 : decode cJ0_checkBoundsBeginEnd_23922 6 = .ok (.invokestatic 1062, 3) := by decide +kernel
theorem dJ0_checkBoundsBeginEnd_23922_9 : decode cJ0_checkBoundsBeginEnd_23922 9 = .ok (.pop, 1) := by decide +kernel
theorem dJ0_checkBoundsBeginEnd_23922_10 : decode cJ0_checkBoundsBeginEnd_23922 10 = .ok (.return_, 1) := by decide +kernel
theorem dJ1_canEncode_9a6ad_0 : decode cJ1_canEncode_9a6ad 0 = .ok (.iload_n 0, 1) := by decide +kernel
theorem dJ1_canEncode_9a6ad_1 : decode cJ1_canEncode_9a6ad 1 = .ok (.ifCond .lt 14, 3) := by decide +kernel
theorem dJ1_canEncode_9a6ad_4 : decode cJ1_canEncode_9a6ad 4 = .ok (.iload_n 0, 1) := by decide +kernel
theorem dJ1_canEncode_9a6ad_5 : decode cJ1_canEncode_9a6ad 5 = .ok (.sipush 255, 3) := by decide +kernel
theorem dJ1_canEncode_9a6ad_8 : decode cJ1_canEncode_9a6ad 8 = .ok (.if_icmp .gt 7, 3) := by decide +kernel
theorem dJ1_canEncode_9a6ad_11 : decode cJ1_canEncode_9a6ad 11 = .ok (.iconst 1, 1) := by decide +kernel
theorem dJ1_canEncode_9a6ad_12 : decode cJ1_canEncode_9a6ad 12 = .ok (.goto 4, 3) := by decide +kernel
theorem dJ1_canEncode_9a6ad_15 : decode cJ1_canEncode_9a6ad 15 = .ok (.iconst 0, 1) := by decide +kernel
theorem dJ1_canEncode_9a6ad_16 : decode cJ1_canEncode_9a6ad 16 = .ok (.ireturn, 1) := by decide +kernel
theorem dJ1_indexOf_4cfef_0 : decode cJ1_indexOf_4cfef 0 = .ok (.iload_n 1, 1) := by decide +kernel
theorem dJ1_indexOf_4cfef_1 : decode cJ1_indexOf_4cfef 1 = .ok (.invokestatic 88, 3) := by decide +kernel
theorem dJ1_indexOf_4cfef_4 : decode cJ1_indexOf_4cfef 4 = .ok (.ifCond .ne 5, 3) := by decide +kernel
theorem dJ1_indexOf_4cfef_7 : decode cJ1_indexOf_4cfef 7 = .ok (.iconst (-1), 1) := by decide +kernel
theorem dJ1_indexOf_4cfef_8 : decode cJ1_indexOf_4cfef 8 = .ok (.ireturn, 1) := by decide +kernel
theorem dJ1_indexOf_4cfef_9 : decode cJ1_indexOf_4cfef 9 = .ok (.iload_n 2, 1) := by decide +kernel
theorem dJ1_indexOf_4cfef_10 : decode cJ1_indexOf_4cfef 10 = .ok (.iconst 0, 1) := by decide +kernel
theorem dJ1_indexOf_4cfef_11 : decode cJ1_indexOf_4cfef 11 = .ok (.invokestatic 92, 3) := by decide +kernel
theorem dJ1_indexOf_4cfef_14 : decode cJ1_indexOf_4cfef 14 = .ok (.istore_n 2, 1) := by decide +kernel
theorem dJ1_indexOf_4cfef_15 : decode cJ1_indexOf_4cfef 15 = .ok (.iload_n 3, 1) := by decide +kernel
theorem dJ1_indexOf_4cfef_16 : decode cJ1_indexOf_4cfef 16 = .ok (.aload_n 0, 1) := by decide +kernel
theorem dJ1_indexOf_4cfef_17 : decode cJ1_indexOf_4cfef 17 = .ok (.arraylength, 1) := by decide +kernel
theorem dJ1_indexOf_4cfef_18 : decode cJ1_indexOf_4cfef 18 = .ok (.invokestatic 38, 3) := by decide +kernel
theorem dJ1_indexOf_4cfef_21 : decode cJ1_indexOf_4cfef 21 = .ok (.istore_n 3, 1) := by decide +kernel
theorem dJ1_indexOf_4cfef_22 : decode cJ1_indexOf_4cfef 22 = .ok (.iload_n 2, 1) := by decide +kernel
theorem dJ1_indexOf_4cfef_23 : decode cJ1_indexOf_4cfef 23 = .ok (.iload_n 3, 1) := by decide +kernel
theorem dJ1_indexOf_4cfef_24 : decode cJ1_indexOf_4cfef 24 = .ok (.if_icmp .lt 5, 3) := by decide +kernel
theorem dJ1_indexOf_4cfef_27 : decode cJ1_indexOf_4cfef 27 = .ok (.iconst (-1), 1) := by decide +kernel
theorem dJ1_indexOf_4cfef_28 : decode cJ1_indexOf_4cfef 28 = .ok (.ireturn, 1) := by decide +kernel
theorem dJ1_indexOf_4cfef_29 : decode cJ1_indexOf_4cfef 29 = .ok (.aload_n 0, 1) := by decide +kernel
theorem dJ1_indexOf_4cfef_30 : decode cJ1_indexOf_4cfef 30 = .ok (.iload_n 1, 1) := by decide +kernel
theorem dJ1_indexOf_4cfef_31 : decode cJ1_indexOf_4cfef 31 = .ok (.iload_n 2, 1) := by decide +kernel
theorem dJ1_indexOf_4cfef_32 : decode cJ1_indexOf_4cfef 32 = .ok (.iload_n 3, 1) := by decide +kernel
theorem dJ1_indexOf_4cfef_33 : decode cJ1_indexOf_4cfef 33 = .ok (.invokestatic 95, 3) := by decide +kernel
theorem dJ1_indexOf_4cfef_36 : decode cJ1_indexOf_4cfef 36 = .ok (.ireturn, 1) := by decide +kernel
theorem dJ1_indexOfChar_4cfef_0 : decode cJ1_indexOfChar_4cfef 0 = .ok (.iload_n 1, 1) := by decide +kernel
theorem dJ1_indexOfChar_4cfef_1 : decode cJ1_indexOfChar_4cfef 1 = .ok (.i2b, 1) := by decide +kernel
theorem dJ1_indexOfChar_4cfef_2 : decode cJ1_indexOfChar_4cfef 2 = .ok (.istore 4, 2) := by decide +kernel
theorem dJ1_indexOfChar_4cfef_4 : decode cJ1_indexOfChar_4cfef 4 = .ok (.iload_n 2, 1) := by decide +kernel
theorem dJ1_indexOfChar_4cfef_5 : decode cJ1_indexOfChar_4cfef 5 = .ok (.istore 5, 2) := by decide +kernel
theorem dJ1_indexOfChar_4cfef_7 : decode cJ1_indexOfChar_4cfef 7 = .ok (.iload 5, 2) := by decide +kernel
theorem dJ1_indexOfChar_4cfef_9 : decode cJ1_indexOfChar_4cfef 9 = .ok (.iload_n 3, 1) := by decide +kernel
theorem dJ1_indexOfChar_4cfef_10 : decode cJ1_indexOfChar_4cfef 10 = .ok (.if_icmp .ge 21, 3) := by decide +kernel
theorem dJ1_indexOfChar_4cfef_13 : decode cJ1_indexOfChar_4cfef 13 = .ok (.aload_n 0, 1) := by decide +kernel
theorem dJ1_indexOfChar_4cfef_14 : decode cJ1_indexOfChar_4cfef 14 = .ok (.iload 5, 2) := by decide +kernel
theorem dJ1_indexOfChar_4cfef_16 : decode cJ1_indexOfChar_4cfef 16 = .ok (.baload, 1) := by decide +kernel
theorem dJ1_indexOfChar_4cfef_17 : decode cJ1_indexOfChar_4cfef 17 = .ok (.iload 4, 2) := by decide +kernel
theorem dJ1_indexOfChar_4cfef_19 : decode cJ1_indexOfChar_4cfef 19 = .ok (.if_icmp .ne 6, 3) := by decide +kernel
theorem dJ1_indexOfChar_4cfef_22 : decode cJ1_indexOfChar_4cfef 22 = .ok (.iload 5, 2) := by decide +kernel
theorem dJ1_indexOfChar_4cfef_24 : decode cJ1_indexOfChar_4cfef 24 = .ok (.ireturn, 1) := by decide +kernel
theorem dJ1_indexOfChar_4cfef_25 : decode cJ1_indexOfChar_4cfef 25 = .ok (.iinc 5 1, 3) := by decide +kernel
theorem dJ1_indexOfChar_4cfef_28 : decode cJ1_indexOfChar_4cfef 28 = .ok (.goto (-21), 3) := by decide +kernel
theorem dJ1_indexOfChar_4cfef_31 : decode cJ1_indexOfChar_4cfef 31 = .ok (.iconst (-1), 1) := by decide +kernel
theorem dJ1_indexOfChar_4cfef_32 : decode cJ1_indexOfChar_4cfef 32 = .ok (.ireturn, 1) := by decide +kernel
theorem dJ2_getChar_3b067_0 : decode cJ2_getChar_3b067 0 = .ok (.getstatic 44, 3) := by decide +kernel
theorem dJ2_getChar_3b067_3 : decode cJ2_getChar_3b067 3 = .ok (.ifCond .ne 25, 3) := by decide +kernel
theorem dJ2_getChar_3b067_6 : decode cJ2_getChar_3b067 6 = .ok (.iload_n 1, 1) := by decide +kernel
theorem dJ2_getChar_3b067_7 : decode cJ2_getChar_3b067 7 = .ok (.ifCond .lt 11, 3) := by decide +kernel
theorem dJ2_getChar_3b067_10 : decode cJ2_getChar_3b067 10 = .ok (.iload_n 1, 1) := by decide +kernel
theorem dJ2_getChar_3b067_11 : decode cJ2_getChar_3b067 11 = .ok (.aload_n 0, 1) := by decide +kernel
theorem dJ2_getChar_3b067_12 : decode cJ2_getChar_3b067 12 = .ok (.invokestatic 48, 3) := by decide +kernel
theorem dJ2_getChar_3b067_15 : decode cJ2_getChar_3b067 15 = .ok (.if_icmp .lt 13, 3) := by decide +kernel
theorem dJ2_getChar_3b067_18 : decode cJ2_getChar_3b067 18 = .ok (.new 52, 3) := by decide +kernel
theorem dJ2_getChar_3b067_21 : decode cJ2_getChar_3b067 21 = .ok (.dup, 1) := by decide +kernel
theorem dJ2_getChar_3b067_22 : decode cJ2_getChar_3b067 22 = .ok (.ldc 54, 2) := by decide +kernel
theorem dJ2_getChar_3b067_24 : decode cJ2_getChar_3b067 24 = .ok (.invokespecial 56, 3) := by decide +kernel
theorem dJ2_getChar_3b067_27 : decode cJ2_getChar_3b067 27 = .ok (.athrow, 1) := by decide +kernel
theorem dJ2_getChar_3b067_28 : decode cJ2_getChar_3b067 28 = .ok (.iload_n 1, 1) := by decide +kernel
theorem dJ2_getChar_3b067_29 : decode cJ2_getChar_3b067 29 = .ok (.iconst 1, 1) := by decide +kernel
theorem dJ2_getChar_3b067_30 : decode cJ2_getChar_3b067 30 = .ok (.ishl, 1) := by decide +kernel
theorem dJ2_getChar_3b067_31 : decode cJ2_getChar_3b067 31 = .ok (.istore_n 1, 1) := by decide +kernel
theorem dJ2_getChar_3b067_32 : decode cJ2_getChar_3b067 32 = .ok (.aload_n 0, 1) := by decide +kernel
theorem dJ2_getChar_3b067_33 : decode cJ2_getChar_3b067 33 = .ok (.iload_n 1, 1) := by decide +kernel
theorem dJ2_getChar_3b067_34 : decode cJ2_getChar_3b067 34 = .ok (.iinc 1 1, 3) := by decide +kernel
theorem dJ2_getChar_3b067_37 : decode cJ2_getChar_3b067 37 = .ok (.baload, 1) := by decide +kernel
theorem dJ2_getChar_3b067_38 : decode cJ2_getChar_3b067 38 = .ok (.sipush 255, 3) := by decide +kernel
theorem dJ2_getChar_3b067_41 : decode cJ2_getChar_3b067 41 = .ok (.iand, 1) := by decide +kernel
theorem dJ2_getChar_3b067_42 : decode cJ2_getChar_3b067 42 = .ok (.getstatic 59, 3) := by decide +kernel
theorem dJ2_getChar_3b067_45 : decode cJ2_getChar_3b067 45 = .ok (.ishl, 1) := by decide +kernel
theorem dJ2_getChar_3b067_46 : decode cJ2_getChar_3b067 46 = .ok (.aload_n 0, 1) := by decide +kernel
theorem dJ2_getChar_3b067_47 : decode cJ2_getChar_3b067 47 = .ok (.iload_n 1, 1) := by decide +kernel
theorem dJ2_getChar_3b067_48 : decode cJ2_getChar_3b067 48 = .ok (.baload, 1) := by decide +kernel
theorem dJ2_getChar_3b067_49 : decode cJ2_getChar_3b067 49 = .ok (.sipush 255, 3) := by decide +kernel
theorem dJ2_getChar_3b067_52 : decode cJ2_getChar_3b067 52 = .ok (.iand, 1) := by decide +kernel
theorem dJ2_getChar_3b067_53 : decode cJ2_getChar_3b067 53 = .ok (.getstatic 63, 3) := by decide +kernel
theorem dJ2_getChar_3b067_56 : decode cJ2_getChar_3b067 56 = .ok (.ishl, 1) := by decide +kernel
theorem dJ2_getChar_3b067_57 : decode cJ2_getChar_3b067 57 = .ok (.ior, 1) := by decide +kernel
theorem dJ2_getChar_3b067_58 : decode cJ2_getChar_3b067 58 = .ok (.i2c, 1) := by decide +kernel
theorem dJ2_getChar_3b067_59 : decode cJ2_getChar_3b067 59 = .ok (.ireturn, 1) := by decide +kernel
theorem dJ2_length_9d52b_0 : decode cJ2_length_9d52b 0 = .ok (.aload_n 0, 1) := by decide +kernel
theorem dJ2_length_9d52b_1 : decode cJ2_length_9d52b 1 = .ok (.arraylength, 1) := by decide +kernel
theorem dJ2_length_9d52b_2 : decode cJ2_length_9d52b 2 = .ok (.iconst 1, 1) := by decide +kernel
theorem dJ2_length_9d52b_3 : decode cJ2_length_9d52b 3 = .ok (.ishr, 1) := by decide +kernel
theorem dJ2_length_9d52b_4 : decode cJ2_length_9d52b 4 = .ok (.ireturn, 1) := by decide +kernel
theorem dJ2_indexOf_4cfef_0 : decode cJ2_indexOf_4cfef 0 = .ok (.iload_n 2, 1) := by decide +kernel
theorem dJ2_indexOf_4cfef_1 : decode cJ2_indexOf_4cfef 1 = .ok (.iconst 0, 1) := by decide +kernel
theorem dJ2_indexOf_4cfef_2 : decode cJ2_indexOf_4cfef 2 = .ok (.invokestatic 224, 3) := by decide +kernel
theorem dJ2_indexOf_4cfef_5 : decode cJ2_indexOf_4cfef 5 = .ok (.istore_n 2, 1) := by decide +kernel
theorem dJ2_indexOf_4cfef_6 : decode cJ2_indexOf_4cfef 6 = .ok (.iload_n 3, 1) := by decide +kernel
theorem dJ2_indexOf_4cfef_7 : decode cJ2_indexOf_4cfef 7 = .ok (.aload_n 0, 1) := by decide +kernel
theorem dJ2_indexOf_4cfef_8 : decode cJ2_indexOf_4cfef 8 = .ok (.arraylength, 1) := by decide +kernel
theorem dJ2_indexOf_4cfef_9 : decode cJ2_indexOf_4cfef 9 = .ok (.iconst 1, 1) := by decide +kernel
theorem dJ2_indexOf_4cfef_10 : decode cJ2_indexOf_4cfef 10 = .ok (.ishr, 1) := by decide +kernel
theorem dJ2_indexOf_4cfef_11 : decode cJ2_indexOf_4cfef 11 = .ok (.invokestatic 183, 3) := by decide +kernel
theorem dJ2_indexOf_4cfef_14 : decode cJ2_indexOf_4cfef 14 = .ok (.istore_n 3, 1) := by decide +kernel
theorem dJ2_indexOf_4cfef_15 : decode cJ2_indexOf_4cfef 15 = .ok (.iload_n 2, 1) := by decide +kernel
theorem dJ2_indexOf_4cfef_16 : decode cJ2_indexOf_4cfef 16 = .ok (.iload_n 3, 1) := by decide +kernel
theorem dJ2_indexOf_4cfef_17 : decode cJ2_indexOf_4cfef 17 = .ok (.if_icmp .lt 5, 3) := by decide +kernel
theorem dJ2_indexOf_4cfef_20 : decode cJ2_indexOf_4cfef 20 = .ok (.iconst (-1), 1) := by decide +kernel
theorem dJ2_indexOf_4cfef_21 : decode cJ2_indexOf_4cfef 21 = .ok (.ireturn, 1) := by decide +kernel
theorem dJ2_indexOf_4cfef_22 : decode cJ2_indexOf_4cfef 22 = .ok (.iload_n 1, 1) := by decide +kernel
theorem dJ2_indexOf_4cfef_23 : decode cJ2_indexOf_4cfef 23 = .ok (.ldc 227, 2) := by decide +kernel
theorem dJ2_indexOf_4cfef_25 : decode cJ2_indexOf_4cfef 25 = .ok (.if_icmp .ge 11, 3) := by decide +kernel
theorem dJ2_indexOf_4cfef_28 : decode cJ2_indexOf_4cfef 28 = .ok (.aload_n 0, 1) := by decide +kernel
theorem dJ2_indexOf_4cfef_29 : decode cJ2_indexOf_4cfef 29 = .ok (.iload_n 1, 1) := by decide +kernel
theorem dJ2_indexOf_4cfef_30 : decode cJ2_indexOf_4cfef 30 = .ok (.iload_n 2, 1) := by decide +kernel
theorem dJ2_indexOf_4cfef_31 : decode cJ2_indexOf_4cfef 31 = .ok (.iload_n 3, 1) := by decide +kernel
theorem dJ2_indexOf_4cfef_32 : decode cJ2_indexOf_4cfef 32 = .ok (.invokestatic 228, 3) := by decide +kernel
theorem dJ2_indexOf_4cfef_35 : decode cJ2_indexOf_4cfef 35 = .ok (.ireturn, 1) := by decide +kernel
theorem dJ2_indexOf_4cfef_36 : decode cJ2_indexOf_4cfef 36 = .ok (.aload_n 0, 1) := by decide +kernel
theorem dJ2_indexOf_4cfef_37 : decode cJ2_indexOf_4cfef 37 = .ok (.iload_n 1, 1) := by decide +kernel
theorem dJ2_indexOf_4cfef_38 : decode cJ2_indexOf_4cfef 38 = .ok (.iload_n 2, 1) := by decide +kernel
theorem dJ2_indexOf_4cfef_39 : decode cJ2_indexOf_4cfef 39 = .ok (.iload_n 3, 1) := by decide +kernel
theorem dJ2_indexOf_4cfef_40 : decode cJ2_indexOf_4cfef 40 = .ok (.invokestatic 232, 3) := by decide +kernel
theorem dJ2_indexOf_4cfef_43 : decode cJ2_indexOf_4cfef 43 = .ok (.ireturn, 1) := by decide +kernel
theorem dJ2_indexOfChar_4cfef_0 : decode cJ2_indexOfChar_4cfef 0 = .ok (.iload_n 2, 1) := by decide +kernel
theorem dJ2_indexOfChar_4cfef_1 : decode cJ2_indexOfChar_4cfef 1 = .ok (.iload_n 3, 1) := by decide +kernel
theorem dJ2_indexOfChar_4cfef_2 : decode cJ2_indexOfChar_4cfef 2 = .ok (.aload_n 0, 1) := by decide +kernel
theorem dJ2_indexOfChar_4cfef_3 : decode cJ2_indexOfChar_4cfef 3 = .ok (.invokestatic 96, 3) := by decide +kernel
theorem dJ2_indexOfChar_4cfef_6 : decode cJ2_indexOfChar_4cfef 6 = .ok (.aload_n 0, 1) := by decide +kernel
theorem dJ2_indexOfChar_4cfef_7 : decode cJ2_indexOfChar_4cfef 7 = .ok (.iload_n 1, 1) := by decide +kernel
theorem dJ2_indexOfChar_4cfef_8 : decode cJ2_indexOfChar_4cfef 8 = .ok (.iload_n 2, 1) := by decide +kernel
theorem dJ2_indexOfChar_4cfef_9 : decode cJ2_indexOfChar_4cfef 9 = .ok (.iload_n 3, 1) := by decide +kernel
theorem dJ2_indexOfChar_4cfef_10 : decode cJ2_indexOfChar_4cfef 10 = .ok (.invokestatic 244, 3) := by decide +kernel
theorem dJ2_indexOfChar_4cfef_13 : decode cJ2_indexOfChar_4cfef 13 = .ok (.ireturn, 1) := by decide +kernel
theorem dJ2_indexOfCharUnsafe_4cfef_0 : decode cJ2_indexOfCharUnsafe_4cfef 0 = .ok (.iload_n 2, 1) := by decide +kernel
theorem dJ2_indexOfCharUnsafe_4cfef_1 : decode cJ2_indexOfCharUnsafe_4cfef 1 = .ok (.istore 4, 2) := by decide +kernel
theorem dJ2_indexOfCharUnsafe_4cfef_3 : decode cJ2_indexOfCharUnsafe_4cfef 3 = .ok (.iload 4, 2) := by decide +kernel
theorem dJ2_indexOfCharUnsafe_4cfef_5 : decode cJ2_indexOfCharUnsafe_4cfef 5 = .ok (.iload_n 3, 1) := by decide +kernel
theorem dJ2_indexOfCharUnsafe_4cfef_6 : decode cJ2_indexOfCharUnsafe_4cfef 6 = .ok (.if_icmp .ge 22, 3) := by decide +kernel
theorem dJ2_indexOfCharUnsafe_4cfef_9 : decode cJ2_indexOfCharUnsafe_4cfef 9 = .ok (.aload_n 0, 1) := by decide +kernel
theorem dJ2_indexOfCharUnsafe_4cfef_10 : decode cJ2_indexOfCharUnsafe_4cfef 10 = .ok (.iload 4, 2) := by decide +kernel
theorem dJ2_indexOfCharUnsafe_4cfef_12 : decode cJ2_indexOfCharUnsafe_4cfef 12 = .ok (.invokestatic 71, 3) := by decide +kernel
theorem dJ2_indexOfCharUnsafe_4cfef_15 : decode cJ2_indexOfCharUnsafe_4cfef 15 = .ok (.iload_n 1, 1) := by decide +kernel
theorem dJ2_indexOfCharUnsafe_4cfef_16 : decode cJ2_indexOfCharUnsafe_4cfef 16 = .ok (.if_icmp .ne 6, 3) := by decide +kernel
theorem dJ2_indexOfCharUnsafe_4cfef_19 : decode cJ2_indexOfCharUnsafe_4cfef 19 = .ok (.iload 4, 2) := by decide +kernel
theorem dJ2_indexOfCharUnsafe_4cfef_21 : decode cJ2_indexOfCharUnsafe_4cfef 21 = .ok (.ireturn, 1) := by decide +kernel
theorem dJ2_indexOfCharUnsafe_4cfef_22 : decode cJ2_indexOfCharUnsafe_4cfef 22 = .ok (.iinc 4 1, 3) := by decide +kernel
theorem dJ2_indexOfCharUnsafe_4cfef_25 : decode cJ2_indexOfCharUnsafe_4cfef 25 = .ok (.goto (-22), 3) := by decide +kernel
theorem dJ2_indexOfCharUnsafe_4cfef_28 : decode cJ2_indexOfCharUnsafe_4cfef 28 = .ok (.iconst (-1), 1) := by decide +kernel
theorem dJ2_indexOfCharUnsafe_4cfef_29 : decode cJ2_indexOfCharUnsafe_4cfef 29 = .ok (.ireturn, 1) := by decide +kernel
theorem dJ2_indexOfSupplementary_4cfef_0 : decode cJ2_indexOfSupplementary_4cfef 0 = .ok (.iload_n 1, 1) := by decide +kernel
theorem dJ2_indexOfSupplementary_4cfef_1 : decode cJ2_indexOfSupplementary_4cfef 1 = .ok (.invokestatic 164, 3) := by decide +kernel
theorem dJ2_indexOfSupplementary_4cfef_4 : decode cJ2_indexOfSupplementary_4cfef 4 = .ok (.ifCond .eq 65, 3) := by decide +kernel
theorem dJ2_indexOfSupplementary_4cfef_7 : decode cJ2_indexOfSupplementary_4cfef 7 = .ok (.iload_n 1, 1) := by decide +kernel
theorem dJ2_indexOfSupplementary_4cfef_8 : decode cJ2_indexOfSupplementary_4cfef 8 = .ok (.invokestatic 157, 3) := by decide +kernel
theorem dJ2_indexOfSupplementary_4cfef_11 : decode cJ2_indexOfSupplementary_4cfef 11 = .ok (.istore 4, 2) := by decide +kernel
theorem dJ2_indexOfSupplementary_4cfef_13 : decode cJ2_indexOfSupplementary_4cfef 13 = .ok (.iload_n 1, 1) := by decide +kernel
theorem dJ2_indexOfSupplementary_4cfef_14 : decode cJ2_indexOfSupplementary_4cfef 14 = .ok (.invokestatic 161, 3) := by decide +kernel
theorem dJ2_indexOfSupplementary_4cfef_17 : decode cJ2_indexOfSupplementary_4cfef 17 = .ok (.istore 5, 2) := by decide +kernel
theorem dJ2_indexOfSupplementary_4cfef_19 : decode cJ2_indexOfSupplementary_4cfef 19 = .ok (.iload_n 2, 1) := by decide +kernel
theorem dJ2_indexOfSupplementary_4cfef_20 : decode cJ2_indexOfSupplementary_4cfef 20 = .ok (.iload_n 3, 1) := by decide +kernel
theorem dJ2_indexOfSupplementary_4cfef_21 : decode cJ2_indexOfSupplementary_4cfef 21 = .ok (.aload_n 0, 1) := by decide +kernel
theorem dJ2_indexOfSupplementary_4cfef_22 : decode cJ2_indexOfSupplementary_4cfef 22 = .ok (.invokestatic 96, 3) := by decide +kernel
theorem dJ2_indexOfSupplementary_4cfef_25 : decode cJ2_indexOfSupplementary_4cfef 25 = .ok (.iload_n 2, 1) := by decide +kernel
theorem dJ2_indexOfSupplementary_4cfef_26 : decode cJ2_indexOfSupplementary_4cfef 26 = .ok (.istore 6, 2) := by decide +kernel
theorem dJ2_indexOfSupplementary_4cfef_28 : decode cJ2_indexOfSupplementary_4cfef 28 = .ok (.iload 6, 2) := by decide +kernel
theorem dJ2_indexOfSupplementary_4cfef_30 : decode cJ2_indexOfSupplementary_4cfef 30 = .ok (.iload_n 3, 1) := by decide +kernel
theorem dJ2_indexOfSupplementary_4cfef_31 : decode cJ2_indexOfSupplementary_4cfef 31 = .ok (.iconst 1, 1) := by decide +kernel
theorem dJ2_indexOfSupplementary_4cfef_32 : decode cJ2_indexOfSupplementary_4cfef 32 = .ok (.isub, 1) := by decide +kernel
theorem dJ2_indexOfSupplementary_4cfef_33 : decode cJ2_indexOfSupplementary_4cfef 33 = .ok (.if_icmp .ge 36, 3) := by decide +kernel
theorem dJ2_indexOfSupplementary_4cfef_36 : decode cJ2_indexOfSupplementary_4cfef 36 = .ok (.aload_n 0, 1) := by decide +kernel
theorem dJ2_indexOfSupplementary_4cfef_37 : decode cJ2_indexOfSupplementary_4cfef 37 = .ok (.iload 6, 2) := by decide +kernel
theorem dJ2_indexOfSupplementary_4cfef_39 : decode cJ2_indexOfSupplementary_4cfef 39 = .ok (.invokestatic 71, 3) := by decide +kernel
theorem dJ2_indexOfSupplementary_4cfef_42 : decode cJ2_indexOfSupplementary_4cfef 42 = .ok (.iload 4, 2) := by decide +kernel
theorem dJ2_indexOfSupplementary_4cfef_44 : decode cJ2_indexOfSupplementary_4cfef 44 = .ok (.if_icmp .ne 19, 3) := by decide +kernel
theorem dJ2_indexOfSupplementary_4cfef_47 : decode cJ2_indexOfSupplementary_4cfef 47 = .ok (.aload_n 0, 1) := by decide +kernel
theorem dJ2_indexOfSupplementary_4cfef_48 : decode cJ2_indexOfSupplementary_4cfef 48 = .ok (.iload 6, 2) := by decide +kernel
theorem dJ2_indexOfSupplementary_4cfef_50 : decode cJ2_indexOfSupplementary_4cfef 50 = .ok (.iconst 1, 1) := by decide +kernel
theorem dJ2_indexOfSupplementary_4cfef_51 : decode cJ2_indexOfSupplementary_4cfef 51 = .ok (.iadd, 1) := by decide +kernel
theorem dJ2_indexOfSupplementary_4cfef_52 : decode cJ2_indexOfSupplementary_4cfef 52 = .ok (.invokestatic 71, 3) := by decide +kernel
theorem dJ2_indexOfSupplementary_4cfef_55 : decode cJ2_indexOfSupplementary_4cfef 55 = .ok (.iload 5, 2) := by decide +kernel
theorem dJ2_indexOfSupplementary_4cfef_57 : decode cJ2_indexOfSupplementary_4cfef 57 = .ok (.if_icmp .ne 6, 3) := by decide +kernel
theorem dJ2_indexOfSupplementary_4cfef_60 : decode cJ2_indexOfSupplementary_4cfef 60 = .ok (.iload 6, 2) := by decide +kernel
theorem dJ2_indexOfSupplementary_4cfef_62 : decode cJ2_indexOfSupplementary_4cfef 62 = .ok (.ireturn, 1) := by decide +kernel
theorem dJ2_indexOfSupplementary_4cfef_63 : decode cJ2_indexOfSupplementary_4cfef 63 = .ok (.iinc 6 1, 3) := by decide +kernel
theorem dJ2_indexOfSupplementary_4cfef_66 : decode cJ2_indexOfSupplementary_4cfef 66 = .ok (.goto (-38), 3) := by decide +kernel
theorem dJ2_indexOfSupplementary_4cfef_69 : decode cJ2_indexOfSupplementary_4cfef 69 = .ok (.iconst (-1), 1) := by decide +kernel
theorem dJ2_indexOfSupplementary_4cfef_70 : decode cJ2_indexOfSupplementary_4cfef 70 = .ok (.ireturn, 1) := by decide +kernel
theorem dJ2_checkBoundsBeginEnd_d044e_0 : decode cJ2_checkBoundsBeginEnd_d044e 0 = .ok (.iload_n 0, 1) := by decide +kernel
theorem dJ2_checkBoundsBeginEnd_d044e_1 : decode cJ2_checkBoundsBeginEnd_d044e 1 = .ok (.iload_n 1, 1) := by decide +kernel
theorem dJ2_checkBoundsBeginEnd_d044e_2 : decode cJ2_checkBoundsBeginEnd_d044e 2 = .ok (.aload_n 2, 1) := by decide +kernel
theorem dJ2_checkBoundsBeginEnd_d044e_3 : decode cJ2_checkBoundsBeginEnd_d044e 3 = .ok (.invokestatic 48, 3) := by decide +kernel
theorem dJ2_checkBoundsBeginEnd_d044e_6 : decode cJ2_checkBoundsBeginEnd_d044e 6 = .ok (.invokestatic 241, 3) := by decide +kernel
theorem dJ2_checkBoundsBeginEnd_d044e_9 : decode cJ2_checkBoundsBeginEnd_d044e 9 = .ok (.return_, 1) := by decide +kernel
theorem dJ3_checkFromToIndex_8c36e_0 : decode cJ3_checkFromToIndex_8c36e 0 = .ok (.iload_n 0, 1) := by decide +kernel
theorem dJ3_checkFromToIndex_8c36e_1 : decode cJ3_checkFromToIndex_8c36e 1 = .ok (.ifCond .lt 13, 3) := by decide +kernel
theorem dJ3_checkFromToIndex_8c36e_4 : decode cJ3_checkFromToIndex_8c36e 4 = .ok (.iload_n 0, 1) := by decide +kernel
theorem dJ3_checkFromToIndex_8c36e_5 : decode cJ3_checkFromToIndex_8c36e 5 = .ok (.iload_n 1, 1) := by decide +kernel
theorem dJ3_checkFromToIndex_8c36e_6 : decode cJ3_checkFromToIndex_8c36e 6 = .ok (.if_icmp .gt 8, 3) := by decide +kernel
theorem dJ3_checkFromToIndex_8c36e_9 : decode cJ3_checkFromToIndex_8c36e 9 = .ok (.iload_n 1, 1) := by decide +kernel
theorem dJ3_checkFromToIndex_8c36e_10 : decode cJ3_checkFromToIndex_8c36e 10 = .ok (.iload_n 2, 1) := by decide +kernel
theorem dJ3_checkFromToIndex_8c36e_11 : decode cJ3_checkFromToIndex_8c36e 11 = .ok (.if_icmp .le 11, 3) := by decide +kernel
theorem dJ3_checkFromToIndex_8c36e_14 : decode cJ3_checkFromToIndex_8c36e 14 = .ok (.aload_n 3, 1) := by decide +kernel
theorem dJ3_checkFromToIndex_8c36e_15 : decode cJ3_checkFromToIndex_8c36e 15 = .ok (.iload_n 0, 1) := by decide +kernel
theorem dJ3_checkFromToIndex_8c36e_16 : decode cJ3_checkFromToIndex_8c36e 16 = .ok (.iload_n 1, 1) := by decide +kernel
theorem dJ3_checkFromToIndex_8c36e_17 : decode cJ3_checkFromToIndex_8c36e 17 = .ok (.iload_n 2, 1) := by decide +kernel
theorem dJ3_checkFromToIndex_8c36e_18 : decode cJ3_checkFromToIndex_8c36e 18 = .ok (.invokestatic 99, 3) := by decide +kernel
theorem dJ3_checkFromToIndex_8c36e_21 : decode cJ3_checkFromToIndex_8c36e 21 = .ok (.athrow, 1) := by decide +kernel
theorem dJ3_checkFromToIndex_8c36e_22 : decode cJ3_checkFromToIndex_8c36e 22 = .ok (.iload_n 0, 1) := by decide +kernel
theorem dJ3_checkFromToIndex_8c36e_23 : decode cJ3_checkFromToIndex_8c36e 23 = .ok (.ireturn, 1) := by decide +kernel
end
section
theorem dX7_init_0 : decode cX7_init 0 = .ok (.aload_n 0, 1) := by decide +kernel
theorem dX7_init_1 : decode cX7_init 1 = .ok (.invokespecial 1, 3) := by decide +kernel
theorem dX7_init_4 : decode cX7_init 4 = .ok (.aload_n 0, 1) := by decide +kernel
theorem dX7_init_5 : decode cX7_init 5 = .ok (.bipush 120, 2) := by decide +kernel
theorem dX7_init_7 : decode cX7_init 7 = .ok (.newarray .byte, 2) := by decide +kernel
theorem dX7_init_9 : decode cX7_init 9 = .ok (.putfield 9, 3) := by decide +kernel
theorem dX7_init_12 : decode cX7_init 12 = .ok (.aload_n 0, 1) := by decide +kernel
theorem dX7_init_13 : decode cX7_init 13 = .ok (.bipush 70, 2) := by decide +kernel
theorem dX7_init_15 : decode cX7_init 15 = .ok (.newarray .int, 2) := by decide +kernel
theorem dX7_init_17 : decode cX7_init 17 = .ok (.putfield 13, 3) := by decide +kernel
theorem dX7_init_20 : decode cX7_init 20 = .ok (.aload_n 0, 1) := by decide +kernel
theorem dX7_init_21 : decode cX7_init 21 = .ok (.bipush 12, 2) := by decide +kernel
theorem dX7_init_23 : decode cX7_init 23 = .ok (.newarray .int, 2) := by decide +kernel
theorem dX7_init_25 : decode cX7_init 25 = .ok (.putfield 17, 3) := by decide +kernel
theorem dX7_init_28 : decode cX7_init 28 = .ok (.aload_n 0, 1) := by decide +kernel
theorem dX7_init_29 : decode cX7_init 29 = .ok (.bipush 12, 2) := by decide +kernel
theorem dX7_init_31 : decode cX7_init 31 = .ok (.newarray .int, 2) := by decide +kernel
theorem dX7_init_33 : decode cX7_init 33 = .ok (.putfield 20, 3) := by decide +kernel
theorem dX7_init_36 : decode cX7_init 36 = .ok (.aload_n 0, 1) := by decide +kernel
theorem dX7_init_37 : decode cX7_init 37 = .ok (.bipush 12, 2) := by decide +kernel
theorem dX7_init_39 : decode cX7_init 39 = .ok (.newarray .int, 2) := by decide +kernel
theorem dX7_init_41 : decode cX7_init 41 = .ok (.putfield 23, 3) := by decide +kernel
theorem dX7_init_44 : decode cX7_init 44 = .ok (.aload_n 0, 1) := by decide +kernel
theorem dX7_init_45 : decode cX7_init 45 = .ok (.bipush 12, 2) := by decide +kernel
theorem dX7_init_47 : decode cX7_init 47 = .ok (.newarray .int, 2) := by decide +kernel
theorem dX7_init_49 : decode cX7_init 49 = .ok (.putfield 26, 3) := by decide +kernel
theorem dX7_init_52 : decode cX7_init 52 = .ok (.aload_n 0, 1) := by decide +kernel
theorem dX7_init_53 : decode cX7_init 53 = .ok (.bipush 12, 2) := by decide +kernel
theorem dX7_init_55 : decode cX7_init 55 = .ok (.newarray .int, 2) := by decide +kernel
theorem dX7_init_57 : decode cX7_init 57 = .ok (.putfield 29, 3) := by decide +kernel
theorem dX7_init_60 : decode cX7_init 60 = .ok (.aload_n 0, 1) := by decide +kernel
theorem dX7_init_61 : decode cX7_init 61 = .ok (.bipush 12, 2) := by decide +kernel
theorem dX7_init_63 : decode cX7_init 63 = .ok (.newarray .int, 2) := by decide +kernel
theorem dX7_init_65 : decode cX7_init 65 = .ok (.putfield 32, 3) := by decide +kernel
theorem dX7_init_68 : decode cX7_init 68 = .ok (.aload_n 0, 1) := by decide +kernel
theorem dX7_init_69 : decode cX7_init 69 = .ok (.bipush 12, 2) := by decide +kernel
theorem dX7_init_71 : decode cX7_init 71 = .ok (.newarray .int, 2) := by decide +kernel
theorem dX7_init_73 : decode cX7_init 73 = .ok (.putfield 35, 3) := by decide +kernel
theorem dX7_init_76 : decode cX7_init 76 = .ok (.aload_n 0, 1) := by decide +kernel
theorem dX7_init_77 : decode cX7_init 77 = .ok (.bipush 12, 2) := by decide +kernel
theorem dX7_init_79 : decode cX7_init 79 = .ok (.newarray .int, 2) := by decide +kernel
theorem dX7_init_81 : decode cX7_init 81 = .ok (.putfield 38, 3) := by decide +kernel
theorem dX7_init_84 : decode cX7_init 84 = .ok (.aload_n 0, 1) := by decide +kernel
theorem dX7_init_85 : decode cX7_init 85 = .ok (.bipush 12, 2) := by decide +kernel
theorem dX7_init_87 : decode cX7_init 87 = .ok (.newarray .int, 2) := by decide +kernel
theorem dX7_init_89 : decode cX7_init 89 = .ok (.putfield 41, 3) := by decide +kernel
theorem dX7_init_92 : decode cX7_init 92 = .ok (.aload_n 0, 1) := by decide +kernel
theorem dX7_init_93 : decode cX7_init 93 = .ok (.bipush 12, 2) := by decide +kernel
theorem dX7_init_95 : decode cX7_init 95 = .ok (.newarray .int, 2) := by decide +kernel
theorem dX7_init_97 : decode cX7_init 97 = .ok (.putfield 44, 3) := by decide +kernel
theorem dX7_init_100 : decode cX7_init 100 = .ok (.aload_n 0, 1) := by decide +kernel
theorem dX7_init_101 : decode cX7_init 101 = .ok (.bipush 12, 2) := by decide +kernel
theorem dX7_init_103 : decode cX7_init 103 = .ok (.newarray .int, 2) := by decide +kernel
theorem dX7_init_105 : decode cX7_init 105 = .ok (.putfield 47, 3) := by decide +kernel
theorem dX7_init_108 : decode cX7_init 108 = .ok (.aload_n 0, 1) := by decide +kernel
theorem dX7_init_109 : decode cX7_init 109 = .ok (.bipush 12, 2) := by decide +kernel
theorem dX7_init_111 : decode cX7_init 111 = .ok (.newarray .int, 2) := by decide +kernel
theorem dX7_init_113 : decode cX7_init 113 = .ok (.putfield 50, 3) := by decide +kernel
theorem dX7_init_116 : decode cX7_init 116 = .ok (.aload_n 0, 1) := by decide +kernel
theorem dX7_init_117 : decode cX7_init 117 = .ok (.bipush 12, 2) := by decide +kernel
theorem dX7_init_119 : decode cX7_init 119 = .ok (.newarray .int, 2) := by decide +kernel
theorem dX7_init_121 : decode cX7_init 121 = .ok (.putfield 53, 3) := by decide +kernel
theorem dX7_init_124 : decode cX7_init 124 = .ok (.aload_n 0, 1) := by decide +kernel
theorem dX7_init_125 : decode cX7_init 125 = .ok (.bipush 12, 2) := by decide +kernel
theorem dX7_init_127 : decode cX7_init 127 = .ok (.newarray .int, 2) := by decide +kernel
theorem dX7_init_129 : decode cX7_init 129 = .ok (.putfield 56, 3) := by decide +kernel
theorem dX7_init_132 : decode cX7_init 132 = .ok (.aload_n 0, 1) := by decide +kernel
theorem dX7_init_133 : decode cX7_init 133 = .ok (.bipush 12, 2) := by decide +kernel
theorem dX7_init_135 : decode cX7_init 135 = .ok (.newarray .int, 2) := by decide +kernel
theorem dX7_init_137 : decode cX7_init 137 = .ok (.putfield 59, 3) := by decide +kernel
theorem dX7_init_140 : decode cX7_init 140 = .ok (.aload_n 0, 1) := by decide +kernel
theorem dX7_init_141 : decode cX7_init 141 = .ok (.bipush 12, 2) := by decide +kernel
theorem dX7_init_143 : decode cX7_init 143 = .ok (.newarray .int, 2) := by decide +kernel
theorem dX7_init_145 : decode cX7_init 145 = .ok (.putfield 62, 3) := by decide +kernel
theorem dX7_init_148 : decode cX7_init 148 = .ok (.aload_n 0, 1) := by decide +kernel
theorem dX7_init_149 : decode cX7_init 149 = .ok (.bipush 12, 2) := by decide +kernel
theorem dX7_init_151 : decode cX7_init 151 = .ok (.newarray .int, 2) := by decide +kernel
theorem dX7_init_153 : decode cX7_init 153 = .ok (.putfield 65, 3) := by decide +kernel
theorem dX7_init_156 : decode cX7_init 156 = .ok (.return_, 1) := by decide +kernel
theorem dX7_thrown_0 : decode cX7_thrown 0 = .ok (.aload_n 0, 1) := by decide +kernel
theorem dX7_thrown_1 : decode cX7_thrown 1 = .ok (.getfield 68, 3) := by decide +kernel
theorem dX7_thrown_4 : decode cX7_thrown 4 = .ok (.ireturn, 1) := by decide +kernel
theorem dX7_isIn_0 : decode cX7_isIn 0 = .ok (.iload_n 0, 1) := by decide +kernel
theorem dX7_isIn_1 : decode cX7_isIn 1 = .ok (.iload_n 1, 1) := by decide +kernel
theorem dX7_isIn_2 : decode cX7_isIn 2 = .ok (.if_icmp .lt 12, 3) := by decide +kernel
theorem dX7_isIn_5 : decode cX7_isIn 5 = .ok (.iload_n 0, 1) := by decide +kernel
theorem dX7_isIn_6 : decode cX7_isIn 6 = .ok (.iload_n 2, 1) := by decide +kernel
theorem dX7_isIn_7 : decode cX7_isIn 7 = .ok (.if_icmp .gt 7, 3) := by decide +kernel
theorem dX7_isIn_10 : decode cX7_isIn 10 = .ok (.iconst 1, 1) := by decide +kernel
theorem dX7_isIn_11 : decode cX7_isIn 11 = .ok (.goto 4, 3) := by decide +kernel
theorem dX7_isIn_14 : decode cX7_isIn 14 = .ok (.iconst 0, 1) := by decide +kernel
theorem dX7_isIn_15 : decode cX7_isIn 15 = .ok (.ireturn, 1) := by decide +kernel
theorem dX7_bytesIn_0 : decode cX7_bytesIn 0 = .ok (.iconst 0, 1) := by decide +kernel
theorem dX7_bytesIn_1 : decode cX7_bytesIn 1 = .ok (.istore_n 1, 1) := by decide +kernel
theorem dX7_bytesIn_2 : decode cX7_bytesIn 2 = .ok (.bipush 24, 2) := by decide +kernel
theorem dX7_bytesIn_4 : decode cX7_bytesIn 4 = .ok (.istore_n 2, 1) := by decide +kernel
theorem dX7_bytesIn_5 : decode cX7_bytesIn 5 = .ok (.iload_n 2, 1) := by decide +kernel
theorem dX7_bytesIn_6 : decode cX7_bytesIn 6 = .ok (.ifCond .lt 27, 3) := by decide +kernel
theorem dX7_bytesIn_9 : decode cX7_bytesIn 9 = .ok (.iload_n 1, 1) := by decide +kernel
theorem dX7_bytesIn_10 : decode cX7_bytesIn 10 = .ok (.iload_n 0, 1) := by decide +kernel
theorem dX7_bytesIn_11 : decode cX7_bytesIn 11 = .ok (.iload_n 2, 1) := by decide +kernel
theorem dX7_bytesIn_12 : decode cX7_bytesIn 12 = .ok (.ishr, 1) := by decide +kernel
theorem dX7_bytesIn_13 : decode cX7_bytesIn 13 = .ok (.sipush 255, 3) := by decide +kernel
theorem dX7_bytesIn_16 : decode cX7_bytesIn 16 = .ok (.iand, 1) := by decide +kernel
theorem dX7_bytesIn_17 : decode cX7_bytesIn 17 = .ok (.ifCond .eq 7, 3) := by decide +kernel
theorem dX7_bytesIn_20 : decode cX7_bytesIn 20 = .ok (.iconst 1, 1) := by decide +kernel
theorem dX7_bytesIn_21 : decode cX7_bytesIn 21 = .ok (.goto 4, 3) := by decide +kernel
theorem dX7_bytesIn_24 : decode cX7_bytesIn 24 = .ok (.iconst 0, 1) := by decide +kernel
theorem dX7_bytesIn_25 : decode cX7_bytesIn 25 = .ok (.iadd, 1) := by decide +kernel
theorem dX7_bytesIn_26 : decode cX7_bytesIn 26 = .ok (.istore_n 1, 1) := by decide +kernel
theorem dX7_bytesIn_27 : decode cX7_bytesIn 27 = .ok (.iinc 2 (-8), 3) := by decide +kernel
theorem dX7_bytesIn_30 : decode cX7_bytesIn 30 = .ok (.goto (-25), 3) := by decide +kernel
theorem dX7_bytesIn_33 : decode cX7_bytesIn 33 = .ok (.iload_n 1, 1) := by decide +kernel
theorem dX7_bytesIn_34 : decode cX7_bytesIn 34 = .ok (.ireturn, 1) := by decide +kernel
theorem dX7_put_0 : decode cX7_put 0 = .ok (.bipush 24, 2) := by decide +kernel
theorem dX7_put_2 : decode cX7_put 2 = .ok (.istore_n 2, 1) := by decide +kernel
theorem dX7_put_3 : decode cX7_put 3 = .ok (.iload_n 2, 1) := by decide +kernel
theorem dX7_put_4 : decode cX7_put 4 = .ok (.ifCond .lt 45, 3) := by decide +kernel
theorem dX7_put_7 : decode cX7_put 7 = .ok (.iload_n 1, 1) := by decide +kernel
theorem dX7_put_8 : decode cX7_put 8 = .ok (.iload_n 2, 1) := by decide +kernel
theorem dX7_put_9 : decode cX7_put 9 = .ok (.ishr, 1) := by decide +kernel
theorem dX7_put_10 : decode cX7_put 10 = .ok (.sipush 255, 3) := by decide +kernel
theorem dX7_put_13 : decode cX7_put 13 = .ok (.iand, 1) := by decide +kernel
theorem dX7_put_14 : decode cX7_put 14 = .ok (.ifCond .ne 6, 3) := by decide +kernel
theorem dX7_put_17 : decode cX7_put 17 = .ok (.goto 26, 3) := by decide +kernel
theorem dX7_put_20 : decode cX7_put 20 = .ok (.aload_n 0, 1) := by decide +kernel
theorem dX7_put_21 : decode cX7_put 21 = .ok (.getfield 9, 3) := by decide +kernel
theorem dX7_put_24 : decode cX7_put 24 = .ok (.aload_n 0, 1) := by decide +kernel
theorem dX7_put_25 : decode cX7_put 25 = .ok (.getfield 72, 3) := by decide +kernel
theorem dX7_put_28 : decode cX7_put 28 = .ok (.iload_n 1, 1) := by decide +kernel
theorem dX7_put_29 : decode cX7_put 29 = .ok (.iload_n 2, 1) := by decide +kernel
theorem dX7_put_30 : decode cX7_put 30 = .ok (.ishr, 1) := by decide +kernel
theorem dX7_put_31 : decode cX7_put 31 = .ok (.i2b, 1) := by decide +kernel
theorem dX7_put_32 : decode cX7_put 32 = .ok (.bastore, 1) := by decide +kernel
theorem dX7_put_33 : decode cX7_put 33 = .ok (.aload_n 0, 1) := by decide +kernel
theorem dX7_put_34 : decode cX7_put 34 = .ok (.dup, 1) := by decide +kernel
theorem dX7_put_35 : decode cX7_put 35 = .ok (.getfield 72, 3) := by decide +kernel
theorem dX7_put_38 : decode cX7_put 38 = .ok (.iconst 1, 1) := by decide +kernel
theorem dX7_put_39 : decode cX7_put 39 = .ok (.iadd, 1) := by decide +kernel
theorem dX7_put_40 : decode cX7_put 40 = .ok (.putfield 72, 3) := by decide +kernel
theorem dX7_put_43 : decode cX7_put 43 = .ok (.iinc 2 (-8), 3) := by decide +kernel
theorem dX7_put_46 : decode cX7_put 46 = .ok (.goto (-43), 3) := by decide +kernel
theorem dX7_put_49 : decode cX7_put 49 = .ok (.return_, 1) := by decide +kernel
theorem dX7_feed_0 : decode cX7_feed 0 = .ok (.aload_n 0, 1) := by decide +kernel
theorem dX7_feed_1 : decode cX7_feed 1 = .ok (.iconst 0, 1) := by decide +kernel
theorem dX7_feed_2 : decode cX7_feed 2 = .ok (.putfield 68, 3) := by decide +kernel
theorem dX7_feed_5 : decode cX7_feed 5 = .ok (.aload_n 0, 1) := by decide +kernel
theorem dX7_feed_6 : decode cX7_feed 6 = .ok (.getfield 72, 3) := by decide +kernel
theorem dX7_feed_9 : decode cX7_feed 9 = .ok (.iload_n 1, 1) := by decide +kernel
theorem dX7_feed_10 : decode cX7_feed 10 = .ok (.invokestatic 75, 3) := by decide +kernel
theorem dX7_feed_13 : decode cX7_feed 13 = .ok (.iadd, 1) := by decide +kernel
theorem dX7_feed_14 : decode cX7_feed 14 = .ok (.iload_n 2, 1) := by decide +kernel
theorem dX7_feed_15 : decode cX7_feed 15 = .ok (.invokestatic 75, 3) := by decide +kernel
theorem dX7_feed_18 : decode cX7_feed 18 = .ok (.iadd, 1) := by decide +kernel
theorem dX7_feed_19 : decode cX7_feed 19 = .ok (.iload_n 3, 1) := by decide +kernel
theorem dX7_feed_20 : decode cX7_feed 20 = .ok (.invokestatic 75, 3) := by decide +kernel
theorem dX7_feed_23 : decode cX7_feed 23 = .ok (.iadd, 1) := by decide +kernel
theorem dX7_feed_24 : decode cX7_feed 24 = .ok (.iload 4, 2) := by decide +kernel
theorem dX7_feed_26 : decode cX7_feed 26 = .ok (.invokestatic 75, 3) := by decide +kernel
theorem dX7_feed_29 : decode cX7_feed 29 = .ok (.iadd, 1) := by decide +kernel
theorem dX7_feed_30 : decode cX7_feed 30 = .ok (.iload 5, 2) := by decide +kernel
theorem dX7_feed_32 : decode cX7_feed 32 = .ok (.invokestatic 75, 3) := by decide +kernel
theorem dX7_feed_35 : decode cX7_feed 35 = .ok (.iadd, 1) := by decide +kernel
theorem dX7_feed_36 : decode cX7_feed 36 = .ok (.bipush 120, 2) := by decide +kernel
theorem dX7_feed_38 : decode cX7_feed 38 = .ok (.if_icmp .le 5, 3) := by decide +kernel
theorem dX7_feed_41 : decode cX7_feed 41 = .ok (.iconst (-1), 1) := by decide +kernel
theorem dX7_feed_42 : decode cX7_feed 42 = .ok (.ireturn, 1) := by decide +kernel
theorem dX7_feed_43 : decode cX7_feed 43 = .ok (.aload_n 0, 1) := by decide +kernel
theorem dX7_feed_44 : decode cX7_feed 44 = .ok (.iload_n 1, 1) := by decide +kernel
theorem dX7_feed_45 : decode cX7_feed 45 = .ok (.invokevirtual 79, 3) := by decide +kernel
theorem dX7_feed_48 : decode cX7_feed 48 = .ok (.aload_n 0, 1) := by decide +kernel
theorem dX7_feed_49 : decode cX7_feed 49 = .ok (.iload_n 2, 1) := by decide +kernel
theorem dX7_feed_50 : decode cX7_feed 50 = .ok (.invokevirtual 79, 3) := by decide +kernel
theorem dX7_feed_53 : decode cX7_feed 53 = .ok (.aload_n 0, 1) := by decide +kernel
theorem dX7_feed_54 : decode cX7_feed 54 = .ok (.iload_n 3, 1) := by decide +kernel
theorem dX7_feed_55 : decode cX7_feed 55 = .ok (.invokevirtual 79, 3) := by decide +kernel
theorem dX7_feed_58 : decode cX7_feed 58 = .ok (.aload_n 0, 1) := by decide +kernel
theorem dX7_feed_59 : decode cX7_feed 59 = .ok (.iload 4, 2) := by decide +kernel
theorem dX7_feed_61 : decode cX7_feed 61 = .ok (.invokevirtual 79, 3) := by decide +kernel
theorem dX7_feed_64 : decode cX7_feed 64 = .ok (.aload_n 0, 1) := by decide +kernel
theorem dX7_feed_65 : decode cX7_feed 65 = .ok (.iload 5, 2) := by decide +kernel
theorem dX7_feed_67 : decode cX7_feed 67 = .ok (.invokevirtual 79, 3) := by decide +kernel
theorem dX7_feed_70 : decode cX7_feed 70 = .ok (.aload_n 0, 1) := by decide +kernel
theorem dX7_feed_71 : decode cX7_feed 71 = .ok (.getfield 72, 3) := by decide +kernel
theorem dX7_feed_74 : decode cX7_feed 74 = .ok (.ireturn, 1) := by decide +kernel
theorem dX7_end_0 : decode cX7_end 0 = .ok (.aload_n 0, 1) := by decide +kernel
theorem dX7_end_1 : decode cX7_end 1 = .ok (.iconst 0, 1) := by decide +kernel
theorem dX7_end_2 : decode cX7_end 2 = .ok (.putfield 68, 3) := by decide +kernel
theorem dX7_end_5 : decode cX7_end 5 = .ok (.iload_n 1, 1) := by decide +kernel
theorem dX7_end_6 : decode cX7_end 6 = .ok (.ifCond .lt 11, 3) := by decide +kernel
theorem dX7_end_9 : decode cX7_end 9 = .ok (.iload_n 1, 1) := by decide +kernel
theorem dX7_end_10 : decode cX7_end 10 = .ok (.aload_n 0, 1) := by decide +kernel
theorem dX7_end_11 : decode cX7_end 11 = .ok (.getfield 72, 3) := by decide +kernel
theorem dX7_end_14 : decode cX7_end 14 = .ok (.if_icmp .le 5, 3) := by decide +kernel
theorem dX7_end_17 : decode cX7_end 17 = .ok (.iconst 0, 1) := by decide +kernel
theorem dX7_end_18 : decode cX7_end 18 = .ok (.ireturn, 1) := by decide +kernel
theorem dX7_end_19 : decode cX7_end 19 = .ok (.aload_n 0, 1) := by decide +kernel
theorem dX7_end_20 : decode cX7_end 20 = .ok (.iload_n 1, 1) := by decide +kernel
theorem dX7_end_21 : decode cX7_end 21 = .ok (.putfield 72, 3) := by decide +kernel
theorem dX7_end_24 : decode cX7_end 24 = .ok (.iconst 1, 1) := by decide +kernel
theorem dX7_end_25 : decode cX7_end 25 = .ok (.ireturn, 1) := by decide +kernel
theorem dX7_here_0 : decode cX7_here 0 = .ok (.aload_n 0, 1) := by decide +kernel
theorem dX7_here_1 : decode cX7_here 1 = .ok (.getfield 83, 3) := by decide +kernel
theorem dX7_here_4 : decode cX7_here 4 = .ok (.aload_n 0, 1) := by decide +kernel
theorem dX7_here_5 : decode cX7_here 5 = .ok (.getfield 72, 3) := by decide +kernel
theorem dX7_here_8 : decode cX7_here 8 = .ok (.if_icmp .ge 19, 3) := by decide +kernel
theorem dX7_here_11 : decode cX7_here 11 = .ok (.aload_n 0, 1) := by decide +kernel
theorem dX7_here_12 : decode cX7_here 12 = .ok (.getfield 9, 3) := by decide +kernel
theorem dX7_here_15 : decode cX7_here 15 = .ok (.aload_n 0, 1) := by decide +kernel
theorem dX7_here_16 : decode cX7_here 16 = .ok (.getfield 83, 3) := by decide +kernel
theorem dX7_here_19 : decode cX7_here 19 = .ok (.baload, 1) := by decide +kernel
theorem dX7_here_20 : decode cX7_here 20 = .ok (.sipush 255, 3) := by decide +kernel
theorem dX7_here_23 : decode cX7_here 23 = .ok (.iand, 1) := by decide +kernel
theorem dX7_here_24 : decode cX7_here 24 = .ok (.goto 4, 3) := by decide +kernel
theorem dX7_here_27 : decode cX7_here 27 = .ok (.iconst (-1), 1) := by decide +kernel
theorem dX7_here_28 : decode cX7_here 28 = .ok (.ireturn, 1) := by decide +kernel
theorem dX7_look_0 : decode cX7_look 0 = .ok (.aload_n 0, 1) := by decide +kernel
theorem dX7_look_1 : decode cX7_look 1 = .ok (.invokevirtual 86, 3) := by decide +kernel
theorem dX7_look_4 : decode cX7_look 4 = .ok (.bipush 32, 2) := by decide +kernel
theorem dX7_look_6 : decode cX7_look 6 = .ok (.if_icmp .ne 16, 3) := by decide +kernel
theorem dX7_look_9 : decode cX7_look 9 = .ok (.aload_n 0, 1) := by decide +kernel
theorem dX7_look_10 : decode cX7_look 10 = .ok (.dup, 1) := by decide +kernel
theorem dX7_look_11 : decode cX7_look 11 = .ok (.getfield 83, 3) := by decide +kernel
theorem dX7_look_14 : decode cX7_look 14 = .ok (.iconst 1, 1) := by decide +kernel
theorem dX7_look_15 : decode cX7_look 15 = .ok (.iadd, 1) := by decide +kernel
theorem dX7_look_16 : decode cX7_look 16 = .ok (.putfield 83, 3) := by decide +kernel
theorem dX7_look_19 : decode cX7_look 19 = .ok (.goto (-19), 3) := by decide +kernel
theorem dX7_look_22 : decode cX7_look 22 = .ok (.aload_n 0, 1) := by decide +kernel
theorem dX7_look_23 : decode cX7_look 23 = .ok (.invokevirtual 86, 3) := by decide +kernel
theorem dX7_look_26 : decode cX7_look 26 = .ok (.ireturn, 1) := by decide +kernel
theorem dX7_fails_0 : decode cX7_fails 0 = .ok (.aload_n 0, 1) := by decide +kernel
theorem dX7_fails_1 : decode cX7_fails 1 = .ok (.getfield 90, 3) := by decide +kernel
theorem dX7_fails_4 : decode cX7_fails 4 = .ok (.iconst (-1), 1) := by decide +kernel
theorem dX7_fails_5 : decode cX7_fails 5 = .ok (.if_icmp .ne 8, 3) := by decide +kernel
theorem dX7_fails_8 : decode cX7_fails 8 = .ok (.aload_n 0, 1) := by decide +kernel
theorem dX7_fails_9 : decode cX7_fails 9 = .ok (.iload_n 1, 1) := by decide +kernel
theorem dX7_fails_10 : decode cX7_fails 10 = .ok (.putfield 90, 3) := by decide +kernel
theorem dX7_fails_13 : decode cX7_fails 13 = .ok (.iconst 0, 1) := by decide +kernel
theorem dX7_fails_14 : decode cX7_fails 14 = .ok (.ireturn, 1) := by decide +kernel
theorem dX7_isDigit_0 : decode cX7_isDigit 0 = .ok (.aload_n 0, 1) := by decide +kernel
theorem dX7_isDigit_1 : decode cX7_isDigit 1 = .ok (.invokevirtual 86, 3) := by decide +kernel
theorem dX7_isDigit_4 : decode cX7_isDigit 4 = .ok (.bipush 48, 2) := by decide +kernel
theorem dX7_isDigit_6 : decode cX7_isDigit 6 = .ok (.if_icmp .lt 16, 3) := by decide +kernel
theorem dX7_isDigit_9 : decode cX7_isDigit 9 = .ok (.aload_n 0, 1) := by decide +kernel
theorem dX7_isDigit_10 : decode cX7_isDigit 10 = .ok (.invokevirtual 86, 3) := by decide +kernel
theorem dX7_isDigit_13 : decode cX7_isDigit 13 = .ok (.bipush 57, 2) := by decide +kernel
theorem dX7_isDigit_15 : decode cX7_isDigit 15 = .ok (.if_icmp .gt 7, 3) := by decide +kernel
theorem dX7_isDigit_18 : decode cX7_isDigit 18 = .ok (.iconst 1, 1) := by decide +kernel
theorem dX7_isDigit_19 : decode cX7_isDigit 19 = .ok (.goto 4, 3) := by decide +kernel
theorem dX7_isDigit_22 : decode cX7_isDigit 22 = .ok (.iconst 0, 1) := by decide +kernel
theorem dX7_isDigit_23 : decode cX7_isDigit 23 = .ok (.ireturn, 1) := by decide +kernel
theorem dX7_number_0 : decode cX7_number 0 = .ok (.aload_n 0, 1) := by decide +kernel
theorem dX7_number_1 : decode cX7_number 1 = .ok (.invokevirtual 86, 3) := by decide +kernel
theorem dX7_number_4 : decode cX7_number 4 = .ok (.bipush 32, 2) := by decide +kernel
theorem dX7_number_6 : decode cX7_number 6 = .ok (.if_icmp .eq 12, 3) := by decide +kernel
theorem dX7_number_9 : decode cX7_number 9 = .ok (.aload_n 0, 1) := by decide +kernel
theorem dX7_number_10 : decode cX7_number 10 = .ok (.aload_n 0, 1) := by decide +kernel
theorem dX7_number_11 : decode cX7_number 11 = .ok (.getfield 83, 3) := by decide +kernel
theorem dX7_number_14 : decode cX7_number 14 = .ok (.invokevirtual 93, 3) := by decide +kernel
theorem dX7_number_17 : decode cX7_number 17 = .ok (.ireturn, 1) := by decide +kernel
theorem dX7_number_18 : decode cX7_number 18 = .ok (.aload_n 0, 1) := by decide +kernel
theorem dX7_number_19 : decode cX7_number 19 = .ok (.invokevirtual 97, 3) := by decide +kernel
theorem dX7_number_22 : decode cX7_number 22 = .ok (.pop, 1) := by decide +kernel
theorem dX7_number_23 : decode cX7_number 23 = .ok (.aload_n 0, 1) := by decide +kernel
theorem dX7_number_24 : decode cX7_number 24 = .ok (.invokevirtual 100, 3) := by decide +kernel
theorem dX7_number_27 : decode cX7_number 27 = .ok (.ifCond .ne 12, 3) := by decide +kernel
theorem dX7_number_30 : decode cX7_number 30 = .ok (.aload_n 0, 1) := by decide +kernel
theorem dX7_number_31 : decode cX7_number 31 = .ok (.aload_n 0, 1) := by decide +kernel
theorem dX7_number_32 : decode cX7_number 32 = .ok (.getfield 83, 3) := by decide +kernel
theorem dX7_number_35 : decode cX7_number 35 = .ok (.invokevirtual 93, 3) := by decide +kernel
theorem dX7_number_38 : decode cX7_number 38 = .ok (.ireturn, 1) := by decide +kernel
theorem dX7_number_39 : decode cX7_number 39 = .ok (.aload_n 0, 1) := by decide +kernel
theorem dX7_number_40 : decode cX7_number 40 = .ok (.aload_n 0, 1) := by decide +kernel
theorem dX7_number_41 : decode cX7_number 41 = .ok (.invokevirtual 86, 3) := by decide +kernel
theorem dX7_number_44 : decode cX7_number 44 = .ok (.bipush 48, 2) := by decide +kernel
theorem dX7_number_46 : decode cX7_number 46 = .ok (.isub, 1) := by decide +kernel
theorem dX7_number_47 : decode cX7_number 47 = .ok (.putfield 104, 3) := by decide +kernel
theorem dX7_number_50 : decode cX7_number 50 = .ok (.aload_n 0, 1) := by decide +kernel
theorem dX7_number_51 : decode cX7_number 51 = .ok (.dup, 1) := by decide +kernel
theorem dX7_number_52 : decode cX7_number 52 = .ok (.getfield 83, 3) := by decide +kernel
theorem dX7_number_55 : decode cX7_number 55 = .ok (.iconst 1, 1) := by decide +kernel
theorem dX7_number_56 : decode cX7_number 56 = .ok (.iadd, 1) := by decide +kernel
theorem dX7_number_57 : decode cX7_number 57 = .ok (.putfield 83, 3) := by decide +kernel
theorem dX7_number_60 : decode cX7_number 60 = .ok (.aload_n 0, 1) := by decide +kernel
theorem dX7_number_61 : decode cX7_number 61 = .ok (.invokevirtual 100, 3) := by decide +kernel
theorem dX7_number_64 : decode cX7_number 64 = .ok (.ifCond .eq 32, 3) := by decide +kernel
theorem dX7_number_67 : decode cX7_number 67 = .ok (.aload_n 0, 1) := by decide +kernel
theorem dX7_number_68 : decode cX7_number 68 = .ok (.bipush 10, 2) := by decide +kernel
theorem dX7_number_70 : decode cX7_number 70 = .ok (.aload_n 0, 1) := by decide +kernel
theorem dX7_number_71 : decode cX7_number 71 = .ok (.getfield 104, 3) := by decide +kernel
theorem dX7_number_74 : decode cX7_number 74 = .ok (.imul, 1) := by decide +kernel
theorem dX7_number_75 : decode cX7_number 75 = .ok (.aload_n 0, 1) := by decide +kernel
theorem dX7_number_76 : decode cX7_number 76 = .ok (.invokevirtual 86, 3) := by decide +kernel
theorem dX7_number_79 : decode cX7_number 79 = .ok (.iadd, 1) := by decide +kernel
theorem dX7_number_80 : decode cX7_number 80 = .ok (.bipush 48, 2) := by decide +kernel
theorem dX7_number_82 : decode cX7_number 82 = .ok (.isub, 1) := by decide +kernel
theorem dX7_number_83 : decode cX7_number 83 = .ok (.putfield 104, 3) := by decide +kernel
theorem dX7_number_86 : decode cX7_number 86 = .ok (.aload_n 0, 1) := by decide +kernel
theorem dX7_number_87 : decode cX7_number 87 = .ok (.dup, 1) := by decide +kernel
theorem dX7_number_88 : decode cX7_number 88 = .ok (.getfield 83, 3) := by decide +kernel
theorem dX7_number_91 : decode cX7_number 91 = .ok (.iconst 1, 1) := by decide +kernel
theorem dX7_number_92 : decode cX7_number 92 = .ok (.iadd, 1) := by decide +kernel
theorem dX7_number_93 : decode cX7_number 93 = .ok (.putfield 83, 3) := by decide +kernel
theorem dX7_number_96 : decode cX7_number 96 = .ok (.aload_n 0, 1) := by decide +kernel
theorem dX7_number_97 : decode cX7_number 97 = .ok (.getfield 104, 3) := by decide +kernel
theorem dX7_number_100 : decode cX7_number 100 = .ok (.iload_n 1, 1) := by decide +kernel
theorem dX7_number_101 : decode cX7_number 101 = .ok (.iload_n 2, 1) := by decide +kernel
theorem dX7_number_102 : decode cX7_number 102 = .ok (.invokestatic 107, 3) := by decide +kernel
theorem dX7_number_105 : decode cX7_number 105 = .ok (.ifCond .ne 14, 3) := by decide +kernel
theorem dX7_number_108 : decode cX7_number 108 = .ok (.aload_n 0, 1) := by decide +kernel
theorem dX7_number_109 : decode cX7_number 109 = .ok (.aload_n 0, 1) := by decide +kernel
theorem dX7_number_110 : decode cX7_number 110 = .ok (.getfield 83, 3) := by decide +kernel
theorem dX7_number_113 : decode cX7_number 113 = .ok (.iconst 1, 1) := by decide +kernel
theorem dX7_number_114 : decode cX7_number 114 = .ok (.isub, 1) := by decide +kernel
theorem dX7_number_115 : decode cX7_number 115 = .ok (.invokevirtual 93, 3) := by decide +kernel
theorem dX7_number_118 : decode cX7_number 118 = .ok (.ireturn, 1) := by decide +kernel
theorem dX7_number_119 : decode cX7_number 119 = .ok (.aload_n 0, 1) := by decide +kernel
theorem dX7_number_120 : decode cX7_number 120 = .ok (.invokevirtual 100, 3) := by decide +kernel
theorem dX7_number_123 : decode cX7_number 123 = .ok (.ifCond .eq 14, 3) := by decide +kernel
theorem dX7_number_126 : decode cX7_number 126 = .ok (.aload_n 0, 1) := by decide +kernel
theorem dX7_number_127 : decode cX7_number 127 = .ok (.aload_n 0, 1) := by decide +kernel
theorem dX7_number_128 : decode cX7_number 128 = .ok (.getfield 83, 3) := by decide +kernel
theorem dX7_number_131 : decode cX7_number 131 = .ok (.invokevirtual 93, 3) := by decide +kernel
theorem dX7_number_134 : decode cX7_number 134 = .ok (.ifCond .eq 7, 3) := by decide +kernel
theorem dX7_number_137 : decode cX7_number 137 = .ok (.iconst 1, 1) := by decide +kernel
theorem dX7_number_138 : decode cX7_number 138 = .ok (.goto 4, 3) := by decide +kernel
theorem dX7_number_141 : decode cX7_number 141 = .ok (.iconst 0, 1) := by decide +kernel
theorem dX7_number_142 : decode cX7_number 142 = .ok (.ireturn, 1) := by decide +kernel
theorem dX7_leastOf_0 : decode cX7_leastOf 0 = .ok (.iload_n 0, 1) := by decide +kernel
theorem dX7_leastOf_1 : decode cX7_leastOf 1 = .ok (.ifCond .eq 15, 3) := by decide +kernel
theorem dX7_leastOf_4 : decode cX7_leastOf 4 = .ok (.iload_n 0, 1) := by decide +kernel
theorem dX7_leastOf_5 : decode cX7_leastOf 5 = .ok (.bipush 6, 2) := by decide +kernel
theorem dX7_leastOf_7 : decode cX7_leastOf 7 = .ok (.if_icmp .eq 9, 3) := by decide +kernel
theorem dX7_leastOf_10 : decode cX7_leastOf 10 = .ok (.iload_n 0, 1) := by decide +kernel
theorem dX7_leastOf_11 : decode cX7_leastOf 11 = .ok (.bipush 7, 2) := by decide +kernel
theorem dX7_leastOf_13 : decode cX7_leastOf 13 = .ok (.if_icmp .ne 7, 3) := by decide +kernel
theorem dX7_leastOf_16 : decode cX7_leastOf 16 = .ok (.iconst 1, 1) := by decide +kernel
theorem dX7_leastOf_17 : decode cX7_leastOf 17 = .ok (.goto 4, 3) := by decide +kernel
theorem dX7_leastOf_20 : decode cX7_leastOf 20 = .ok (.iconst 0, 1) := by decide +kernel
theorem dX7_leastOf_21 : decode cX7_leastOf 21 = .ok (.ireturn, 1) := by decide +kernel
theorem dX7_mostOf_0 : decode cX7_mostOf 0 = .ok (.iload_n 0, 1) := by decide +kernel
theorem dX7_mostOf_1 : decode cX7_mostOf 1 = .ok (.iconst 2, 1) := by decide +kernel
theorem dX7_mostOf_2 : decode cX7_mostOf 2 = .ok (.if_icmp .eq 8, 3) := by decide +kernel
theorem dX7_mostOf_5 : decode cX7_mostOf 5 = .ok (.iload_n 0, 1) := by decide +kernel
theorem dX7_mostOf_6 : decode cX7_mostOf 6 = .ok (.iconst 3, 1) := by decide +kernel
theorem dX7_mostOf_7 : decode cX7_mostOf 7 = .ok (.if_icmp .ne 7, 3) := by decide +kernel
theorem dX7_mostOf_10 : decode cX7_mostOf 10 = .ok (.iconst 1, 1) := by decide +kernel
theorem dX7_mostOf_11 : decode cX7_mostOf 11 = .ok (.goto 16, 3) := by decide +kernel
theorem dX7_mostOf_14 : decode cX7_mostOf 14 = .ok (.iload_n 0, 1) := by decide +kernel
theorem dX7_mostOf_15 : decode cX7_mostOf 15 = .ok (.bipush 7, 2) := by decide +kernel
theorem dX7_mostOf_17 : decode cX7_mostOf 17 = .ok (.if_icmp .ne 8, 3) := by decide +kernel
theorem dX7_mostOf_20 : decode cX7_mostOf 20 = .ok (.bipush 9, 2) := by decide +kernel
theorem dX7_mostOf_22 : decode cX7_mostOf 22 = .ok (.goto 5, 3) := by decide +kernel
theorem dX7_mostOf_25 : decode cX7_mostOf 25 = .ok (.bipush 99, 2) := by decide +kernel
theorem dX7_mostOf_27 : decode cX7_mostOf 27 = .ok (.ireturn, 1) := by decide +kernel
theorem dX7_firstOf_0 : decode cX7_firstOf 0 = .ok (.iload_n 0, 1) := by decide +kernel
theorem dX7_firstOf_1 : decode cX7_firstOf 1 = .ok (.iconst 1, 1) := by decide +kernel
theorem dX7_firstOf_2 : decode cX7_firstOf 2 = .ok (.if_icmp .ne 7, 3) := by decide +kernel
theorem dX7_firstOf_5 : decode cX7_firstOf 5 = .ok (.iconst (-1), 1) := by decide +kernel
theorem dX7_firstOf_6 : decode cX7_firstOf 6 = .ok (.goto 26, 3) := by decide +kernel
theorem dX7_firstOf_9 : decode cX7_firstOf 9 = .ok (.iload_n 0, 1) := by decide +kernel
theorem dX7_firstOf_10 : decode cX7_firstOf 10 = .ok (.bipush 6, 2) := by decide +kernel
theorem dX7_firstOf_12 : decode cX7_firstOf 12 = .ok (.if_icmp .ne 8, 3) := by decide +kernel
theorem dX7_firstOf_15 : decode cX7_firstOf 15 = .ok (.bipush 99, 2) := by decide +kernel
theorem dX7_firstOf_17 : decode cX7_firstOf 17 = .ok (.goto 15, 3) := by decide +kernel
theorem dX7_firstOf_20 : decode cX7_firstOf 20 = .ok (.iload_n 0, 1) := by decide +kernel
theorem dX7_firstOf_21 : decode cX7_firstOf 21 = .ok (.bipush 7, 2) := by decide +kernel
theorem dX7_firstOf_23 : decode cX7_firstOf 23 = .ok (.if_icmp .ne 8, 3) := by decide +kernel
theorem dX7_firstOf_26 : decode cX7_firstOf 26 = .ok (.bipush 9, 2) := by decide +kernel
theorem dX7_firstOf_28 : decode cX7_firstOf 28 = .ok (.goto 4, 3) := by decide +kernel
theorem dX7_firstOf_31 : decode cX7_firstOf 31 = .ok (.iconst 0, 1) := by decide +kernel
theorem dX7_firstOf_32 : decode cX7_firstOf 32 = .ok (.ireturn, 1) := by decide +kernel
theorem dX7_readWord_0 : decode cX7_readWord 0 = .ok (.aload_n 0, 1) := by decide +kernel
theorem dX7_readWord_1 : decode cX7_readWord 1 = .ok (.dup, 1) := by decide +kernel
theorem dX7_readWord_2 : decode cX7_readWord 2 = .ok (.getfield 83, 3) := by decide +kernel
theorem dX7_readWord_5 : decode cX7_readWord 5 = .ok (.iconst 1, 1) := by decide +kernel
theorem dX7_readWord_6 : decode cX7_readWord 6 = .ok (.iadd, 1) := by decide +kernel
theorem dX7_readWord_7 : decode cX7_readWord 7 = .ok (.putfield 83, 3) := by decide +kernel
theorem dX7_readWord_10 : decode cX7_readWord 10 = .ok (.aload_n 0, 1) := by decide +kernel
theorem dX7_readWord_11 : decode cX7_readWord 11 = .ok (.iload_n 1, 1) := by decide +kernel
theorem dX7_readWord_12 : decode cX7_readWord 12 = .ok (.invokestatic 111, 3) := by decide +kernel
theorem dX7_readWord_15 : decode cX7_readWord 15 = .ok (.iload_n 1, 1) := by decide +kernel
theorem dX7_readWord_16 : decode cX7_readWord 16 = .ok (.invokestatic 114, 3) := by decide +kernel
theorem dX7_readWord_19 : decode cX7_readWord 19 = .ok (.invokevirtual 117, 3) := by decide +kernel
theorem dX7_readWord_22 : decode cX7_readWord 22 = .ok (.ifCond .ne 5, 3) := by decide +kernel
theorem dX7_readWord_25 : decode cX7_readWord 25 = .ok (.iconst 0, 1) := by decide +kernel
theorem dX7_readWord_26 : decode cX7_readWord 26 = .ok (.ireturn, 1) := by decide +kernel
theorem dX7_readWord_27 : decode cX7_readWord 27 = .ok (.aload_n 0, 1) := by decide +kernel
theorem dX7_readWord_28 : decode cX7_readWord 28 = .ok (.getfield 13, 3) := by decide +kernel
theorem dX7_readWord_31 : decode cX7_readWord 31 = .ok (.bipush 10, 2) := by decide +kernel
theorem dX7_readWord_33 : decode cX7_readWord 33 = .ok (.aload_n 0, 1) := by decide +kernel
theorem dX7_readWord_34 : decode cX7_readWord 34 = .ok (.getfield 120, 3) := by decide +kernel
theorem dX7_readWord_37 : decode cX7_readWord 37 = .ok (.imul, 1) := by decide +kernel
theorem dX7_readWord_38 : decode cX7_readWord 38 = .ok (.iload_n 1, 1) := by decide +kernel
theorem dX7_readWord_39 : decode cX7_readWord 39 = .ok (.iadd, 1) := by decide +kernel
theorem dX7_readWord_40 : decode cX7_readWord 40 = .ok (.aload_n 0, 1) := by decide +kernel
theorem dX7_readWord_41 : decode cX7_readWord 41 = .ok (.getfield 104, 3) := by decide +kernel
theorem dX7_readWord_44 : decode cX7_readWord 44 = .ok (.iastore, 1) := by decide +kernel
theorem dX7_readWord_45 : decode cX7_readWord 45 = .ok (.iconst 1, 1) := by decide +kernel
theorem dX7_readWord_46 : decode cX7_readWord 46 = .ok (.ireturn, 1) := by decide +kernel
theorem dX7_readCover_0 : decode cX7_readCover 0 = .ok (.aload_n 0, 1) := by decide +kernel
theorem dX7_readCover_1 : decode cX7_readCover 1 = .ok (.iconst 0, 1) := by decide +kernel
theorem dX7_readCover_2 : decode cX7_readCover 2 = .ok (.putfield 83, 3) := by decide +kernel
theorem dX7_readCover_5 : decode cX7_readCover 5 = .ok (.aload_n 0, 1) := by decide +kernel
theorem dX7_readCover_6 : decode cX7_readCover 6 = .ok (.iconst (-1), 1) := by decide +kernel
theorem dX7_readCover_7 : decode cX7_readCover 7 = .ok (.putfield 90, 3) := by decide +kernel
theorem dX7_readCover_10 : decode cX7_readCover 10 = .ok (.iconst 0, 1) := by decide +kernel
theorem dX7_readCover_11 : decode cX7_readCover 11 = .ok (.istore_n 1, 1) := by decide +kernel
theorem dX7_readCover_12 : decode cX7_readCover 12 = .ok (.iload_n 1, 1) := by decide +kernel
theorem dX7_readCover_13 : decode cX7_readCover 13 = .ok (.bipush 10, 2) := by decide +kernel
theorem dX7_readCover_15 : decode cX7_readCover 15 = .ok (.if_icmp .ge 27, 3) := by decide +kernel
theorem dX7_readCover_18 : decode cX7_readCover 18 = .ok (.aload_n 0, 1) := by decide +kernel
theorem dX7_readCover_19 : decode cX7_readCover 19 = .ok (.getfield 13, 3) := by decide +kernel
theorem dX7_readCover_22 : decode cX7_readCover 22 = .ok (.bipush 10, 2) := by decide +kernel
theorem dX7_readCover_24 : decode cX7_readCover 24 = .ok (.aload_n 0, 1) := by decide +kernel
theorem dX7_readCover_25 : decode cX7_readCover 25 = .ok (.getfield 120, 3) := by decide +kernel
theorem dX7_readCover_28 : decode cX7_readCover 28 = .ok (.imul, 1) := by decide +kernel
theorem dX7_readCover_29 : decode cX7_readCover 29 = .ok (.iload_n 1, 1) := by decide +kernel
theorem dX7_readCover_30 : decode cX7_readCover 30 = .ok (.iadd, 1) := by decide +kernel
theorem dX7_readCover_31 : decode cX7_readCover 31 = .ok (.iload_n 1, 1) := by decide +kernel
theorem dX7_readCover_32 : decode cX7_readCover 32 = .ok (.invokestatic 123, 3) := by decide +kernel
theorem dX7_readCover_35 : decode cX7_readCover 35 = .ok (.iastore, 1) := by decide +kernel
theorem dX7_readCover_36 : decode cX7_readCover 36 = .ok (.iinc 1 1, 3) := by decide +kernel
theorem dX7_readCover_39 : decode cX7_readCover 39 = .ok (.goto (-27), 3) := by decide +kernel
theorem dX7_readCover_42 : decode cX7_readCover 42 = .ok (.aload_n 0, 1) := by decide +kernel
theorem dX7_readCover_43 : decode cX7_readCover 43 = .ok (.invokevirtual 97, 3) := by decide +kernel
theorem dX7_readCover_46 : decode cX7_readCover 46 = .ok (.bipush 104, 2) := by decide +kernel
theorem dX7_readCover_48 : decode cX7_readCover 48 = .ok (.if_icmp .eq 12, 3) := by decide +kernel
theorem dX7_readCover_51 : decode cX7_readCover 51 = .ok (.aload_n 0, 1) := by decide +kernel
theorem dX7_readCover_52 : decode cX7_readCover 52 = .ok (.aload_n 0, 1) := by decide +kernel
theorem dX7_readCover_53 : decode cX7_readCover 53 = .ok (.getfield 83, 3) := by decide +kernel
theorem dX7_readCover_56 : decode cX7_readCover 56 = .ok (.invokevirtual 93, 3) := by decide +kernel
theorem dX7_readCover_59 : decode cX7_readCover 59 = .ok (.ireturn, 1) := by decide +kernel
theorem dX7_readCover_60 : decode cX7_readCover 60 = .ok (.aload_n 0, 1) := by decide +kernel
theorem dX7_readCover_61 : decode cX7_readCover 61 = .ok (.iconst 0, 1) := by decide +kernel
theorem dX7_readCover_62 : decode cX7_readCover 62 = .ok (.invokevirtual 126, 3) := by decide +kernel
theorem dX7_readCover_65 : decode cX7_readCover 65 = .ok (.ifCond .ne 5, 3) := by decide +kernel
theorem dX7_readCover_68 : decode cX7_readCover 68 = .ok (.iconst 0, 1) := by decide +kernel
theorem dX7_readCover_69 : decode cX7_readCover 69 = .ok (.ireturn, 1) := by decide +kernel
theorem dX7_readCover_70 : decode cX7_readCover 70 = .ok (.aload_n 0, 1) := by decide +kernel
theorem dX7_readCover_71 : decode cX7_readCover 71 = .ok (.invokevirtual 97, 3) := by decide +kernel
theorem dX7_readCover_74 : decode cX7_readCover 74 = .ok (.bipush 59, 2) := by decide +kernel
theorem dX7_readCover_76 : decode cX7_readCover 76 = .ok (.if_icmp .ne 62, 3) := by decide +kernel
theorem dX7_readCover_79 : decode cX7_readCover 79 = .ok (.aload_n 0, 1) := by decide +kernel
theorem dX7_readCover_80 : decode cX7_readCover 80 = .ok (.dup, 1) := by decide +kernel
theorem dX7_readCover_81 : decode cX7_readCover 81 = .ok (.getfield 83, 3) := by decide +kernel
theorem dX7_readCover_84 : decode cX7_readCover 84 = .ok (.iconst 1, 1) := by decide +kernel
theorem dX7_readCover_85 : decode cX7_readCover 85 = .ok (.iadd, 1) := by decide +kernel
theorem dX7_readCover_86 : decode cX7_readCover 86 = .ok (.putfield 83, 3) := by decide +kernel
theorem dX7_readCover_89 : decode cX7_readCover 89 = .ok (.aload_n 0, 1) := by decide +kernel
theorem dX7_readCover_90 : decode cX7_readCover 90 = .ok (.invokevirtual 97, 3) := by decide +kernel
theorem dX7_readCover_93 : decode cX7_readCover 93 = .ok (.iconst (-1), 1) := by decide +kernel
theorem dX7_readCover_94 : decode cX7_readCover 94 = .ok (.if_icmp .ne 7, 3) := by decide +kernel
theorem dX7_readCover_97 : decode cX7_readCover 97 = .ok (.iconst (-1), 1) := by decide +kernel
theorem dX7_readCover_98 : decode cX7_readCover 98 = .ok (.goto 12, 3) := by decide +kernel
theorem dX7_readCover_101 : decode cX7_readCover 101 = .ok (.ldc 129, 2) := by decide +kernel
theorem dX7_readCover_103 : decode cX7_readCover 103 = .ok (.aload_n 0, 1) := by decide +kernel
theorem dX7_readCover_104 : decode cX7_readCover 104 = .ok (.invokevirtual 97, 3) := by decide +kernel
theorem dX7_readCover_107 : decode cX7_readCover 107 = .ok (.invokevirtual 131, 3) := by decide +kernel
theorem dX7_readCover_110 : decode cX7_readCover 110 = .ok (.istore_n 1, 1) := by decide +kernel
theorem dX7_readCover_111 : decode cX7_readCover 111 = .ok (.iload_n 1, 1) := by decide +kernel
theorem dX7_readCover_112 : decode cX7_readCover 112 = .ok (.iconst 1, 1) := by decide +kernel
theorem dX7_readCover_113 : decode cX7_readCover 113 = .ok (.if_icmp .ge 12, 3) := by decide +kernel
theorem dX7_readCover_116 : decode cX7_readCover 116 = .ok (.aload_n 0, 1) := by decide +kernel
theorem dX7_readCover_117 : decode cX7_readCover 117 = .ok (.aload_n 0, 1) := by decide +kernel
theorem dX7_readCover_118 : decode cX7_readCover 118 = .ok (.getfield 83, 3) := by decide +kernel
theorem dX7_readCover_121 : decode cX7_readCover 121 = .ok (.invokevirtual 93, 3) := by decide +kernel
theorem dX7_readCover_124 : decode cX7_readCover 124 = .ok (.ireturn, 1) := by decide +kernel
theorem dX7_readCover_125 : decode cX7_readCover 125 = .ok (.aload_n 0, 1) := by decide +kernel
theorem dX7_readCover_126 : decode cX7_readCover 126 = .ok (.iload_n 1, 1) := by decide +kernel
theorem dX7_readCover_127 : decode cX7_readCover 127 = .ok (.invokevirtual 126, 3) := by decide +kernel
theorem dX7_readCover_130 : decode cX7_readCover 130 = .ok (.ifCond .ne 5, 3) := by decide +kernel
theorem dX7_readCover_133 : decode cX7_readCover 133 = .ok (.iconst 0, 1) := by decide +kernel
theorem dX7_readCover_134 : decode cX7_readCover 134 = .ok (.ireturn, 1) := by decide +kernel
theorem dX7_readCover_135 : decode cX7_readCover 135 = .ok (.goto (-65), 3) := by decide +kernel
theorem dX7_readCover_138 : decode cX7_readCover 138 = .ok (.aload_n 0, 1) := by decide +kernel
theorem dX7_readCover_139 : decode cX7_readCover 139 = .ok (.getfield 83, 3) := by decide +kernel
theorem dX7_readCover_142 : decode cX7_readCover 142 = .ok (.aload_n 0, 1) := by decide +kernel
theorem dX7_readCover_143 : decode cX7_readCover 143 = .ok (.getfield 72, 3) := by decide +kernel
theorem dX7_readCover_146 : decode cX7_readCover 146 = .ok (.if_icmp .eq 14, 3) := by decide +kernel
theorem dX7_readCover_149 : decode cX7_readCover 149 = .ok (.aload_n 0, 1) := by decide +kernel
theorem dX7_readCover_150 : decode cX7_readCover 150 = .ok (.aload_n 0, 1) := by decide +kernel
theorem dX7_readCover_151 : decode cX7_readCover 151 = .ok (.getfield 83, 3) := by decide +kernel
theorem dX7_readCover_154 : decode cX7_readCover 154 = .ok (.invokevirtual 93, 3) := by decide +kernel
theorem dX7_readCover_157 : decode cX7_readCover 157 = .ok (.ifCond .eq 7, 3) := by decide +kernel
theorem dX7_readCover_160 : decode cX7_readCover 160 = .ok (.iconst 1, 1) := by decide +kernel
theorem dX7_readCover_161 : decode cX7_readCover 161 = .ok (.goto 4, 3) := by decide +kernel
theorem dX7_readCover_164 : decode cX7_readCover 164 = .ok (.iconst 0, 1) := by decide +kernel
theorem dX7_readCover_165 : decode cX7_readCover 165 = .ok (.ireturn, 1) := by decide +kernel
theorem dX7_fault_0 : decode cX7_fault 0 = .ok (.aload_n 0, 1) := by decide +kernel
theorem dX7_fault_1 : decode cX7_fault 1 = .ok (.iconst 0, 1) := by decide +kernel
theorem dX7_fault_2 : decode cX7_fault 2 = .ok (.putfield 68, 3) := by decide +kernel
theorem dX7_fault_5 : decode cX7_fault 5 = .ok (.aload_n 0, 1) := by decide +kernel
theorem dX7_fault_6 : decode cX7_fault 6 = .ok (.invokevirtual 136, 3) := by decide +kernel
theorem dX7_fault_9 : decode cX7_fault 9 = .ok (.istore_n 1, 1) := by decide +kernel
theorem dX7_fault_10 : decode cX7_fault 10 = .ok (.aload_n 0, 1) := by decide +kernel
theorem dX7_fault_11 : decode cX7_fault 11 = .ok (.getfield 90, 3) := by decide +kernel
theorem dX7_fault_14 : decode cX7_fault 14 = .ok (.ireturn, 1) := by decide +kernel
theorem dX7_cover_0 : decode cX7_cover 0 = .ok (.aload_n 0, 1) := by decide +kernel
theorem dX7_cover_1 : decode cX7_cover 1 = .ok (.iconst 0, 1) := by decide +kernel
theorem dX7_cover_2 : decode cX7_cover 2 = .ok (.putfield 68, 3) := by decide +kernel
theorem dX7_cover_5 : decode cX7_cover 5 = .ok (.aload_n 0, 1) := by decide +kernel
theorem dX7_cover_6 : decode cX7_cover 6 = .ok (.getfield 120, 3) := by decide +kernel
theorem dX7_cover_9 : decode cX7_cover 9 = .ok (.bipush 6, 2) := by decide +kernel
theorem dX7_cover_11 : decode cX7_cover 11 = .ok (.if_icmp .eq 10, 3) := by decide +kernel
theorem dX7_cover_14 : decode cX7_cover 14 = .ok (.aload_n 0, 1) := by decide +kernel
theorem dX7_cover_15 : decode cX7_cover 15 = .ok (.invokevirtual 136, 3) := by decide +kernel
theorem dX7_cover_18 : decode cX7_cover 18 = .ok (.ifCond .ne 5, 3) := by decide +kernel
theorem dX7_cover_21 : decode cX7_cover 21 = .ok (.iconst (-1), 1) := by decide +kernel
theorem dX7_cover_22 : decode cX7_cover 22 = .ok (.ireturn, 1) := by decide +kernel
theorem dX7_cover_23 : decode cX7_cover 23 = .ok (.aload_n 0, 1) := by decide +kernel
theorem dX7_cover_24 : decode cX7_cover 24 = .ok (.iconst 0, 1) := by decide +kernel
theorem dX7_cover_25 : decode cX7_cover 25 = .ok (.putfield 72, 3) := by decide +kernel
theorem dX7_cover_28 : decode cX7_cover 28 = .ok (.aload_n 0, 1) := by decide +kernel
theorem dX7_cover_29 : decode cX7_cover 29 = .ok (.dup, 1) := by decide +kernel
theorem dX7_cover_30 : decode cX7_cover 30 = .ok (.getfield 120, 3) := by decide +kernel
theorem dX7_cover_33 : decode cX7_cover 33 = .ok (.iconst 1, 1) := by decide +kernel
theorem dX7_cover_34 : decode cX7_cover 34 = .ok (.iadd, 1) := by decide +kernel
theorem dX7_cover_35 : decode cX7_cover 35 = .ok (.putfield 120, 3) := by decide +kernel
theorem dX7_cover_38 : decode cX7_cover 38 = .ok (.aload_n 0, 1) := by decide +kernel
theorem dX7_cover_39 : decode cX7_cover 39 = .ok (.getfield 120, 3) := by decide +kernel
theorem dX7_cover_42 : decode cX7_cover 42 = .ok (.iconst 1, 1) := by decide +kernel
theorem dX7_cover_43 : decode cX7_cover 43 = .ok (.isub, 1) := by decide +kernel
theorem dX7_cover_44 : decode cX7_cover 44 = .ok (.ireturn, 1) := by decide +kernel
theorem dX7_isCover_0 : decode cX7_isCover 0 = .ok (.iload_n 1, 1) := by decide +kernel
theorem dX7_isCover_1 : decode cX7_isCover 1 = .ok (.ifCond .lt 15, 3) := by decide +kernel
theorem dX7_isCover_4 : decode cX7_isCover 4 = .ok (.iload_n 1, 1) := by decide +kernel
theorem dX7_isCover_5 : decode cX7_isCover 5 = .ok (.aload_n 0, 1) := by decide +kernel
theorem dX7_isCover_6 : decode cX7_isCover 6 = .ok (.getfield 120, 3) := by decide +kernel
theorem dX7_isCover_9 : decode cX7_isCover 9 = .ok (.if_icmp .ge 7, 3) := by decide +kernel
theorem dX7_isCover_12 : decode cX7_isCover 12 = .ok (.iconst 1, 1) := by decide +kernel
theorem dX7_isCover_13 : decode cX7_isCover 13 = .ok (.goto 4, 3) := by decide +kernel
theorem dX7_isCover_16 : decode cX7_isCover 16 = .ok (.iconst 0, 1) := by decide +kernel
theorem dX7_isCover_17 : decode cX7_isCover 17 = .ok (.ireturn, 1) := by decide +kernel
theorem dX7_wordOf_0 : decode cX7_wordOf 0 = .ok (.aload_n 0, 1) := by decide +kernel
theorem dX7_wordOf_1 : decode cX7_wordOf 1 = .ok (.getfield 13, 3) := by decide +kernel
theorem dX7_wordOf_4 : decode cX7_wordOf 4 = .ok (.bipush 10, 2) := by decide +kernel
theorem dX7_wordOf_6 : decode cX7_wordOf 6 = .ok (.iload_n 1, 1) := by decide +kernel
theorem dX7_wordOf_7 : decode cX7_wordOf 7 = .ok (.imul, 1) := by decide +kernel
theorem dX7_wordOf_8 : decode cX7_wordOf 8 = .ok (.iload_n 2, 1) := by decide +kernel
theorem dX7_wordOf_9 : decode cX7_wordOf 9 = .ok (.iadd, 1) := by decide +kernel
theorem dX7_wordOf_10 : decode cX7_wordOf 10 = .ok (.iaload, 1) := by decide +kernel
theorem dX7_wordOf_11 : decode cX7_wordOf 11 = .ok (.ireturn, 1) := by decide +kernel
theorem dX7_word_0 : decode cX7_word 0 = .ok (.aload_n 0, 1) := by decide +kernel
theorem dX7_word_1 : decode cX7_word 1 = .ok (.aload_n 0, 1) := by decide +kernel
theorem dX7_word_2 : decode cX7_word 2 = .ok (.iload_n 1, 1) := by decide +kernel
theorem dX7_word_3 : decode cX7_word 3 = .ok (.invokevirtual 139, 3) := by decide +kernel
theorem dX7_word_6 : decode cX7_word 6 = .ok (.ifCond .eq 17, 3) := by decide +kernel
theorem dX7_word_9 : decode cX7_word 9 = .ok (.iload_n 2, 1) := by decide +kernel
theorem dX7_word_10 : decode cX7_word 10 = .ok (.iconst 0, 1) := by decide +kernel
theorem dX7_word_11 : decode cX7_word 11 = .ok (.bipush 9, 2) := by decide +kernel
theorem dX7_word_13 : decode cX7_word 13 = .ok (.invokestatic 107, 3) := by decide +kernel
theorem dX7_word_16 : decode cX7_word 16 = .ok (.ifCond .eq 7, 3) := by decide +kernel
theorem dX7_word_19 : decode cX7_word 19 = .ok (.iconst 0, 1) := by decide +kernel
theorem dX7_word_20 : decode cX7_word 20 = .ok (.goto 4, 3) := by decide +kernel
theorem dX7_word_23 : decode cX7_word 23 = .ok (.iconst 1, 1) := by decide +kernel
theorem dX7_word_24 : decode cX7_word 24 = .ok (.putfield 68, 3) := by decide +kernel
theorem dX7_word_27 : decode cX7_word 27 = .ok (.aload_n 0, 1) := by decide +kernel
theorem dX7_word_28 : decode cX7_word 28 = .ok (.getfield 68, 3) := by decide +kernel
theorem dX7_word_31 : decode cX7_word 31 = .ok (.ifCond .le 7, 3) := by decide +kernel
theorem dX7_word_34 : decode cX7_word 34 = .ok (.iconst 0, 1) := by decide +kernel
theorem dX7_word_35 : decode cX7_word 35 = .ok (.goto 9, 3) := by decide +kernel
theorem dX7_word_38 : decode cX7_word 38 = .ok (.aload_n 0, 1) := by decide +kernel
theorem dX7_word_39 : decode cX7_word 39 = .ok (.iload_n 1, 1) := by decide +kernel
theorem dX7_word_40 : decode cX7_word 40 = .ok (.iload_n 2, 1) := by decide +kernel
theorem dX7_word_41 : decode cX7_word 41 = .ok (.invokevirtual 142, 3) := by decide +kernel
theorem dX7_word_44 : decode cX7_word 44 = .ok (.ireturn, 1) := by decide +kernel
theorem dX7_isLoss_0 : decode cX7_isLoss 0 = .ok (.iload_n 1, 1) := by decide +kernel
theorem dX7_isLoss_1 : decode cX7_isLoss 1 = .ok (.ifCond .lt 15, 3) := by decide +kernel
theorem dX7_isLoss_4 : decode cX7_isLoss 4 = .ok (.iload_n 1, 1) := by decide +kernel
theorem dX7_isLoss_5 : decode cX7_isLoss 5 = .ok (.aload_n 0, 1) := by decide +kernel
theorem dX7_isLoss_6 : decode cX7_isLoss 6 = .ok (.getfield 146, 3) := by decide +kernel
theorem dX7_isLoss_9 : decode cX7_isLoss 9 = .ok (.if_icmp .ge 7, 3) := by decide +kernel
theorem dX7_isLoss_12 : decode cX7_isLoss 12 = .ok (.iconst 1, 1) := by decide +kernel
theorem dX7_isLoss_13 : decode cX7_isLoss 13 = .ok (.goto 4, 3) := by decide +kernel
theorem dX7_isLoss_16 : decode cX7_isLoss 16 = .ok (.iconst 0, 1) := by decide +kernel
theorem dX7_isLoss_17 : decode cX7_isLoss 17 = .ok (.ireturn, 1) := by decide +kernel
theorem dX7_isSet_0 : decode cX7_isSet 0 = .ok (.iload_n 1, 1) := by decide +kernel
theorem dX7_isSet_1 : decode cX7_isSet 1 = .ok (.ifCond .lt 17, 3) := by decide +kernel
theorem dX7_isSet_4 : decode cX7_isSet 4 = .ok (.iload_n 1, 1) := by decide +kernel
theorem dX7_isSet_5 : decode cX7_isSet 5 = .ok (.iconst 1, 1) := by decide +kernel
theorem dX7_isSet_6 : decode cX7_isSet 6 = .ok (.aload_n 0, 1) := by decide +kernel
theorem dX7_isSet_7 : decode cX7_isSet 7 = .ok (.getfield 146, 3) := by decide +kernel
theorem dX7_isSet_10 : decode cX7_isSet 10 = .ok (.ishl, 1) := by decide +kernel
theorem dX7_isSet_11 : decode cX7_isSet 11 = .ok (.if_icmp .ge 7, 3) := by decide +kernel
theorem dX7_isSet_14 : decode cX7_isSet 14 = .ok (.iconst 1, 1) := by decide +kernel
theorem dX7_isSet_15 : decode cX7_isSet 15 = .ok (.goto 4, 3) := by decide +kernel
theorem dX7_isSet_18 : decode cX7_isSet 18 = .ok (.iconst 0, 1) := by decide +kernel
theorem dX7_isSet_19 : decode cX7_isSet 19 = .ok (.ireturn, 1) := by decide +kernel
theorem dX7_every_0 : decode cX7_every 0 = .ok (.iconst 1, 1) := by decide +kernel
theorem dX7_every_1 : decode cX7_every 1 = .ok (.aload_n 0, 1) := by decide +kernel
theorem dX7_every_2 : decode cX7_every 2 = .ok (.getfield 146, 3) := by decide +kernel
theorem dX7_every_5 : decode cX7_every 5 = .ok (.ishl, 1) := by decide +kernel
theorem dX7_every_6 : decode cX7_every 6 = .ok (.iconst 1, 1) := by decide +kernel
theorem dX7_every_7 : decode cX7_every 7 = .ok (.isub, 1) := by decide +kernel
theorem dX7_every_8 : decode cX7_every 8 = .ok (.ireturn, 1) := by decide +kernel
theorem dX7_has_0 : decode cX7_has 0 = .ok (.iload_n 0, 1) := by decide +kernel
theorem dX7_has_1 : decode cX7_has 1 = .ok (.iload_n 1, 1) := by decide +kernel
theorem dX7_has_2 : decode cX7_has 2 = .ok (.ishr, 1) := by decide +kernel
theorem dX7_has_3 : decode cX7_has 3 = .ok (.iconst 1, 1) := by decide +kernel
theorem dX7_has_4 : decode cX7_has 4 = .ok (.iand, 1) := by decide +kernel
theorem dX7_has_5 : decode cX7_has 5 = .ok (.iconst 1, 1) := by decide +kernel
theorem dX7_has_6 : decode cX7_has 6 = .ok (.if_icmp .ne 7, 3) := by decide +kernel
theorem dX7_has_9 : decode cX7_has 9 = .ok (.iconst 1, 1) := by decide +kernel
theorem dX7_has_10 : decode cX7_has 10 = .ok (.goto 4, 3) := by decide +kernel
theorem dX7_has_13 : decode cX7_has 13 = .ok (.iconst 0, 1) := by decide +kernel
theorem dX7_has_14 : decode cX7_has 14 = .ok (.ireturn, 1) := by decide +kernel
theorem dX7_loss_0 : decode cX7_loss 0 = .ok (.aload_n 0, 1) := by decide +kernel
theorem dX7_loss_1 : decode cX7_loss 1 = .ok (.iconst 0, 1) := by decide +kernel
theorem dX7_loss_2 : decode cX7_loss 2 = .ok (.putfield 68, 3) := by decide +kernel
theorem dX7_loss_5 : decode cX7_loss 5 = .ok (.aload_n 0, 1) := by decide +kernel
theorem dX7_loss_6 : decode cX7_loss 6 = .ok (.getfield 146, 3) := by decide +kernel
theorem dX7_loss_9 : decode cX7_loss 9 = .ok (.bipush 12, 2) := by decide +kernel
theorem dX7_loss_11 : decode cX7_loss 11 = .ok (.if_icmp .eq 76, 3) := by decide +kernel
theorem dX7_loss_14 : decode cX7_loss 14 = .ok (.iload_n 1, 1) := by decide +kernel
theorem dX7_loss_15 : decode cX7_loss 15 = .ok (.iconst 1, 1) := by decide +kernel
theorem dX7_loss_16 : decode cX7_loss 16 = .ok (.bipush 99, 2) := by decide +kernel
theorem dX7_loss_18 : decode cX7_loss 18 = .ok (.invokestatic 107, 3) := by decide +kernel
theorem dX7_loss_21 : decode cX7_loss 21 = .ok (.ifCond .eq 66, 3) := by decide +kernel
theorem dX7_loss_24 : decode cX7_loss 24 = .ok (.iload_n 2, 1) := by decide +kernel
theorem dX7_loss_25 : decode cX7_loss 25 = .ok (.iconst 0, 1) := by decide +kernel
theorem dX7_loss_26 : decode cX7_loss 26 = .ok (.sipush 999, 3) := by decide +kernel
theorem dX7_loss_29 : decode cX7_loss 29 = .ok (.invokestatic 107, 3) := by decide +kernel
theorem dX7_loss_32 : decode cX7_loss 32 = .ok (.ifCond .eq 55, 3) := by decide +kernel
theorem dX7_loss_35 : decode cX7_loss 35 = .ok (.iload_n 3, 1) := by decide +kernel
theorem dX7_loss_36 : decode cX7_loss 36 = .ok (.iconst 0, 1) := by decide +kernel
theorem dX7_loss_37 : decode cX7_loss 37 = .ok (.bipush 99, 2) := by decide +kernel
theorem dX7_loss_39 : decode cX7_loss 39 = .ok (.invokestatic 107, 3) := by decide +kernel
theorem dX7_loss_42 : decode cX7_loss 42 = .ok (.ifCond .eq 45, 3) := by decide +kernel
theorem dX7_loss_45 : decode cX7_loss 45 = .ok (.iload_n 2, 1) := by decide +kernel
theorem dX7_loss_46 : decode cX7_loss 46 = .ok (.iload_n 3, 1) := by decide +kernel
theorem dX7_loss_47 : decode cX7_loss 47 = .ok (.iadd, 1) := by decide +kernel
theorem dX7_loss_48 : decode cX7_loss 48 = .ok (.sipush 999, 3) := by decide +kernel
theorem dX7_loss_51 : decode cX7_loss 51 = .ok (.if_icmp .gt 36, 3) := by decide +kernel
theorem dX7_loss_54 : decode cX7_loss 54 = .ok (.iload 4, 2) := by decide +kernel
theorem dX7_loss_56 : decode cX7_loss 56 = .ok (.iconst 0, 1) := by decide +kernel
theorem dX7_loss_57 : decode cX7_loss 57 = .ok (.bipush 99, 2) := by decide +kernel
theorem dX7_loss_59 : decode cX7_loss 59 = .ok (.invokestatic 107, 3) := by decide +kernel
theorem dX7_loss_62 : decode cX7_loss 62 = .ok (.ifCond .eq 25, 3) := by decide +kernel
theorem dX7_loss_65 : decode cX7_loss 65 = .ok (.iload 5, 2) := by decide +kernel
theorem dX7_loss_67 : decode cX7_loss 67 = .ok (.iconst 0, 1) := by decide +kernel
theorem dX7_loss_68 : decode cX7_loss 68 = .ok (.bipush 99, 2) := by decide +kernel
theorem dX7_loss_70 : decode cX7_loss 70 = .ok (.invokestatic 107, 3) := by decide +kernel
theorem dX7_loss_73 : decode cX7_loss 73 = .ok (.ifCond .eq 14, 3) := by decide +kernel
theorem dX7_loss_76 : decode cX7_loss 76 = .ok (.iload 6, 2) := by decide +kernel
theorem dX7_loss_78 : decode cX7_loss 78 = .ok (.iconst 1, 1) := by decide +kernel
theorem dX7_loss_79 : decode cX7_loss 79 = .ok (.bipush 63, 2) := by decide +kernel
theorem dX7_loss_81 : decode cX7_loss 81 = .ok (.invokestatic 107, 3) := by decide +kernel
theorem dX7_loss_84 : decode cX7_loss 84 = .ok (.ifCond .ne 5, 3) := by decide +kernel
theorem dX7_loss_87 : decode cX7_loss 87 = .ok (.iconst (-1), 1) := by decide +kernel
theorem dX7_loss_88 : decode cX7_loss 88 = .ok (.ireturn, 1) := by decide +kernel
theorem dX7_loss_89 : decode cX7_loss 89 = .ok (.aload_n 0, 1) := by decide +kernel
theorem dX7_loss_90 : decode cX7_loss 90 = .ok (.getfield 17, 3) := by decide +kernel
theorem dX7_loss_93 : decode cX7_loss 93 = .ok (.aload_n 0, 1) := by decide +kernel
theorem dX7_loss_94 : decode cX7_loss 94 = .ok (.getfield 146, 3) := by decide +kernel
theorem dX7_loss_97 : decode cX7_loss 97 = .ok (.iload_n 1, 1) := by decide +kernel
theorem dX7_loss_98 : decode cX7_loss 98 = .ok (.iastore, 1) := by decide +kernel
theorem dX7_loss_99 : decode cX7_loss 99 = .ok (.aload_n 0, 1) := by decide +kernel
theorem dX7_loss_100 : decode cX7_loss 100 = .ok (.getfield 20, 3) := by decide +kernel
theorem dX7_loss_103 : decode cX7_loss 103 = .ok (.aload_n 0, 1) := by decide +kernel
theorem dX7_loss_104 : decode cX7_loss 104 = .ok (.getfield 146, 3) := by decide +kernel
theorem dX7_loss_107 : decode cX7_loss 107 = .ok (.iload_n 2, 1) := by decide +kernel
theorem dX7_loss_108 : decode cX7_loss 108 = .ok (.iastore, 1) := by decide +kernel
theorem dX7_loss_109 : decode cX7_loss 109 = .ok (.aload_n 0, 1) := by decide +kernel
theorem dX7_loss_110 : decode cX7_loss 110 = .ok (.getfield 23, 3) := by decide +kernel
theorem dX7_loss_113 : decode cX7_loss 113 = .ok (.aload_n 0, 1) := by decide +kernel
theorem dX7_loss_114 : decode cX7_loss 114 = .ok (.getfield 146, 3) := by decide +kernel
theorem dX7_loss_117 : decode cX7_loss 117 = .ok (.iload_n 2, 1) := by decide +kernel
theorem dX7_loss_118 : decode cX7_loss 118 = .ok (.iload_n 3, 1) := by decide +kernel
theorem dX7_loss_119 : decode cX7_loss 119 = .ok (.iadd, 1) := by decide +kernel
theorem dX7_loss_120 : decode cX7_loss 120 = .ok (.iastore, 1) := by decide +kernel
theorem dX7_loss_121 : decode cX7_loss 121 = .ok (.aload_n 0, 1) := by decide +kernel
theorem dX7_loss_122 : decode cX7_loss 122 = .ok (.getfield 26, 3) := by decide +kernel
theorem dX7_loss_125 : decode cX7_loss 125 = .ok (.aload_n 0, 1) := by decide +kernel
theorem dX7_loss_126 : decode cX7_loss 126 = .ok (.getfield 146, 3) := by decide +kernel
theorem dX7_loss_129 : decode cX7_loss 129 = .ok (.iload 4, 2) := by decide +kernel
theorem dX7_loss_131 : decode cX7_loss 131 = .ok (.iastore, 1) := by decide +kernel
theorem dX7_loss_132 : decode cX7_loss 132 = .ok (.aload_n 0, 1) := by decide +kernel
theorem dX7_loss_133 : decode cX7_loss 133 = .ok (.getfield 29, 3) := by decide +kernel
theorem dX7_loss_136 : decode cX7_loss 136 = .ok (.aload_n 0, 1) := by decide +kernel
theorem dX7_loss_137 : decode cX7_loss 137 = .ok (.getfield 146, 3) := by decide +kernel
theorem dX7_loss_140 : decode cX7_loss 140 = .ok (.iload 5, 2) := by decide +kernel
theorem dX7_loss_142 : decode cX7_loss 142 = .ok (.iastore, 1) := by decide +kernel
theorem dX7_loss_143 : decode cX7_loss 143 = .ok (.aload_n 0, 1) := by decide +kernel
theorem dX7_loss_144 : decode cX7_loss 144 = .ok (.getfield 32, 3) := by decide +kernel
theorem dX7_loss_147 : decode cX7_loss 147 = .ok (.aload_n 0, 1) := by decide +kernel
theorem dX7_loss_148 : decode cX7_loss 148 = .ok (.getfield 146, 3) := by decide +kernel
theorem dX7_loss_151 : decode cX7_loss 151 = .ok (.iload 6, 2) := by decide +kernel
theorem dX7_loss_153 : decode cX7_loss 153 = .ok (.iastore, 1) := by decide +kernel
theorem dX7_loss_154 : decode cX7_loss 154 = .ok (.aload_n 0, 1) := by decide +kernel
theorem dX7_loss_155 : decode cX7_loss 155 = .ok (.getfield 35, 3) := by decide +kernel
theorem dX7_loss_158 : decode cX7_loss 158 = .ok (.aload_n 0, 1) := by decide +kernel
theorem dX7_loss_159 : decode cX7_loss 159 = .ok (.getfield 146, 3) := by decide +kernel
theorem dX7_loss_162 : decode cX7_loss 162 = .ok (.iconst 0, 1) := by decide +kernel
theorem dX7_loss_163 : decode cX7_loss 163 = .ok (.iastore, 1) := by decide +kernel
theorem dX7_loss_164 : decode cX7_loss 164 = .ok (.aload_n 0, 1) := by decide +kernel
theorem dX7_loss_165 : decode cX7_loss 165 = .ok (.dup, 1) := by decide +kernel
theorem dX7_loss_166 : decode cX7_loss 166 = .ok (.getfield 146, 3) := by decide +kernel
theorem dX7_loss_169 : decode cX7_loss 169 = .ok (.iconst 1, 1) := by decide +kernel
theorem dX7_loss_170 : decode cX7_loss 170 = .ok (.iadd, 1) := by decide +kernel
theorem dX7_loss_171 : decode cX7_loss 171 = .ok (.putfield 146, 3) := by decide +kernel
theorem dX7_loss_174 : decode cX7_loss 174 = .ok (.aload_n 0, 1) := by decide +kernel
theorem dX7_loss_175 : decode cX7_loss 175 = .ok (.getfield 146, 3) := by decide +kernel
theorem dX7_loss_178 : decode cX7_loss 178 = .ok (.iconst 1, 1) := by decide +kernel
theorem dX7_loss_179 : decode cX7_loss 179 = .ok (.isub, 1) := by decide +kernel
theorem dX7_loss_180 : decode cX7_loss 180 = .ok (.ireturn, 1) := by decide +kernel
theorem dX7_mend_0 : decode cX7_mend 0 = .ok (.aload_n 0, 1) := by decide +kernel
theorem dX7_mend_1 : decode cX7_mend 1 = .ok (.iconst 0, 1) := by decide +kernel
theorem dX7_mend_2 : decode cX7_mend 2 = .ok (.putfield 68, 3) := by decide +kernel
theorem dX7_mend_5 : decode cX7_mend 5 = .ok (.aload_n 0, 1) := by decide +kernel
theorem dX7_mend_6 : decode cX7_mend 6 = .ok (.iload_n 1, 1) := by decide +kernel
theorem dX7_mend_7 : decode cX7_mend 7 = .ok (.invokevirtual 149, 3) := by decide +kernel
theorem dX7_mend_10 : decode cX7_mend 10 = .ok (.ifCond .eq 24, 3) := by decide +kernel
theorem dX7_mend_13 : decode cX7_mend 13 = .ok (.iload_n 2, 1) := by decide +kernel
theorem dX7_mend_14 : decode cX7_mend 14 = .ok (.iconst 0, 1) := by decide +kernel
theorem dX7_mend_15 : decode cX7_mend 15 = .ok (.sipush 999, 3) := by decide +kernel
theorem dX7_mend_18 : decode cX7_mend 18 = .ok (.invokestatic 107, 3) := by decide +kernel
theorem dX7_mend_21 : decode cX7_mend 21 = .ok (.ifCond .eq 13, 3) := by decide +kernel
theorem dX7_mend_24 : decode cX7_mend 24 = .ok (.iload_n 3, 1) := by decide +kernel
theorem dX7_mend_25 : decode cX7_mend 25 = .ok (.iconst 1, 1) := by decide +kernel
theorem dX7_mend_26 : decode cX7_mend 26 = .ok (.bipush 99, 2) := by decide +kernel
theorem dX7_mend_28 : decode cX7_mend 28 = .ok (.invokestatic 107, 3) := by decide +kernel
theorem dX7_mend_31 : decode cX7_mend 31 = .ok (.ifCond .ne 5, 3) := by decide +kernel
theorem dX7_mend_34 : decode cX7_mend 34 = .ok (.iconst 0, 1) := by decide +kernel
theorem dX7_mend_35 : decode cX7_mend 35 = .ok (.ireturn, 1) := by decide +kernel
theorem dX7_mend_36 : decode cX7_mend 36 = .ok (.aload_n 0, 1) := by decide +kernel
theorem dX7_mend_37 : decode cX7_mend 37 = .ok (.getfield 20, 3) := by decide +kernel
theorem dX7_mend_40 : decode cX7_mend 40 = .ok (.iload_n 1, 1) := by decide +kernel
theorem dX7_mend_41 : decode cX7_mend 41 = .ok (.iload_n 2, 1) := by decide +kernel
theorem dX7_mend_42 : decode cX7_mend 42 = .ok (.iastore, 1) := by decide +kernel
theorem dX7_mend_43 : decode cX7_mend 43 = .ok (.aload_n 0, 1) := by decide +kernel
theorem dX7_mend_44 : decode cX7_mend 44 = .ok (.getfield 23, 3) := by decide +kernel
theorem dX7_mend_47 : decode cX7_mend 47 = .ok (.iload_n 1, 1) := by decide +kernel
theorem dX7_mend_48 : decode cX7_mend 48 = .ok (.aload_n 0, 1) := by decide +kernel
theorem dX7_mend_49 : decode cX7_mend 49 = .ok (.getfield 23, 3) := by decide +kernel
theorem dX7_mend_52 : decode cX7_mend 52 = .ok (.iload_n 1, 1) := by decide +kernel
theorem dX7_mend_53 : decode cX7_mend 53 = .ok (.iaload, 1) := by decide +kernel
theorem dX7_mend_54 : decode cX7_mend 54 = .ok (.iload_n 2, 1) := by decide +kernel
theorem dX7_mend_55 : decode cX7_mend 55 = .ok (.invokestatic 152, 3) := by decide +kernel
theorem dX7_mend_58 : decode cX7_mend 58 = .ok (.iastore, 1) := by decide +kernel
theorem dX7_mend_59 : decode cX7_mend 59 = .ok (.aload_n 0, 1) := by decide +kernel
theorem dX7_mend_60 : decode cX7_mend 60 = .ok (.getfield 17, 3) := by decide +kernel
theorem dX7_mend_63 : decode cX7_mend 63 = .ok (.iload_n 1, 1) := by decide +kernel
theorem dX7_mend_64 : decode cX7_mend 64 = .ok (.iload_n 3, 1) := by decide +kernel
theorem dX7_mend_65 : decode cX7_mend 65 = .ok (.iastore, 1) := by decide +kernel
theorem dX7_mend_66 : decode cX7_mend 66 = .ok (.iconst 1, 1) := by decide +kernel
theorem dX7_mend_67 : decode cX7_mend 67 = .ok (.ireturn, 1) := by decide +kernel
theorem dX7_leastHour_0 : decode cX7_leastHour 0 = .ok (.sipush 1000, 3) := by decide +kernel
theorem dX7_leastHour_3 : decode cX7_leastHour 3 = .ok (.istore_n 2, 1) := by decide +kernel
theorem dX7_leastHour_4 : decode cX7_leastHour 4 = .ok (.iconst 0, 1) := by decide +kernel
theorem dX7_leastHour_5 : decode cX7_leastHour 5 = .ok (.istore_n 3, 1) := by decide +kernel
theorem dX7_leastHour_6 : decode cX7_leastHour 6 = .ok (.iload_n 3, 1) := by decide +kernel
theorem dX7_leastHour_7 : decode cX7_leastHour 7 = .ok (.aload_n 0, 1) := by decide +kernel
theorem dX7_leastHour_8 : decode cX7_leastHour 8 = .ok (.getfield 146, 3) := by decide +kernel
theorem dX7_leastHour_11 : decode cX7_leastHour 11 = .ok (.if_icmp .ge 28, 3) := by decide +kernel
theorem dX7_leastHour_14 : decode cX7_leastHour 14 = .ok (.iload_n 1, 1) := by decide +kernel
theorem dX7_leastHour_15 : decode cX7_leastHour 15 = .ok (.iload_n 3, 1) := by decide +kernel
theorem dX7_leastHour_16 : decode cX7_leastHour 16 = .ok (.invokestatic 157, 3) := by decide +kernel
theorem dX7_leastHour_19 : decode cX7_leastHour 19 = .ok (.ifCond .eq 14, 3) := by decide +kernel
theorem dX7_leastHour_22 : decode cX7_leastHour 22 = .ok (.iload_n 2, 1) := by decide +kernel
theorem dX7_leastHour_23 : decode cX7_leastHour 23 = .ok (.aload_n 0, 1) := by decide +kernel
theorem dX7_leastHour_24 : decode cX7_leastHour 24 = .ok (.getfield 20, 3) := by decide +kernel
theorem dX7_leastHour_27 : decode cX7_leastHour 27 = .ok (.iload_n 3, 1) := by decide +kernel
theorem dX7_leastHour_28 : decode cX7_leastHour 28 = .ok (.iaload, 1) := by decide +kernel
theorem dX7_leastHour_29 : decode cX7_leastHour 29 = .ok (.invokestatic 160, 3) := by decide +kernel
theorem dX7_leastHour_32 : decode cX7_leastHour 32 = .ok (.istore_n 2, 1) := by decide +kernel
theorem dX7_leastHour_33 : decode cX7_leastHour 33 = .ok (.iinc 3 1, 3) := by decide +kernel
theorem dX7_leastHour_36 : decode cX7_leastHour 36 = .ok (.goto (-30), 3) := by decide +kernel
theorem dX7_leastHour_39 : decode cX7_leastHour 39 = .ok (.iload_n 2, 1) := by decide +kernel
theorem dX7_leastHour_40 : decode cX7_leastHour 40 = .ok (.ireturn, 1) := by decide +kernel
theorem dX7_mostHour_0 : decode cX7_mostHour 0 = .ok (.iconst (-1), 1) := by decide +kernel
theorem dX7_mostHour_1 : decode cX7_mostHour 1 = .ok (.istore_n 2, 1) := by decide +kernel
theorem dX7_mostHour_2 : decode cX7_mostHour 2 = .ok (.iconst 0, 1) := by decide +kernel
theorem dX7_mostHour_3 : decode cX7_mostHour 3 = .ok (.istore_n 3, 1) := by decide +kernel
theorem dX7_mostHour_4 : decode cX7_mostHour 4 = .ok (.iload_n 3, 1) := by decide +kernel
theorem dX7_mostHour_5 : decode cX7_mostHour 5 = .ok (.aload_n 0, 1) := by decide +kernel
theorem dX7_mostHour_6 : decode cX7_mostHour 6 = .ok (.getfield 146, 3) := by decide +kernel
theorem dX7_mostHour_9 : decode cX7_mostHour 9 = .ok (.if_icmp .ge 28, 3) := by decide +kernel
theorem dX7_mostHour_12 : decode cX7_mostHour 12 = .ok (.iload_n 1, 1) := by decide +kernel
theorem dX7_mostHour_13 : decode cX7_mostHour 13 = .ok (.iload_n 3, 1) := by decide +kernel
theorem dX7_mostHour_14 : decode cX7_mostHour 14 = .ok (.invokestatic 157, 3) := by decide +kernel
theorem dX7_mostHour_17 : decode cX7_mostHour 17 = .ok (.ifCond .eq 14, 3) := by decide +kernel
theorem dX7_mostHour_20 : decode cX7_mostHour 20 = .ok (.iload_n 2, 1) := by decide +kernel
theorem dX7_mostHour_21 : decode cX7_mostHour 21 = .ok (.aload_n 0, 1) := by decide +kernel
theorem dX7_mostHour_22 : decode cX7_mostHour 22 = .ok (.getfield 20, 3) := by decide +kernel
theorem dX7_mostHour_25 : decode cX7_mostHour 25 = .ok (.iload_n 3, 1) := by decide +kernel
theorem dX7_mostHour_26 : decode cX7_mostHour 26 = .ok (.iaload, 1) := by decide +kernel
theorem dX7_mostHour_27 : decode cX7_mostHour 27 = .ok (.invokestatic 152, 3) := by decide +kernel
theorem dX7_mostHour_30 : decode cX7_mostHour 30 = .ok (.istore_n 2, 1) := by decide +kernel
theorem dX7_mostHour_31 : decode cX7_mostHour 31 = .ok (.iinc 3 1, 3) := by decide +kernel
theorem dX7_mostHour_34 : decode cX7_mostHour 34 = .ok (.goto (-30), 3) := by decide +kernel
theorem dX7_mostHour_37 : decode cX7_mostHour 37 = .ok (.iload_n 2, 1) := by decide +kernel
theorem dX7_mostHour_38 : decode cX7_mostHour 38 = .ok (.ireturn, 1) := by decide +kernel
theorem dX7_areNear_0 : decode cX7_areNear 0 = .ok (.aload_n 0, 1) := by decide +kernel
theorem dX7_areNear_1 : decode cX7_areNear 1 = .ok (.getfield 26, 3) := by decide +kernel
theorem dX7_areNear_4 : decode cX7_areNear 4 = .ok (.iload_n 1, 1) := by decide +kernel
theorem dX7_areNear_5 : decode cX7_areNear 5 = .ok (.iaload, 1) := by decide +kernel
theorem dX7_areNear_6 : decode cX7_areNear 6 = .ok (.aload_n 0, 1) := by decide +kernel
theorem dX7_areNear_7 : decode cX7_areNear 7 = .ok (.getfield 26, 3) := by decide +kernel
theorem dX7_areNear_10 : decode cX7_areNear 10 = .ok (.iload_n 2, 1) := by decide +kernel
theorem dX7_areNear_11 : decode cX7_areNear 11 = .ok (.iaload, 1) := by decide +kernel
theorem dX7_areNear_12 : decode cX7_areNear 12 = .ok (.isub, 1) := by decide +kernel
theorem dX7_areNear_13 : decode cX7_areNear 13 = .ok (.istore 4, 2) := by decide +kernel
theorem dX7_areNear_15 : decode cX7_areNear 15 = .ok (.aload_n 0, 1) := by decide +kernel
theorem dX7_areNear_16 : decode cX7_areNear 16 = .ok (.getfield 29, 3) := by decide +kernel
theorem dX7_areNear_19 : decode cX7_areNear 19 = .ok (.iload_n 1, 1) := by decide +kernel
theorem dX7_areNear_20 : decode cX7_areNear 20 = .ok (.iaload, 1) := by decide +kernel
theorem dX7_areNear_21 : decode cX7_areNear 21 = .ok (.aload_n 0, 1) := by decide +kernel
theorem dX7_areNear_22 : decode cX7_areNear 22 = .ok (.getfield 29, 3) := by decide +kernel
theorem dX7_areNear_25 : decode cX7_areNear 25 = .ok (.iload_n 2, 1) := by decide +kernel
theorem dX7_areNear_26 : decode cX7_areNear 26 = .ok (.iaload, 1) := by decide +kernel
theorem dX7_areNear_27 : decode cX7_areNear 27 = .ok (.isub, 1) := by decide +kernel
theorem dX7_areNear_28 : decode cX7_areNear 28 = .ok (.istore 5, 2) := by decide +kernel
theorem dX7_areNear_30 : decode cX7_areNear 30 = .ok (.iload 4, 2) := by decide +kernel
theorem dX7_areNear_32 : decode cX7_areNear 32 = .ok (.iload 4, 2) := by decide +kernel
theorem dX7_areNear_34 : decode cX7_areNear 34 = .ok (.imul, 1) := by decide +kernel
theorem dX7_areNear_35 : decode cX7_areNear 35 = .ok (.iload 5, 2) := by decide +kernel
theorem dX7_areNear_37 : decode cX7_areNear 37 = .ok (.iload 5, 2) := by decide +kernel
theorem dX7_areNear_39 : decode cX7_areNear 39 = .ok (.imul, 1) := by decide +kernel
theorem dX7_areNear_40 : decode cX7_areNear 40 = .ok (.iadd, 1) := by decide +kernel
theorem dX7_areNear_41 : decode cX7_areNear 41 = .ok (.iload_n 3, 1) := by decide +kernel
theorem dX7_areNear_42 : decode cX7_areNear 42 = .ok (.iload_n 3, 1) := by decide +kernel
theorem dX7_areNear_43 : decode cX7_areNear 43 = .ok (.imul, 1) := by decide +kernel
theorem dX7_areNear_44 : decode cX7_areNear 44 = .ok (.if_icmp .gt 7, 3) := by decide +kernel
theorem dX7_areNear_47 : decode cX7_areNear 47 = .ok (.iconst 1, 1) := by decide +kernel
theorem dX7_areNear_48 : decode cX7_areNear 48 = .ok (.goto 4, 3) := by decide +kernel
theorem dX7_areNear_51 : decode cX7_areNear 51 = .ok (.iconst 0, 1) := by decide +kernel
theorem dX7_areNear_52 : decode cX7_areNear 52 = .ok (.ireturn, 1) := by decide +kernel
theorem dX7_mayBeOne_0 : decode cX7_mayBeOne 0 = .ok (.aload_n 0, 1) := by decide +kernel
theorem dX7_mayBeOne_1 : decode cX7_mayBeOne 1 = .ok (.iload_n 2, 1) := by decide +kernel
theorem dX7_mayBeOne_2 : decode cX7_mayBeOne 2 = .ok (.invokevirtual 163, 3) := by decide +kernel
theorem dX7_mayBeOne_5 : decode cX7_mayBeOne 5 = .ok (.aload_n 0, 1) := by decide +kernel
theorem dX7_mayBeOne_6 : decode cX7_mayBeOne 6 = .ok (.iload_n 2, 1) := by decide +kernel
theorem dX7_mayBeOne_7 : decode cX7_mayBeOne 7 = .ok (.invokevirtual 166, 3) := by decide +kernel
theorem dX7_mayBeOne_10 : decode cX7_mayBeOne 10 = .ok (.isub, 1) := by decide +kernel
theorem dX7_mayBeOne_11 : decode cX7_mayBeOne 11 = .ok (.aload_n 0, 1) := by decide +kernel
theorem dX7_mayBeOne_12 : decode cX7_mayBeOne 12 = .ok (.iload_n 1, 1) := by decide +kernel
theorem dX7_mayBeOne_13 : decode cX7_mayBeOne 13 = .ok (.iconst 0, 1) := by decide +kernel
theorem dX7_mayBeOne_14 : decode cX7_mayBeOne 14 = .ok (.invokevirtual 142, 3) := by decide +kernel
theorem dX7_mayBeOne_17 : decode cX7_mayBeOne 17 = .ok (.if_icmp .lt 5, 3) := by decide +kernel
theorem dX7_mayBeOne_20 : decode cX7_mayBeOne 20 = .ok (.iconst 0, 1) := by decide +kernel
theorem dX7_mayBeOne_21 : decode cX7_mayBeOne 21 = .ok (.ireturn, 1) := by decide +kernel
theorem dX7_mayBeOne_22 : decode cX7_mayBeOne 22 = .ok (.bipush 63, 2) := by decide +kernel
theorem dX7_mayBeOne_24 : decode cX7_mayBeOne 24 = .ok (.istore_n 3, 1) := by decide +kernel
theorem dX7_mayBeOne_25 : decode cX7_mayBeOne 25 = .ok (.iconst 0, 1) := by decide +kernel
theorem dX7_mayBeOne_26 : decode cX7_mayBeOne 26 = .ok (.istore 4, 2) := by decide +kernel
theorem dX7_mayBeOne_28 : decode cX7_mayBeOne 28 = .ok (.iload 4, 2) := by decide +kernel
theorem dX7_mayBeOne_30 : decode cX7_mayBeOne 30 = .ok (.aload_n 0, 1) := by decide +kernel
theorem dX7_mayBeOne_31 : decode cX7_mayBeOne 31 = .ok (.getfield 146, 3) := by decide +kernel
theorem dX7_mayBeOne_34 : decode cX7_mayBeOne 34 = .ok (.if_icmp .ge 85, 3) := by decide +kernel
theorem dX7_mayBeOne_37 : decode cX7_mayBeOne 37 = .ok (.iload_n 2, 1) := by decide +kernel
theorem dX7_mayBeOne_38 : decode cX7_mayBeOne 38 = .ok (.iload 4, 2) := by decide +kernel
theorem dX7_mayBeOne_40 : decode cX7_mayBeOne 40 = .ok (.invokestatic 157, 3) := by decide +kernel
theorem dX7_mayBeOne_43 : decode cX7_mayBeOne 43 = .ok (.ifCond .ne 6, 3) := by decide +kernel
theorem dX7_mayBeOne_46 : decode cX7_mayBeOne 46 = .ok (.goto 67, 3) := by decide +kernel
theorem dX7_mayBeOne_49 : decode cX7_mayBeOne 49 = .ok (.iload_n 3, 1) := by decide +kernel
theorem dX7_mayBeOne_50 : decode cX7_mayBeOne 50 = .ok (.aload_n 0, 1) := by decide +kernel
theorem dX7_mayBeOne_51 : decode cX7_mayBeOne 51 = .ok (.getfield 32, 3) := by decide +kernel
theorem dX7_mayBeOne_54 : decode cX7_mayBeOne 54 = .ok (.iload 4, 2) := by decide +kernel
theorem dX7_mayBeOne_56 : decode cX7_mayBeOne 56 = .ok (.iaload, 1) := by decide +kernel
theorem dX7_mayBeOne_57 : decode cX7_mayBeOne 57 = .ok (.iand, 1) := by decide +kernel
theorem dX7_mayBeOne_58 : decode cX7_mayBeOne 58 = .ok (.istore_n 3, 1) := by decide +kernel
theorem dX7_mayBeOne_59 : decode cX7_mayBeOne 59 = .ok (.iconst 0, 1) := by decide +kernel
theorem dX7_mayBeOne_60 : decode cX7_mayBeOne 60 = .ok (.istore 5, 2) := by decide +kernel
theorem dX7_mayBeOne_62 : decode cX7_mayBeOne 62 = .ok (.iload 5, 2) := by decide +kernel
theorem dX7_mayBeOne_64 : decode cX7_mayBeOne 64 = .ok (.iload 4, 2) := by decide +kernel
theorem dX7_mayBeOne_66 : decode cX7_mayBeOne 66 = .ok (.if_icmp .ge 47, 3) := by decide +kernel
theorem dX7_mayBeOne_69 : decode cX7_mayBeOne 69 = .ok (.aload_n 0, 1) := by decide +kernel
theorem dX7_mayBeOne_70 : decode cX7_mayBeOne 70 = .ok (.iload_n 1, 1) := by decide +kernel
theorem dX7_mayBeOne_71 : decode cX7_mayBeOne 71 = .ok (.iconst 1, 1) := by decide +kernel
theorem dX7_mayBeOne_72 : decode cX7_mayBeOne 72 = .ok (.invokevirtual 142, 3) := by decide +kernel
theorem dX7_mayBeOne_75 : decode cX7_mayBeOne 75 = .ok (.iconst (-1), 1) := by decide +kernel
theorem dX7_mayBeOne_76 : decode cX7_mayBeOne 76 = .ok (.if_icmp .eq 37, 3) := by decide +kernel
theorem dX7_mayBeOne_79 : decode cX7_mayBeOne 79 = .ok (.iload_n 2, 1) := by decide +kernel
theorem dX7_mayBeOne_80 : decode cX7_mayBeOne 80 = .ok (.iload 5, 2) := by decide +kernel
theorem dX7_mayBeOne_82 : decode cX7_mayBeOne 82 = .ok (.invokestatic 157, 3) := by decide +kernel
theorem dX7_mayBeOne_85 : decode cX7_mayBeOne 85 = .ok (.ifCond .eq 22, 3) := by decide +kernel
theorem dX7_mayBeOne_88 : decode cX7_mayBeOne 88 = .ok (.aload_n 0, 1) := by decide +kernel
theorem dX7_mayBeOne_89 : decode cX7_mayBeOne 89 = .ok (.iload 4, 2) := by decide +kernel
theorem dX7_mayBeOne_91 : decode cX7_mayBeOne 91 = .ok (.iload 5, 2) := by decide +kernel
theorem dX7_mayBeOne_93 : decode cX7_mayBeOne 93 = .ok (.aload_n 0, 1) := by decide +kernel
theorem dX7_mayBeOne_94 : decode cX7_mayBeOne 94 = .ok (.iload_n 1, 1) := by decide +kernel
theorem dX7_mayBeOne_95 : decode cX7_mayBeOne 95 = .ok (.iconst 1, 1) := by decide +kernel
theorem dX7_mayBeOne_96 : decode cX7_mayBeOne 96 = .ok (.invokevirtual 142, 3) := by decide +kernel
theorem dX7_mayBeOne_99 : decode cX7_mayBeOne 99 = .ok (.invokevirtual 169, 3) := by decide +kernel
theorem dX7_mayBeOne_102 : decode cX7_mayBeOne 102 = .ok (.ifCond .ne 5, 3) := by decide +kernel
theorem dX7_mayBeOne_105 : decode cX7_mayBeOne 105 = .ok (.iconst 0, 1) := by decide +kernel
theorem dX7_mayBeOne_106 : decode cX7_mayBeOne 106 = .ok (.ireturn, 1) := by decide +kernel
theorem dX7_mayBeOne_107 : decode cX7_mayBeOne 107 = .ok (.iinc 5 1, 3) := by decide +kernel
theorem dX7_mayBeOne_110 : decode cX7_mayBeOne 110 = .ok (.goto (-48), 3) := by decide +kernel
theorem dX7_mayBeOne_113 : decode cX7_mayBeOne 113 = .ok (.iinc 4 1, 3) := by decide +kernel
theorem dX7_mayBeOne_116 : decode cX7_mayBeOne 116 = .ok (.goto (-88), 3) := by decide +kernel
theorem dX7_mayBeOne_119 : decode cX7_mayBeOne 119 = .ok (.aload_n 0, 1) := by decide +kernel
theorem dX7_mayBeOne_120 : decode cX7_mayBeOne 120 = .ok (.iload_n 1, 1) := by decide +kernel
theorem dX7_mayBeOne_121 : decode cX7_mayBeOne 121 = .ok (.iconst 2, 1) := by decide +kernel
theorem dX7_mayBeOne_122 : decode cX7_mayBeOne 122 = .ok (.invokevirtual 142, 3) := by decide +kernel
theorem dX7_mayBeOne_125 : decode cX7_mayBeOne 125 = .ok (.ifCond .eq 7, 3) := by decide +kernel
theorem dX7_mayBeOne_128 : decode cX7_mayBeOne 128 = .ok (.iload_n 3, 1) := by decide +kernel
theorem dX7_mayBeOne_129 : decode cX7_mayBeOne 129 = .ok (.ifCond .eq 7, 3) := by decide +kernel
theorem dX7_mayBeOne_132 : decode cX7_mayBeOne 132 = .ok (.iconst 1, 1) := by decide +kernel
theorem dX7_mayBeOne_133 : decode cX7_mayBeOne 133 = .ok (.goto 4, 3) := by decide +kernel
theorem dX7_mayBeOne_136 : decode cX7_mayBeOne 136 = .ok (.iconst 0, 1) := by decide +kernel
theorem dX7_mayBeOne_137 : decode cX7_mayBeOne 137 = .ok (.ireturn, 1) := by decide +kernel
theorem dX7_areApart_0 : decode cX7_areApart 0 = .ok (.aload_n 0, 1) := by decide +kernel
theorem dX7_areApart_1 : decode cX7_areApart 1 = .ok (.iload_n 1, 1) := by decide +kernel
theorem dX7_areApart_2 : decode cX7_areApart 2 = .ok (.iconst 3, 1) := by decide +kernel
theorem dX7_areApart_3 : decode cX7_areApart 3 = .ok (.invokevirtual 142, 3) := by decide +kernel
theorem dX7_areApart_6 : decode cX7_areApart 6 = .ok (.iconst 1, 1) := by decide +kernel
theorem dX7_areApart_7 : decode cX7_areApart 7 = .ok (.if_icmp .eq 43, 3) := by decide +kernel
theorem dX7_areApart_10 : decode cX7_areApart 10 = .ok (.aload_n 0, 1) := by decide +kernel
theorem dX7_areApart_11 : decode cX7_areApart 11 = .ok (.iload_n 2, 1) := by decide +kernel
theorem dX7_areApart_12 : decode cX7_areApart 12 = .ok (.invokevirtual 163, 3) := by decide +kernel
theorem dX7_areApart_15 : decode cX7_areApart 15 = .ok (.aload_n 0, 1) := by decide +kernel
theorem dX7_areApart_16 : decode cX7_areApart 16 = .ok (.iload_n 1, 1) := by decide +kernel
theorem dX7_areApart_17 : decode cX7_areApart 17 = .ok (.iconst 4, 1) := by decide +kernel
theorem dX7_areApart_18 : decode cX7_areApart 18 = .ok (.invokevirtual 142, 3) := by decide +kernel
theorem dX7_areApart_21 : decode cX7_areApart 21 = .ok (.iadd, 1) := by decide +kernel
theorem dX7_areApart_22 : decode cX7_areApart 22 = .ok (.aload_n 0, 1) := by decide +kernel
theorem dX7_areApart_23 : decode cX7_areApart 23 = .ok (.iload_n 3, 1) := by decide +kernel
theorem dX7_areApart_24 : decode cX7_areApart 24 = .ok (.invokevirtual 166, 3) := by decide +kernel
theorem dX7_areApart_27 : decode cX7_areApart 27 = .ok (.if_icmp .lt 23, 3) := by decide +kernel
theorem dX7_areApart_30 : decode cX7_areApart 30 = .ok (.aload_n 0, 1) := by decide +kernel
theorem dX7_areApart_31 : decode cX7_areApart 31 = .ok (.iload_n 3, 1) := by decide +kernel
theorem dX7_areApart_32 : decode cX7_areApart 32 = .ok (.invokevirtual 163, 3) := by decide +kernel
theorem dX7_areApart_35 : decode cX7_areApart 35 = .ok (.aload_n 0, 1) := by decide +kernel
theorem dX7_areApart_36 : decode cX7_areApart 36 = .ok (.iload_n 1, 1) := by decide +kernel
theorem dX7_areApart_37 : decode cX7_areApart 37 = .ok (.iconst 4, 1) := by decide +kernel
theorem dX7_areApart_38 : decode cX7_areApart 38 = .ok (.invokevirtual 142, 3) := by decide +kernel
theorem dX7_areApart_41 : decode cX7_areApart 41 = .ok (.iadd, 1) := by decide +kernel
theorem dX7_areApart_42 : decode cX7_areApart 42 = .ok (.aload_n 0, 1) := by decide +kernel
theorem dX7_areApart_43 : decode cX7_areApart 43 = .ok (.iload_n 2, 1) := by decide +kernel
theorem dX7_areApart_44 : decode cX7_areApart 44 = .ok (.invokevirtual 166, 3) := by decide +kernel
theorem dX7_areApart_47 : decode cX7_areApart 47 = .ok (.if_icmp .ge 7, 3) := by decide +kernel
theorem dX7_areApart_50 : decode cX7_areApart 50 = .ok (.iconst 1, 1) := by decide +kernel
theorem dX7_areApart_51 : decode cX7_areApart 51 = .ok (.goto 4, 3) := by decide +kernel
theorem dX7_areApart_54 : decode cX7_areApart 54 = .ok (.iconst 0, 1) := by decide +kernel
theorem dX7_areApart_55 : decode cX7_areApart 55 = .ok (.ireturn, 1) := by decide +kernel
theorem dX7_may_0 : decode cX7_may 0 = .ok (.aload_n 0, 1) := by decide +kernel
theorem dX7_may_1 : decode cX7_may 1 = .ok (.iconst 0, 1) := by decide +kernel
theorem dX7_may_2 : decode cX7_may 2 = .ok (.putfield 68, 3) := by decide +kernel
theorem dX7_may_5 : decode cX7_may 5 = .ok (.aload_n 0, 1) := by decide +kernel
theorem dX7_may_6 : decode cX7_may 6 = .ok (.iload_n 1, 1) := by decide +kernel
theorem dX7_may_7 : decode cX7_may 7 = .ok (.invokevirtual 139, 3) := by decide +kernel
theorem dX7_may_10 : decode cX7_may 10 = .ok (.ifCond .eq 15, 3) := by decide +kernel
theorem dX7_may_13 : decode cX7_may 13 = .ok (.aload_n 0, 1) := by decide +kernel
theorem dX7_may_14 : decode cX7_may 14 = .ok (.iload_n 2, 1) := by decide +kernel
theorem dX7_may_15 : decode cX7_may 15 = .ok (.invokevirtual 172, 3) := by decide +kernel
theorem dX7_may_18 : decode cX7_may 18 = .ok (.ifCond .eq 7, 3) := by decide +kernel
theorem dX7_may_21 : decode cX7_may 21 = .ok (.iload_n 2, 1) := by decide +kernel
theorem dX7_may_22 : decode cX7_may 22 = .ok (.ifCond .ne 7, 3) := by decide +kernel
theorem dX7_may_25 : decode cX7_may 25 = .ok (.iconst (-1), 1) := by decide +kernel
theorem dX7_may_26 : decode cX7_may 26 = .ok (.goto 17, 3) := by decide +kernel
theorem dX7_may_29 : decode cX7_may 29 = .ok (.aload_n 0, 1) := by decide +kernel
theorem dX7_may_30 : decode cX7_may 30 = .ok (.iload_n 1, 1) := by decide +kernel
theorem dX7_may_31 : decode cX7_may 31 = .ok (.iload_n 2, 1) := by decide +kernel
theorem dX7_may_32 : decode cX7_may 32 = .ok (.invokevirtual 175, 3) := by decide +kernel
theorem dX7_may_35 : decode cX7_may 35 = .ok (.ifCond .eq 7, 3) := by decide +kernel
theorem dX7_may_38 : decode cX7_may 38 = .ok (.iconst 1, 1) := by decide +kernel
theorem dX7_may_39 : decode cX7_may 39 = .ok (.goto 4, 3) := by decide +kernel
theorem dX7_may_42 : decode cX7_may 42 = .ok (.iconst 0, 1) := by decide +kernel
theorem dX7_may_43 : decode cX7_may 43 = .ok (.ireturn, 1) := by decide +kernel
theorem dX7_sumOf_0 : decode cX7_sumOf 0 = .ok (.iconst 0, 1) := by decide +kernel
theorem dX7_sumOf_1 : decode cX7_sumOf 1 = .ok (.istore_n 2, 1) := by decide +kernel
theorem dX7_sumOf_2 : decode cX7_sumOf 2 = .ok (.iconst 0, 1) := by decide +kernel
theorem dX7_sumOf_3 : decode cX7_sumOf 3 = .ok (.istore_n 3, 1) := by decide +kernel
theorem dX7_sumOf_4 : decode cX7_sumOf 4 = .ok (.iload_n 3, 1) := by decide +kernel
theorem dX7_sumOf_5 : decode cX7_sumOf 5 = .ok (.aload_n 0, 1) := by decide +kernel
theorem dX7_sumOf_6 : decode cX7_sumOf 6 = .ok (.getfield 146, 3) := by decide +kernel
theorem dX7_sumOf_9 : decode cX7_sumOf 9 = .ok (.if_icmp .ge 30, 3) := by decide +kernel
theorem dX7_sumOf_12 : decode cX7_sumOf 12 = .ok (.iload_n 2, 1) := by decide +kernel
theorem dX7_sumOf_13 : decode cX7_sumOf 13 = .ok (.iload_n 1, 1) := by decide +kernel
theorem dX7_sumOf_14 : decode cX7_sumOf 14 = .ok (.iload_n 3, 1) := by decide +kernel
theorem dX7_sumOf_15 : decode cX7_sumOf 15 = .ok (.invokestatic 157, 3) := by decide +kernel
theorem dX7_sumOf_18 : decode cX7_sumOf 18 = .ok (.ifCond .eq 12, 3) := by decide +kernel
theorem dX7_sumOf_21 : decode cX7_sumOf 21 = .ok (.aload_n 0, 1) := by decide +kernel
theorem dX7_sumOf_22 : decode cX7_sumOf 22 = .ok (.getfield 17, 3) := by decide +kernel
theorem dX7_sumOf_25 : decode cX7_sumOf 25 = .ok (.iload_n 3, 1) := by decide +kernel
theorem dX7_sumOf_26 : decode cX7_sumOf 26 = .ok (.iaload, 1) := by decide +kernel
theorem dX7_sumOf_27 : decode cX7_sumOf 27 = .ok (.goto 4, 3) := by decide +kernel
theorem dX7_sumOf_30 : decode cX7_sumOf 30 = .ok (.iconst 0, 1) := by decide +kernel
theorem dX7_sumOf_31 : decode cX7_sumOf 31 = .ok (.iadd, 1) := by decide +kernel
theorem dX7_sumOf_32 : decode cX7_sumOf 32 = .ok (.istore_n 2, 1) := by decide +kernel
theorem dX7_sumOf_33 : decode cX7_sumOf 33 = .ok (.iinc 3 1, 3) := by decide +kernel
theorem dX7_sumOf_36 : decode cX7_sumOf 36 = .ok (.goto (-32), 3) := by decide +kernel
theorem dX7_sumOf_39 : decode cX7_sumOf 39 = .ok (.iload_n 2, 1) := by decide +kernel
theorem dX7_sumOf_40 : decode cX7_sumOf 40 = .ok (.ireturn, 1) := by decide +kernel
theorem dX7_paidOf_0 : decode cX7_paidOf 0 = .ok (.aload_n 0, 1) := by decide +kernel
theorem dX7_paidOf_1 : decode cX7_paidOf 1 = .ok (.iload_n 1, 1) := by decide +kernel
theorem dX7_paidOf_2 : decode cX7_paidOf 2 = .ok (.bipush 6, 2) := by decide +kernel
theorem dX7_paidOf_4 : decode cX7_paidOf 4 = .ok (.invokevirtual 142, 3) := by decide +kernel
theorem dX7_paidOf_7 : decode cX7_paidOf 7 = .ok (.iconst 0, 1) := by decide +kernel
theorem dX7_paidOf_8 : decode cX7_paidOf 8 = .ok (.iload_n 2, 1) := by decide +kernel
theorem dX7_paidOf_9 : decode cX7_paidOf 9 = .ok (.aload_n 0, 1) := by decide +kernel
theorem dX7_paidOf_10 : decode cX7_paidOf 10 = .ok (.iload_n 1, 1) := by decide +kernel
theorem dX7_paidOf_11 : decode cX7_paidOf 11 = .ok (.iconst 5, 1) := by decide +kernel
theorem dX7_paidOf_12 : decode cX7_paidOf 12 = .ok (.invokevirtual 142, 3) := by decide +kernel
theorem dX7_paidOf_15 : decode cX7_paidOf 15 = .ok (.isub, 1) := by decide +kernel
theorem dX7_paidOf_16 : decode cX7_paidOf 16 = .ok (.invokestatic 152, 3) := by decide +kernel
theorem dX7_paidOf_19 : decode cX7_paidOf 19 = .ok (.invokestatic 160, 3) := by decide +kernel
theorem dX7_paidOf_22 : decode cX7_paidOf 22 = .ok (.ireturn, 1) := by decide +kernel
theorem dX7_paid_0 : decode cX7_paid 0 = .ok (.aload_n 0, 1) := by decide +kernel
theorem dX7_paid_1 : decode cX7_paid 1 = .ok (.iconst 0, 1) := by decide +kernel
theorem dX7_paid_2 : decode cX7_paid 2 = .ok (.putfield 68, 3) := by decide +kernel
theorem dX7_paid_5 : decode cX7_paid 5 = .ok (.aload_n 0, 1) := by decide +kernel
theorem dX7_paid_6 : decode cX7_paid 6 = .ok (.iload_n 1, 1) := by decide +kernel
theorem dX7_paid_7 : decode cX7_paid 7 = .ok (.invokevirtual 139, 3) := by decide +kernel
theorem dX7_paid_10 : decode cX7_paid 10 = .ok (.ifCond .eq 15, 3) := by decide +kernel
theorem dX7_paid_13 : decode cX7_paid 13 = .ok (.aload_n 0, 1) := by decide +kernel
theorem dX7_paid_14 : decode cX7_paid 14 = .ok (.iload_n 2, 1) := by decide +kernel
theorem dX7_paid_15 : decode cX7_paid 15 = .ok (.invokevirtual 172, 3) := by decide +kernel
theorem dX7_paid_18 : decode cX7_paid 18 = .ok (.ifCond .eq 7, 3) := by decide +kernel
theorem dX7_paid_21 : decode cX7_paid 21 = .ok (.iload_n 2, 1) := by decide +kernel
theorem dX7_paid_22 : decode cX7_paid 22 = .ok (.ifCond .ne 7, 3) := by decide +kernel
theorem dX7_paid_25 : decode cX7_paid 25 = .ok (.iconst (-1), 1) := by decide +kernel
theorem dX7_paid_26 : decode cX7_paid 26 = .ok (.goto 13, 3) := by decide +kernel
theorem dX7_paid_29 : decode cX7_paid 29 = .ok (.aload_n 0, 1) := by decide +kernel
theorem dX7_paid_30 : decode cX7_paid 30 = .ok (.iload_n 1, 1) := by decide +kernel
theorem dX7_paid_31 : decode cX7_paid 31 = .ok (.aload_n 0, 1) := by decide +kernel
theorem dX7_paid_32 : decode cX7_paid 32 = .ok (.iload_n 2, 1) := by decide +kernel
theorem dX7_paid_33 : decode cX7_paid 33 = .ok (.invokevirtual 178, 3) := by decide +kernel
theorem dX7_paid_36 : decode cX7_paid 36 = .ok (.invokevirtual 181, 3) := by decide +kernel
theorem dX7_paid_39 : decode cX7_paid 39 = .ok (.ireturn, 1) := by decide +kernel
theorem dX7_isAhead_0 : decode cX7_isAhead 0 = .ok (.iload_n 2, 1) := by decide +kernel
theorem dX7_isAhead_1 : decode cX7_isAhead 1 = .ok (.aload_n 0, 1) := by decide +kernel
theorem dX7_isAhead_2 : decode cX7_isAhead 2 = .ok (.getfield 47, 3) := by decide +kernel
theorem dX7_isAhead_5 : decode cX7_isAhead 5 = .ok (.iload_n 3, 1) := by decide +kernel
theorem dX7_isAhead_6 : decode cX7_isAhead 6 = .ok (.iaload, 1) := by decide +kernel
theorem dX7_isAhead_7 : decode cX7_isAhead 7 = .ok (.if_icmp .eq 21, 3) := by decide +kernel
theorem dX7_isAhead_10 : decode cX7_isAhead 10 = .ok (.iload_n 2, 1) := by decide +kernel
theorem dX7_isAhead_11 : decode cX7_isAhead 11 = .ok (.aload_n 0, 1) := by decide +kernel
theorem dX7_isAhead_12 : decode cX7_isAhead 12 = .ok (.getfield 47, 3) := by decide +kernel
theorem dX7_isAhead_15 : decode cX7_isAhead 15 = .ok (.iload_n 3, 1) := by decide +kernel
theorem dX7_isAhead_16 : decode cX7_isAhead 16 = .ok (.iaload, 1) := by decide +kernel
theorem dX7_isAhead_17 : decode cX7_isAhead 17 = .ok (.if_icmp .ge 7, 3) := by decide +kernel
theorem dX7_isAhead_20 : decode cX7_isAhead 20 = .ok (.iconst 1, 1) := by decide +kernel
theorem dX7_isAhead_21 : decode cX7_isAhead 21 = .ok (.goto 22, 3) := by decide +kernel
theorem dX7_isAhead_24 : decode cX7_isAhead 24 = .ok (.iconst 0, 1) := by decide +kernel
theorem dX7_isAhead_25 : decode cX7_isAhead 25 = .ok (.goto 18, 3) := by decide +kernel
theorem dX7_isAhead_28 : decode cX7_isAhead 28 = .ok (.iload_n 1, 1) := by decide +kernel
theorem dX7_isAhead_29 : decode cX7_isAhead 29 = .ok (.aload_n 0, 1) := by decide +kernel
theorem dX7_isAhead_30 : decode cX7_isAhead 30 = .ok (.getfield 53, 3) := by decide +kernel
theorem dX7_isAhead_33 : decode cX7_isAhead 33 = .ok (.iload_n 3, 1) := by decide +kernel
theorem dX7_isAhead_34 : decode cX7_isAhead 34 = .ok (.iaload, 1) := by decide +kernel
theorem dX7_isAhead_35 : decode cX7_isAhead 35 = .ok (.if_icmp .ge 7, 3) := by decide +kernel
theorem dX7_isAhead_38 : decode cX7_isAhead 38 = .ok (.iconst 1, 1) := by decide +kernel
theorem dX7_isAhead_39 : decode cX7_isAhead 39 = .ok (.goto 4, 3) := by decide +kernel
theorem dX7_isAhead_42 : decode cX7_isAhead 42 = .ok (.iconst 0, 1) := by decide +kernel
theorem dX7_isAhead_43 : decode cX7_isAhead 43 = .ok (.ireturn, 1) := by decide +kernel
theorem dX7_layRow_0 : decode cX7_layRow 0 = .ok (.iconst 0, 1) := by decide +kernel
theorem dX7_layRow_1 : decode cX7_layRow 1 = .ok (.istore_n 1, 1) := by decide +kernel
theorem dX7_layRow_2 : decode cX7_layRow 2 = .ok (.iload_n 1, 1) := by decide +kernel
theorem dX7_layRow_3 : decode cX7_layRow 3 = .ok (.aload_n 0, 1) := by decide +kernel
theorem dX7_layRow_4 : decode cX7_layRow 4 = .ok (.getfield 184, 3) := by decide +kernel
theorem dX7_layRow_7 : decode cX7_layRow 7 = .ok (.if_icmp .ge 275, 3) := by decide +kernel
theorem dX7_layRow_10 : decode cX7_layRow 10 = .ok (.sipush 1000, 3) := by decide +kernel
theorem dX7_layRow_13 : decode cX7_layRow 13 = .ok (.istore_n 2, 1) := by decide +kernel
theorem dX7_layRow_14 : decode cX7_layRow 14 = .ok (.iconst (-1), 1) := by decide +kernel
theorem dX7_layRow_15 : decode cX7_layRow 15 = .ok (.istore_n 3, 1) := by decide +kernel
theorem dX7_layRow_16 : decode cX7_layRow 16 = .ok (.iconst 0, 1) := by decide +kernel
theorem dX7_layRow_17 : decode cX7_layRow 17 = .ok (.istore 4, 2) := by decide +kernel
theorem dX7_layRow_19 : decode cX7_layRow 19 = .ok (.aload_n 0, 1) := by decide +kernel
theorem dX7_layRow_20 : decode cX7_layRow 20 = .ok (.getfield 38, 3) := by decide +kernel
theorem dX7_layRow_23 : decode cX7_layRow 23 = .ok (.iload_n 1, 1) := by decide +kernel
theorem dX7_layRow_24 : decode cX7_layRow 24 = .ok (.iaload, 1) := by decide +kernel
theorem dX7_layRow_25 : decode cX7_layRow 25 = .ok (.istore 5, 2) := by decide +kernel
theorem dX7_layRow_27 : decode cX7_layRow 27 = .ok (.iload 5, 2) := by decide +kernel
theorem dX7_layRow_29 : decode cX7_layRow 29 = .ok (.ifCond .eq 58, 3) := by decide +kernel
theorem dX7_layRow_32 : decode cX7_layRow 32 = .ok (.iload 5, 2) := by decide +kernel
theorem dX7_layRow_34 : decode cX7_layRow 34 = .ok (.invokestatic 187, 3) := by decide +kernel
theorem dX7_layRow_37 : decode cX7_layRow 37 = .ok (.istore 6, 2) := by decide +kernel
theorem dX7_layRow_39 : decode cX7_layRow 39 = .ok (.iload_n 2, 1) := by decide +kernel
theorem dX7_layRow_40 : decode cX7_layRow 40 = .ok (.aload_n 0, 1) := by decide +kernel
theorem dX7_layRow_41 : decode cX7_layRow 41 = .ok (.getfield 20, 3) := by decide +kernel
theorem dX7_layRow_44 : decode cX7_layRow 44 = .ok (.iload 6, 2) := by decide +kernel
theorem dX7_layRow_46 : decode cX7_layRow 46 = .ok (.iaload, 1) := by decide +kernel
theorem dX7_layRow_47 : decode cX7_layRow 47 = .ok (.invokestatic 160, 3) := by decide +kernel
theorem dX7_layRow_50 : decode cX7_layRow 50 = .ok (.istore_n 2, 1) := by decide +kernel
theorem dX7_layRow_51 : decode cX7_layRow 51 = .ok (.iload_n 3, 1) := by decide +kernel
theorem dX7_layRow_52 : decode cX7_layRow 52 = .ok (.aload_n 0, 1) := by decide +kernel
theorem dX7_layRow_53 : decode cX7_layRow 53 = .ok (.getfield 20, 3) := by decide +kernel
theorem dX7_layRow_56 : decode cX7_layRow 56 = .ok (.iload 6, 2) := by decide +kernel
theorem dX7_layRow_58 : decode cX7_layRow 58 = .ok (.iaload, 1) := by decide +kernel
theorem dX7_layRow_59 : decode cX7_layRow 59 = .ok (.invokestatic 152, 3) := by decide +kernel
theorem dX7_layRow_62 : decode cX7_layRow 62 = .ok (.istore_n 3, 1) := by decide +kernel
theorem dX7_layRow_63 : decode cX7_layRow 63 = .ok (.iload 4, 2) := by decide +kernel
theorem dX7_layRow_65 : decode cX7_layRow 65 = .ok (.aload_n 0, 1) := by decide +kernel
theorem dX7_layRow_66 : decode cX7_layRow 66 = .ok (.getfield 17, 3) := by decide +kernel
theorem dX7_layRow_69 : decode cX7_layRow 69 = .ok (.iload 6, 2) := by decide +kernel
theorem dX7_layRow_71 : decode cX7_layRow 71 = .ok (.iaload, 1) := by decide +kernel
theorem dX7_layRow_72 : decode cX7_layRow 72 = .ok (.iadd, 1) := by decide +kernel
theorem dX7_layRow_73 : decode cX7_layRow 73 = .ok (.istore 4, 2) := by decide +kernel
theorem dX7_layRow_75 : decode cX7_layRow 75 = .ok (.iload 5, 2) := by decide +kernel
theorem dX7_layRow_77 : decode cX7_layRow 77 = .ok (.iload 5, 2) := by decide +kernel
theorem dX7_layRow_79 : decode cX7_layRow 79 = .ok (.iconst 1, 1) := by decide +kernel
theorem dX7_layRow_80 : decode cX7_layRow 80 = .ok (.isub, 1) := by decide +kernel
theorem dX7_layRow_81 : decode cX7_layRow 81 = .ok (.iand, 1) := by decide +kernel
theorem dX7_layRow_82 : decode cX7_layRow 82 = .ok (.istore 5, 2) := by decide +kernel
theorem dX7_layRow_84 : decode cX7_layRow 84 = .ok (.goto (-57), 3) := by decide +kernel
theorem dX7_layRow_87 : decode cX7_layRow 87 = .ok (.iconst 0, 1) := by decide +kernel
theorem dX7_layRow_88 : decode cX7_layRow 88 = .ok (.istore 5, 2) := by decide +kernel
theorem dX7_layRow_90 : decode cX7_layRow 90 = .ok (.aload_n 0, 1) := by decide +kernel
theorem dX7_layRow_91 : decode cX7_layRow 91 = .ok (.getfield 38, 3) := by decide +kernel
theorem dX7_layRow_94 : decode cX7_layRow 94 = .ok (.iload_n 1, 1) := by decide +kernel
theorem dX7_layRow_95 : decode cX7_layRow 95 = .ok (.iaload, 1) := by decide +kernel
theorem dX7_layRow_96 : decode cX7_layRow 96 = .ok (.iload 5, 2) := by decide +kernel
theorem dX7_layRow_98 : decode cX7_layRow 98 = .ok (.invokestatic 157, 3) := by decide +kernel
theorem dX7_layRow_101 : decode cX7_layRow 101 = .ok (.ifCond .eq 14, 3) := by decide +kernel
theorem dX7_layRow_104 : decode cX7_layRow 104 = .ok (.aload_n 0, 1) := by decide +kernel
theorem dX7_layRow_105 : decode cX7_layRow 105 = .ok (.getfield 20, 3) := by decide +kernel
theorem dX7_layRow_108 : decode cX7_layRow 108 = .ok (.iload 5, 2) := by decide +kernel
theorem dX7_layRow_110 : decode cX7_layRow 110 = .ok (.iaload, 1) := by decide +kernel
theorem dX7_layRow_111 : decode cX7_layRow 111 = .ok (.iload_n 2, 1) := by decide +kernel
theorem dX7_layRow_112 : decode cX7_layRow 112 = .ok (.if_icmp .eq 9, 3) := by decide +kernel
theorem dX7_layRow_115 : decode cX7_layRow 115 = .ok (.iinc 5 1, 3) := by decide +kernel
theorem dX7_layRow_118 : decode cX7_layRow 118 = .ok (.goto (-28), 3) := by decide +kernel
theorem dX7_layRow_121 : decode cX7_layRow 121 = .ok (.iload_n 1, 1) := by decide +kernel
theorem dX7_layRow_122 : decode cX7_layRow 122 = .ok (.istore 6, 2) := by decide +kernel
theorem dX7_layRow_124 : decode cX7_layRow 124 = .ok (.iload 6, 2) := by decide +kernel
theorem dX7_layRow_126 : decode cX7_layRow 126 = .ok (.ifCond .le 103, 3) := by decide +kernel
theorem dX7_layRow_129 : decode cX7_layRow 129 = .ok (.aload_n 0, 1) := by decide +kernel
theorem dX7_layRow_130 : decode cX7_layRow 130 = .ok (.iload 5, 2) := by decide +kernel
theorem dX7_layRow_132 : decode cX7_layRow 132 = .ok (.iload_n 2, 1) := by decide +kernel
theorem dX7_layRow_133 : decode cX7_layRow 133 = .ok (.iload 6, 2) := by decide +kernel
theorem dX7_layRow_135 : decode cX7_layRow 135 = .ok (.iconst 1, 1) := by decide +kernel
theorem dX7_layRow_136 : decode cX7_layRow 136 = .ok (.isub, 1) := by decide +kernel
theorem dX7_layRow_137 : decode cX7_layRow 137 = .ok (.invokevirtual 192, 3) := by decide +kernel
theorem dX7_layRow_140 : decode cX7_layRow 140 = .ok (.ifCond .eq 89, 3) := by decide +kernel
theorem dX7_layRow_143 : decode cX7_layRow 143 = .ok (.aload_n 0, 1) := by decide +kernel
theorem dX7_layRow_144 : decode cX7_layRow 144 = .ok (.getfield 53, 3) := by decide +kernel
theorem dX7_layRow_147 : decode cX7_layRow 147 = .ok (.iload 6, 2) := by decide +kernel
theorem dX7_layRow_149 : decode cX7_layRow 149 = .ok (.aload_n 0, 1) := by decide +kernel
theorem dX7_layRow_150 : decode cX7_layRow 150 = .ok (.getfield 53, 3) := by decide +kernel
theorem dX7_layRow_153 : decode cX7_layRow 153 = .ok (.iload 6, 2) := by decide +kernel
theorem dX7_layRow_155 : decode cX7_layRow 155 = .ok (.iconst 1, 1) := by decide +kernel
theorem dX7_layRow_156 : decode cX7_layRow 156 = .ok (.isub, 1) := by decide +kernel
theorem dX7_layRow_157 : decode cX7_layRow 157 = .ok (.iaload, 1) := by decide +kernel
theorem dX7_layRow_158 : decode cX7_layRow 158 = .ok (.iastore, 1) := by decide +kernel
theorem dX7_layRow_159 : decode cX7_layRow 159 = .ok (.aload_n 0, 1) := by decide +kernel
theorem dX7_layRow_160 : decode cX7_layRow 160 = .ok (.getfield 41, 3) := by decide +kernel
theorem dX7_layRow_163 : decode cX7_layRow 163 = .ok (.iload 6, 2) := by decide +kernel
theorem dX7_layRow_165 : decode cX7_layRow 165 = .ok (.aload_n 0, 1) := by decide +kernel
theorem dX7_layRow_166 : decode cX7_layRow 166 = .ok (.getfield 41, 3) := by decide +kernel
theorem dX7_layRow_169 : decode cX7_layRow 169 = .ok (.iload 6, 2) := by decide +kernel
theorem dX7_layRow_171 : decode cX7_layRow 171 = .ok (.iconst 1, 1) := by decide +kernel
theorem dX7_layRow_172 : decode cX7_layRow 172 = .ok (.isub, 1) := by decide +kernel
theorem dX7_layRow_173 : decode cX7_layRow 173 = .ok (.iaload, 1) := by decide +kernel
theorem dX7_layRow_174 : decode cX7_layRow 174 = .ok (.iastore, 1) := by decide +kernel
theorem dX7_layRow_175 : decode cX7_layRow 175 = .ok (.aload_n 0, 1) := by decide +kernel
theorem dX7_layRow_176 : decode cX7_layRow 176 = .ok (.getfield 44, 3) := by decide +kernel
theorem dX7_layRow_179 : decode cX7_layRow 179 = .ok (.iload 6, 2) := by decide +kernel
theorem dX7_layRow_181 : decode cX7_layRow 181 = .ok (.aload_n 0, 1) := by decide +kernel
theorem dX7_layRow_182 : decode cX7_layRow 182 = .ok (.getfield 44, 3) := by decide +kernel
theorem dX7_layRow_185 : decode cX7_layRow 185 = .ok (.iload 6, 2) := by decide +kernel
theorem dX7_layRow_187 : decode cX7_layRow 187 = .ok (.iconst 1, 1) := by decide +kernel
theorem dX7_layRow_188 : decode cX7_layRow 188 = .ok (.isub, 1) := by decide +kernel
theorem dX7_layRow_189 : decode cX7_layRow 189 = .ok (.iaload, 1) := by decide +kernel
theorem dX7_layRow_190 : decode cX7_layRow 190 = .ok (.iastore, 1) := by decide +kernel
theorem dX7_layRow_191 : decode cX7_layRow 191 = .ok (.aload_n 0, 1) := by decide +kernel
theorem dX7_layRow_192 : decode cX7_layRow 192 = .ok (.getfield 47, 3) := by decide +kernel
theorem dX7_layRow_195 : decode cX7_layRow 195 = .ok (.iload 6, 2) := by decide +kernel
theorem dX7_layRow_197 : decode cX7_layRow 197 = .ok (.aload_n 0, 1) := by decide +kernel
theorem dX7_layRow_198 : decode cX7_layRow 198 = .ok (.getfield 47, 3) := by decide +kernel
theorem dX7_layRow_201 : decode cX7_layRow 201 = .ok (.iload 6, 2) := by decide +kernel
theorem dX7_layRow_203 : decode cX7_layRow 203 = .ok (.iconst 1, 1) := by decide +kernel
theorem dX7_layRow_204 : decode cX7_layRow 204 = .ok (.isub, 1) := by decide +kernel
theorem dX7_layRow_205 : decode cX7_layRow 205 = .ok (.iaload, 1) := by decide +kernel
theorem dX7_layRow_206 : decode cX7_layRow 206 = .ok (.iastore, 1) := by decide +kernel
theorem dX7_layRow_207 : decode cX7_layRow 207 = .ok (.aload_n 0, 1) := by decide +kernel
theorem dX7_layRow_208 : decode cX7_layRow 208 = .ok (.getfield 50, 3) := by decide +kernel
theorem dX7_layRow_211 : decode cX7_layRow 211 = .ok (.iload 6, 2) := by decide +kernel
theorem dX7_layRow_213 : decode cX7_layRow 213 = .ok (.aload_n 0, 1) := by decide +kernel
theorem dX7_layRow_214 : decode cX7_layRow 214 = .ok (.getfield 50, 3) := by decide +kernel
theorem dX7_layRow_217 : decode cX7_layRow 217 = .ok (.iload 6, 2) := by decide +kernel
theorem dX7_layRow_219 : decode cX7_layRow 219 = .ok (.iconst 1, 1) := by decide +kernel
theorem dX7_layRow_220 : decode cX7_layRow 220 = .ok (.isub, 1) := by decide +kernel
theorem dX7_layRow_221 : decode cX7_layRow 221 = .ok (.iaload, 1) := by decide +kernel
theorem dX7_layRow_222 : decode cX7_layRow 222 = .ok (.iastore, 1) := by decide +kernel
theorem dX7_layRow_223 : decode cX7_layRow 223 = .ok (.iinc 6 (-1), 3) := by decide +kernel
theorem dX7_layRow_226 : decode cX7_layRow 226 = .ok (.goto (-102), 3) := by decide +kernel
theorem dX7_layRow_229 : decode cX7_layRow 229 = .ok (.aload_n 0, 1) := by decide +kernel
theorem dX7_layRow_230 : decode cX7_layRow 230 = .ok (.getfield 53, 3) := by decide +kernel
theorem dX7_layRow_233 : decode cX7_layRow 233 = .ok (.iload 6, 2) := by decide +kernel
theorem dX7_layRow_235 : decode cX7_layRow 235 = .ok (.iload 5, 2) := by decide +kernel
theorem dX7_layRow_237 : decode cX7_layRow 237 = .ok (.iastore, 1) := by decide +kernel
theorem dX7_layRow_238 : decode cX7_layRow 238 = .ok (.aload_n 0, 1) := by decide +kernel
theorem dX7_layRow_239 : decode cX7_layRow 239 = .ok (.getfield 41, 3) := by decide +kernel
theorem dX7_layRow_242 : decode cX7_layRow 242 = .ok (.iload 6, 2) := by decide +kernel
theorem dX7_layRow_244 : decode cX7_layRow 244 = .ok (.aload_n 0, 1) := by decide +kernel
theorem dX7_layRow_245 : decode cX7_layRow 245 = .ok (.getfield 38, 3) := by decide +kernel
theorem dX7_layRow_248 : decode cX7_layRow 248 = .ok (.iload_n 1, 1) := by decide +kernel
theorem dX7_layRow_249 : decode cX7_layRow 249 = .ok (.iaload, 1) := by decide +kernel
theorem dX7_layRow_250 : decode cX7_layRow 250 = .ok (.iastore, 1) := by decide +kernel
theorem dX7_layRow_251 : decode cX7_layRow 251 = .ok (.aload_n 0, 1) := by decide +kernel
theorem dX7_layRow_252 : decode cX7_layRow 252 = .ok (.getfield 44, 3) := by decide +kernel
theorem dX7_layRow_255 : decode cX7_layRow 255 = .ok (.iload 6, 2) := by decide +kernel
theorem dX7_layRow_257 : decode cX7_layRow 257 = .ok (.iload 4, 2) := by decide +kernel
theorem dX7_layRow_259 : decode cX7_layRow 259 = .ok (.iastore, 1) := by decide +kernel
theorem dX7_layRow_260 : decode cX7_layRow 260 = .ok (.aload_n 0, 1) := by decide +kernel
theorem dX7_layRow_261 : decode cX7_layRow 261 = .ok (.getfield 47, 3) := by decide +kernel
theorem dX7_layRow_264 : decode cX7_layRow 264 = .ok (.iload 6, 2) := by decide +kernel
theorem dX7_layRow_266 : decode cX7_layRow 266 = .ok (.iload_n 2, 1) := by decide +kernel
theorem dX7_layRow_267 : decode cX7_layRow 267 = .ok (.iastore, 1) := by decide +kernel
theorem dX7_layRow_268 : decode cX7_layRow 268 = .ok (.aload_n 0, 1) := by decide +kernel
theorem dX7_layRow_269 : decode cX7_layRow 269 = .ok (.getfield 50, 3) := by decide +kernel
theorem dX7_layRow_272 : decode cX7_layRow 272 = .ok (.iload 6, 2) := by decide +kernel
theorem dX7_layRow_274 : decode cX7_layRow 274 = .ok (.iload_n 3, 1) := by decide +kernel
theorem dX7_layRow_275 : decode cX7_layRow 275 = .ok (.iastore, 1) := by decide +kernel
theorem dX7_layRow_276 : decode cX7_layRow 276 = .ok (.iinc 1 1, 3) := by decide +kernel
theorem dX7_layRow_279 : decode cX7_layRow 279 = .ok (.goto (-277), 3) := by decide +kernel
theorem dX7_layRow_282 : decode cX7_layRow 282 = .ok (.return_, 1) := by decide +kernel
theorem dX7_isRowApart_0 : decode cX7_isRowApart 0 = .ok (.aload_n 0, 1) := by decide +kernel
theorem dX7_isRowApart_1 : decode cX7_isRowApart 1 = .ok (.iload_n 1, 1) := by decide +kernel
theorem dX7_isRowApart_2 : decode cX7_isRowApart 2 = .ok (.iconst 3, 1) := by decide +kernel
theorem dX7_isRowApart_3 : decode cX7_isRowApart 3 = .ok (.invokevirtual 142, 3) := by decide +kernel
theorem dX7_isRowApart_6 : decode cX7_isRowApart 6 = .ok (.iconst 1, 1) := by decide +kernel
theorem dX7_isRowApart_7 : decode cX7_isRowApart 7 = .ok (.if_icmp .ne 5, 3) := by decide +kernel
theorem dX7_isRowApart_10 : decode cX7_isRowApart 10 = .ok (.iconst 1, 1) := by decide +kernel
theorem dX7_isRowApart_11 : decode cX7_isRowApart 11 = .ok (.ireturn, 1) := by decide +kernel
theorem dX7_isRowApart_12 : decode cX7_isRowApart 12 = .ok (.iconst 1, 1) := by decide +kernel
theorem dX7_isRowApart_13 : decode cX7_isRowApart 13 = .ok (.istore_n 2, 1) := by decide +kernel
theorem dX7_isRowApart_14 : decode cX7_isRowApart 14 = .ok (.iload_n 2, 1) := by decide +kernel
theorem dX7_isRowApart_15 : decode cX7_isRowApart 15 = .ok (.aload_n 0, 1) := by decide +kernel
theorem dX7_isRowApart_16 : decode cX7_isRowApart 16 = .ok (.getfield 184, 3) := by decide +kernel
theorem dX7_isRowApart_19 : decode cX7_isRowApart 19 = .ok (.if_icmp .ge 35, 3) := by decide +kernel
theorem dX7_isRowApart_22 : decode cX7_isRowApart 22 = .ok (.aload_n 0, 1) := by decide +kernel
theorem dX7_isRowApart_23 : decode cX7_isRowApart 23 = .ok (.getfield 50, 3) := by decide +kernel
theorem dX7_isRowApart_26 : decode cX7_isRowApart 26 = .ok (.iload_n 2, 1) := by decide +kernel
theorem dX7_isRowApart_27 : decode cX7_isRowApart 27 = .ok (.iconst 1, 1) := by decide +kernel
theorem dX7_isRowApart_28 : decode cX7_isRowApart 28 = .ok (.isub, 1) := by decide +kernel
theorem dX7_isRowApart_29 : decode cX7_isRowApart 29 = .ok (.iaload, 1) := by decide +kernel
theorem dX7_isRowApart_30 : decode cX7_isRowApart 30 = .ok (.aload_n 0, 1) := by decide +kernel
theorem dX7_isRowApart_31 : decode cX7_isRowApart 31 = .ok (.iload_n 1, 1) := by decide +kernel
theorem dX7_isRowApart_32 : decode cX7_isRowApart 32 = .ok (.iconst 4, 1) := by decide +kernel
theorem dX7_isRowApart_33 : decode cX7_isRowApart 33 = .ok (.invokevirtual 142, 3) := by decide +kernel
theorem dX7_isRowApart_36 : decode cX7_isRowApart 36 = .ok (.iadd, 1) := by decide +kernel
theorem dX7_isRowApart_37 : decode cX7_isRowApart 37 = .ok (.aload_n 0, 1) := by decide +kernel
theorem dX7_isRowApart_38 : decode cX7_isRowApart 38 = .ok (.getfield 47, 3) := by decide +kernel
theorem dX7_isRowApart_41 : decode cX7_isRowApart 41 = .ok (.iload_n 2, 1) := by decide +kernel
theorem dX7_isRowApart_42 : decode cX7_isRowApart 42 = .ok (.iaload, 1) := by decide +kernel
theorem dX7_isRowApart_43 : decode cX7_isRowApart 43 = .ok (.if_icmp .lt 5, 3) := by decide +kernel
theorem dX7_isRowApart_46 : decode cX7_isRowApart 46 = .ok (.iconst 0, 1) := by decide +kernel
theorem dX7_isRowApart_47 : decode cX7_isRowApart 47 = .ok (.ireturn, 1) := by decide +kernel
theorem dX7_isRowApart_48 : decode cX7_isRowApart 48 = .ok (.iinc 2 1, 3) := by decide +kernel
theorem dX7_isRowApart_51 : decode cX7_isRowApart 51 = .ok (.goto (-37), 3) := by decide +kernel
theorem dX7_isRowApart_54 : decode cX7_isRowApart 54 = .ok (.iconst 1, 1) := by decide +kernel
theorem dX7_isRowApart_55 : decode cX7_isRowApart 55 = .ok (.ireturn, 1) := by decide +kernel
theorem dX7_bringsBy_0 : decode cX7_bringsBy 0 = .ok (.aload_n 0, 1) := by decide +kernel
theorem dX7_bringsBy_1 : decode cX7_bringsBy 1 = .ok (.iconst 0, 1) := by decide +kernel
theorem dX7_bringsBy_2 : decode cX7_bringsBy 2 = .ok (.putfield 195, 3) := by decide +kernel
theorem dX7_bringsBy_5 : decode cX7_bringsBy 5 = .ok (.aload_n 0, 1) := by decide +kernel
theorem dX7_bringsBy_6 : decode cX7_bringsBy 6 = .ok (.iconst 0, 1) := by decide +kernel
theorem dX7_bringsBy_7 : decode cX7_bringsBy 7 = .ok (.putfield 198, 3) := by decide +kernel
theorem dX7_bringsBy_10 : decode cX7_bringsBy 10 = .ok (.iconst 0, 1) := by decide +kernel
theorem dX7_bringsBy_11 : decode cX7_bringsBy 11 = .ok (.istore_n 2, 1) := by decide +kernel
theorem dX7_bringsBy_12 : decode cX7_bringsBy 12 = .ok (.iload_n 2, 1) := by decide +kernel
theorem dX7_bringsBy_13 : decode cX7_bringsBy 13 = .ok (.aload_n 0, 1) := by decide +kernel
theorem dX7_bringsBy_14 : decode cX7_bringsBy 14 = .ok (.getfield 184, 3) := by decide +kernel
theorem dX7_bringsBy_17 : decode cX7_bringsBy 17 = .ok (.if_icmp .ge 62, 3) := by decide +kernel
theorem dX7_bringsBy_20 : decode cX7_bringsBy 20 = .ok (.aload_n 0, 1) := by decide +kernel
theorem dX7_bringsBy_21 : decode cX7_bringsBy 21 = .ok (.iload_n 1, 1) := by decide +kernel
theorem dX7_bringsBy_22 : decode cX7_bringsBy 22 = .ok (.aload_n 0, 1) := by decide +kernel
theorem dX7_bringsBy_23 : decode cX7_bringsBy 23 = .ok (.getfield 44, 3) := by decide +kernel
theorem dX7_bringsBy_26 : decode cX7_bringsBy 26 = .ok (.iload_n 2, 1) := by decide +kernel
theorem dX7_bringsBy_27 : decode cX7_bringsBy 27 = .ok (.iaload, 1) := by decide +kernel
theorem dX7_bringsBy_28 : decode cX7_bringsBy 28 = .ok (.invokevirtual 181, 3) := by decide +kernel
theorem dX7_bringsBy_31 : decode cX7_bringsBy 31 = .ok (.istore_n 3, 1) := by decide +kernel
theorem dX7_bringsBy_32 : decode cX7_bringsBy 32 = .ok (.iload_n 3, 1) := by decide +kernel
theorem dX7_bringsBy_33 : decode cX7_bringsBy 33 = .ok (.ifCond .eq 40, 3) := by decide +kernel
theorem dX7_bringsBy_36 : decode cX7_bringsBy 36 = .ok (.aload_n 0, 1) := by decide +kernel
theorem dX7_bringsBy_37 : decode cX7_bringsBy 37 = .ok (.getfield 195, 3) := by decide +kernel
theorem dX7_bringsBy_40 : decode cX7_bringsBy 40 = .ok (.aload_n 0, 1) := by decide +kernel
theorem dX7_bringsBy_41 : decode cX7_bringsBy 41 = .ok (.iload_n 1, 1) := by decide +kernel
theorem dX7_bringsBy_42 : decode cX7_bringsBy 42 = .ok (.bipush 7, 2) := by decide +kernel
theorem dX7_bringsBy_44 : decode cX7_bringsBy 44 = .ok (.invokevirtual 142, 3) := by decide +kernel
theorem dX7_bringsBy_47 : decode cX7_bringsBy 47 = .ok (.if_icmp .ne 6, 3) := by decide +kernel
theorem dX7_bringsBy_50 : decode cX7_bringsBy 50 = .ok (.goto 23, 3) := by decide +kernel
theorem dX7_bringsBy_53 : decode cX7_bringsBy 53 = .ok (.aload_n 0, 1) := by decide +kernel
theorem dX7_bringsBy_54 : decode cX7_bringsBy 54 = .ok (.dup, 1) := by decide +kernel
theorem dX7_bringsBy_55 : decode cX7_bringsBy 55 = .ok (.getfield 195, 3) := by decide +kernel
theorem dX7_bringsBy_58 : decode cX7_bringsBy 58 = .ok (.iconst 1, 1) := by decide +kernel
theorem dX7_bringsBy_59 : decode cX7_bringsBy 59 = .ok (.iadd, 1) := by decide +kernel
theorem dX7_bringsBy_60 : decode cX7_bringsBy 60 = .ok (.putfield 195, 3) := by decide +kernel
theorem dX7_bringsBy_63 : decode cX7_bringsBy 63 = .ok (.aload_n 0, 1) := by decide +kernel
theorem dX7_bringsBy_64 : decode cX7_bringsBy 64 = .ok (.dup, 1) := by decide +kernel
theorem dX7_bringsBy_65 : decode cX7_bringsBy 65 = .ok (.getfield 198, 3) := by decide +kernel
theorem dX7_bringsBy_68 : decode cX7_bringsBy 68 = .ok (.iload_n 3, 1) := by decide +kernel
theorem dX7_bringsBy_69 : decode cX7_bringsBy 69 = .ok (.iadd, 1) := by decide +kernel
theorem dX7_bringsBy_70 : decode cX7_bringsBy 70 = .ok (.putfield 198, 3) := by decide +kernel
theorem dX7_bringsBy_73 : decode cX7_bringsBy 73 = .ok (.iinc 2 1, 3) := by decide +kernel
theorem dX7_bringsBy_76 : decode cX7_bringsBy 76 = .ok (.goto (-64), 3) := by decide +kernel
theorem dX7_bringsBy_79 : decode cX7_bringsBy 79 = .ok (.aload_n 0, 1) := by decide +kernel
theorem dX7_bringsBy_80 : decode cX7_bringsBy 80 = .ok (.getfield 198, 3) := by decide +kernel
theorem dX7_bringsBy_83 : decode cX7_bringsBy 83 = .ok (.bipush 100, 2) := by decide +kernel
theorem dX7_bringsBy_85 : decode cX7_bringsBy 85 = .ok (.aload_n 0, 1) := by decide +kernel
theorem dX7_bringsBy_86 : decode cX7_bringsBy 86 = .ok (.iload_n 1, 1) := by decide +kernel
theorem dX7_bringsBy_87 : decode cX7_bringsBy 87 = .ok (.bipush 8, 2) := by decide +kernel
theorem dX7_bringsBy_89 : decode cX7_bringsBy 89 = .ok (.invokevirtual 142, 3) := by decide +kernel
theorem dX7_bringsBy_92 : decode cX7_bringsBy 92 = .ok (.isub, 1) := by decide +kernel
theorem dX7_bringsBy_93 : decode cX7_bringsBy 93 = .ok (.imul, 1) := by decide +kernel
theorem dX7_bringsBy_94 : decode cX7_bringsBy 94 = .ok (.ireturn, 1) := by decide +kernel
theorem dX7_netBy_0 : decode cX7_netBy 0 = .ok (.aload_n 0, 1) := by decide +kernel
theorem dX7_netBy_1 : decode cX7_netBy 1 = .ok (.iload_n 1, 1) := by decide +kernel
theorem dX7_netBy_2 : decode cX7_netBy 2 = .ok (.invokevirtual 201, 3) := by decide +kernel
theorem dX7_netBy_5 : decode cX7_netBy 5 = .ok (.istore_n 2, 1) := by decide +kernel
theorem dX7_netBy_6 : decode cX7_netBy 6 = .ok (.aload_n 0, 1) := by decide +kernel
theorem dX7_netBy_7 : decode cX7_netBy 7 = .ok (.getfield 198, 3) := by decide +kernel
theorem dX7_netBy_10 : decode cX7_netBy 10 = .ok (.aload_n 0, 1) := by decide +kernel
theorem dX7_netBy_11 : decode cX7_netBy 11 = .ok (.iload_n 1, 1) := by decide +kernel
theorem dX7_netBy_12 : decode cX7_netBy 12 = .ok (.bipush 6, 2) := by decide +kernel
theorem dX7_netBy_14 : decode cX7_netBy 14 = .ok (.invokevirtual 142, 3) := by decide +kernel
theorem dX7_netBy_17 : decode cX7_netBy 17 = .ok (.aload_n 0, 1) := by decide +kernel
theorem dX7_netBy_18 : decode cX7_netBy 18 = .ok (.iload_n 1, 1) := by decide +kernel
theorem dX7_netBy_19 : decode cX7_netBy 19 = .ok (.bipush 7, 2) := by decide +kernel
theorem dX7_netBy_21 : decode cX7_netBy 21 = .ok (.invokevirtual 142, 3) := by decide +kernel
theorem dX7_netBy_24 : decode cX7_netBy 24 = .ok (.iconst 1, 1) := by decide +kernel
theorem dX7_netBy_25 : decode cX7_netBy 25 = .ok (.isub, 1) := by decide +kernel
theorem dX7_netBy_26 : decode cX7_netBy 26 = .ok (.imul, 1) := by decide +kernel
theorem dX7_netBy_27 : decode cX7_netBy 27 = .ok (.invokestatic 160, 3) := by decide +kernel
theorem dX7_netBy_30 : decode cX7_netBy 30 = .ok (.istore_n 3, 1) := by decide +kernel
theorem dX7_netBy_31 : decode cX7_netBy 31 = .ok (.iload_n 2, 1) := by decide +kernel
theorem dX7_netBy_32 : decode cX7_netBy 32 = .ok (.aload_n 0, 1) := by decide +kernel
theorem dX7_netBy_33 : decode cX7_netBy 33 = .ok (.iload_n 1, 1) := by decide +kernel
theorem dX7_netBy_34 : decode cX7_netBy 34 = .ok (.bipush 6, 2) := by decide +kernel
theorem dX7_netBy_36 : decode cX7_netBy 36 = .ok (.invokevirtual 142, 3) := by decide +kernel
theorem dX7_netBy_39 : decode cX7_netBy 39 = .ok (.imul, 1) := by decide +kernel
theorem dX7_netBy_40 : decode cX7_netBy 40 = .ok (.bipush 100, 2) := by decide +kernel
theorem dX7_netBy_42 : decode cX7_netBy 42 = .ok (.aload_n 0, 1) := by decide +kernel
theorem dX7_netBy_43 : decode cX7_netBy 43 = .ok (.iload_n 1, 1) := by decide +kernel
theorem dX7_netBy_44 : decode cX7_netBy 44 = .ok (.bipush 9, 2) := by decide +kernel
theorem dX7_netBy_46 : decode cX7_netBy 46 = .ok (.invokevirtual 142, 3) := by decide +kernel
theorem dX7_netBy_49 : decode cX7_netBy 49 = .ok (.imul, 1) := by decide +kernel
theorem dX7_netBy_50 : decode cX7_netBy 50 = .ok (.iload_n 3, 1) := by decide +kernel
theorem dX7_netBy_51 : decode cX7_netBy 51 = .ok (.imul, 1) := by decide +kernel
theorem dX7_netBy_52 : decode cX7_netBy 52 = .ok (.isub, 1) := by decide +kernel
theorem dX7_netBy_53 : decode cX7_netBy 53 = .ok (.ireturn, 1) := by decide +kernel
theorem dX7_put__0 : decode cX7_put_ 0 = .ok (.aload_n 0, 1) := by decide +kernel
theorem dX7_put__1 : decode cX7_put_ 1 = .ok (.iconst 0, 1) := by decide +kernel
theorem dX7_put__2 : decode cX7_put_ 2 = .ok (.putfield 68, 3) := by decide +kernel
theorem dX7_put__5 : decode cX7_put_ 5 = .ok (.aload_n 0, 1) := by decide +kernel
theorem dX7_put__6 : decode cX7_put_ 6 = .ok (.iload_n 1, 1) := by decide +kernel
theorem dX7_put__7 : decode cX7_put_ 7 = .ok (.invokevirtual 149, 3) := by decide +kernel
theorem dX7_put__10 : decode cX7_put_ 10 = .ok (.ifCond .eq 13, 3) := by decide +kernel
theorem dX7_put__13 : decode cX7_put_ 13 = .ok (.iload_n 2, 1) := by decide +kernel
theorem dX7_put__14 : decode cX7_put_ 14 = .ok (.iconst 0, 1) := by decide +kernel
theorem dX7_put__15 : decode cX7_put_ 15 = .ok (.bipush 15, 2) := by decide +kernel
theorem dX7_put__17 : decode cX7_put_ 17 = .ok (.invokestatic 107, 3) := by decide +kernel
theorem dX7_put__20 : decode cX7_put_ 20 = .ok (.ifCond .ne 5, 3) := by decide +kernel
theorem dX7_put__23 : decode cX7_put_ 23 = .ok (.iconst 0, 1) := by decide +kernel
theorem dX7_put__24 : decode cX7_put_ 24 = .ok (.ireturn, 1) := by decide +kernel
theorem dX7_put__25 : decode cX7_put_ 25 = .ok (.aload_n 0, 1) := by decide +kernel
theorem dX7_put__26 : decode cX7_put_ 26 = .ok (.getfield 35, 3) := by decide +kernel
theorem dX7_put__29 : decode cX7_put_ 29 = .ok (.iload_n 1, 1) := by decide +kernel
theorem dX7_put__30 : decode cX7_put_ 30 = .ok (.iload_n 2, 1) := by decide +kernel
theorem dX7_put__31 : decode cX7_put_ 31 = .ok (.iastore, 1) := by decide +kernel
theorem dX7_put__32 : decode cX7_put_ 32 = .ok (.iconst 1, 1) := by decide +kernel
theorem dX7_put__33 : decode cX7_put_ 33 = .ok (.ireturn, 1) := by decide +kernel
theorem dX7_toldWith_0 : decode cX7_toldWith 0 = .ok (.iconst 0, 1) := by decide +kernel
theorem dX7_toldWith_1 : decode cX7_toldWith 1 = .ok (.istore_n 2, 1) := by decide +kernel
theorem dX7_toldWith_2 : decode cX7_toldWith 2 = .ok (.iconst 0, 1) := by decide +kernel
theorem dX7_toldWith_3 : decode cX7_toldWith 3 = .ok (.istore_n 3, 1) := by decide +kernel
theorem dX7_toldWith_4 : decode cX7_toldWith 4 = .ok (.iload_n 3, 1) := by decide +kernel
theorem dX7_toldWith_5 : decode cX7_toldWith 5 = .ok (.aload_n 0, 1) := by decide +kernel
theorem dX7_toldWith_6 : decode cX7_toldWith 6 = .ok (.getfield 146, 3) := by decide +kernel
theorem dX7_toldWith_9 : decode cX7_toldWith 9 = .ok (.if_icmp .ge 34, 3) := by decide +kernel
theorem dX7_toldWith_12 : decode cX7_toldWith 12 = .ok (.iload_n 2, 1) := by decide +kernel
theorem dX7_toldWith_13 : decode cX7_toldWith 13 = .ok (.aload_n 0, 1) := by decide +kernel
theorem dX7_toldWith_14 : decode cX7_toldWith 14 = .ok (.getfield 35, 3) := by decide +kernel
theorem dX7_toldWith_17 : decode cX7_toldWith 17 = .ok (.iload_n 3, 1) := by decide +kernel
theorem dX7_toldWith_18 : decode cX7_toldWith 18 = .ok (.iaload, 1) := by decide +kernel
theorem dX7_toldWith_19 : decode cX7_toldWith 19 = .ok (.aload_n 0, 1) := by decide +kernel
theorem dX7_toldWith_20 : decode cX7_toldWith 20 = .ok (.getfield 35, 3) := by decide +kernel
theorem dX7_toldWith_23 : decode cX7_toldWith 23 = .ok (.iload_n 1, 1) := by decide +kernel
theorem dX7_toldWith_24 : decode cX7_toldWith 24 = .ok (.iaload, 1) := by decide +kernel
theorem dX7_toldWith_25 : decode cX7_toldWith 25 = .ok (.if_icmp .ne 9, 3) := by decide +kernel
theorem dX7_toldWith_28 : decode cX7_toldWith 28 = .ok (.iconst 1, 1) := by decide +kernel
theorem dX7_toldWith_29 : decode cX7_toldWith 29 = .ok (.iload_n 3, 1) := by decide +kernel
theorem dX7_toldWith_30 : decode cX7_toldWith 30 = .ok (.ishl, 1) := by decide +kernel
theorem dX7_toldWith_31 : decode cX7_toldWith 31 = .ok (.goto 4, 3) := by decide +kernel
theorem dX7_toldWith_34 : decode cX7_toldWith 34 = .ok (.iconst 0, 1) := by decide +kernel
theorem dX7_toldWith_35 : decode cX7_toldWith 35 = .ok (.ior, 1) := by decide +kernel
theorem dX7_toldWith_36 : decode cX7_toldWith 36 = .ok (.istore_n 2, 1) := by decide +kernel
theorem dX7_toldWith_37 : decode cX7_toldWith 37 = .ok (.iinc 3 1, 3) := by decide +kernel
theorem dX7_toldWith_40 : decode cX7_toldWith 40 = .ok (.goto (-36), 3) := by decide +kernel
theorem dX7_toldWith_43 : decode cX7_toldWith 43 = .ok (.iload_n 2, 1) := by decide +kernel
theorem dX7_toldWith_44 : decode cX7_toldWith 44 = .ok (.ireturn, 1) := by decide +kernel
theorem dX7_bars_0 : decode cX7_bars 0 = .ok (.aload_n 0, 1) := by decide +kernel
theorem dX7_bars_1 : decode cX7_bars 1 = .ok (.getfield 35, 3) := by decide +kernel
theorem dX7_bars_4 : decode cX7_bars 4 = .ok (.iload_n 2, 1) := by decide +kernel
theorem dX7_bars_5 : decode cX7_bars 5 = .ok (.iaload, 1) := by decide +kernel
theorem dX7_bars_6 : decode cX7_bars 6 = .ok (.aload_n 0, 1) := by decide +kernel
theorem dX7_bars_7 : decode cX7_bars 7 = .ok (.getfield 35, 3) := by decide +kernel
theorem dX7_bars_10 : decode cX7_bars 10 = .ok (.iload_n 3, 1) := by decide +kernel
theorem dX7_bars_11 : decode cX7_bars 11 = .ok (.iaload, 1) := by decide +kernel
theorem dX7_bars_12 : decode cX7_bars 12 = .ok (.if_icmp .ne 26, 3) := by decide +kernel
theorem dX7_bars_15 : decode cX7_bars 15 = .ok (.aload_n 0, 1) := by decide +kernel
theorem dX7_bars_16 : decode cX7_bars 16 = .ok (.iload_n 1, 1) := by decide +kernel
theorem dX7_bars_17 : decode cX7_bars 17 = .ok (.iconst 1, 1) := by decide +kernel
theorem dX7_bars_18 : decode cX7_bars 18 = .ok (.iload_n 2, 1) := by decide +kernel
theorem dX7_bars_19 : decode cX7_bars 19 = .ok (.ishl, 1) := by decide +kernel
theorem dX7_bars_20 : decode cX7_bars 20 = .ok (.iconst 1, 1) := by decide +kernel
theorem dX7_bars_21 : decode cX7_bars 21 = .ok (.iload_n 3, 1) := by decide +kernel
theorem dX7_bars_22 : decode cX7_bars 22 = .ok (.ishl, 1) := by decide +kernel
theorem dX7_bars_23 : decode cX7_bars 23 = .ok (.ior, 1) := by decide +kernel
theorem dX7_bars_24 : decode cX7_bars 24 = .ok (.invokevirtual 175, 3) := by decide +kernel
theorem dX7_bars_27 : decode cX7_bars 27 = .ok (.ifCond .ne 7, 3) := by decide +kernel
theorem dX7_bars_30 : decode cX7_bars 30 = .ok (.iconst 1, 1) := by decide +kernel
theorem dX7_bars_31 : decode cX7_bars 31 = .ok (.goto 30, 3) := by decide +kernel
theorem dX7_bars_34 : decode cX7_bars 34 = .ok (.iconst 0, 1) := by decide +kernel
theorem dX7_bars_35 : decode cX7_bars 35 = .ok (.goto 26, 3) := by decide +kernel
theorem dX7_bars_38 : decode cX7_bars 38 = .ok (.aload_n 0, 1) := by decide +kernel
theorem dX7_bars_39 : decode cX7_bars 39 = .ok (.iload_n 1, 1) := by decide +kernel
theorem dX7_bars_40 : decode cX7_bars 40 = .ok (.aload_n 0, 1) := by decide +kernel
theorem dX7_bars_41 : decode cX7_bars 41 = .ok (.iload_n 2, 1) := by decide +kernel
theorem dX7_bars_42 : decode cX7_bars 42 = .ok (.invokevirtual 204, 3) := by decide +kernel
theorem dX7_bars_45 : decode cX7_bars 45 = .ok (.aload_n 0, 1) := by decide +kernel
theorem dX7_bars_46 : decode cX7_bars 46 = .ok (.iload_n 3, 1) := by decide +kernel
theorem dX7_bars_47 : decode cX7_bars 47 = .ok (.invokevirtual 204, 3) := by decide +kernel
theorem dX7_bars_50 : decode cX7_bars 50 = .ok (.invokevirtual 207, 3) := by decide +kernel
theorem dX7_bars_53 : decode cX7_bars 53 = .ok (.ifCond .ne 7, 3) := by decide +kernel
theorem dX7_bars_56 : decode cX7_bars 56 = .ok (.iconst 1, 1) := by decide +kernel
theorem dX7_bars_57 : decode cX7_bars 57 = .ok (.goto 4, 3) := by decide +kernel
theorem dX7_bars_60 : decode cX7_bars 60 = .ok (.iconst 0, 1) := by decide +kernel
theorem dX7_bars_61 : decode cX7_bars 61 = .ok (.ireturn, 1) := by decide +kernel
theorem dX7_judged_0 : decode cX7_judged 0 = .ok (.iconst 0, 1) := by decide +kernel
theorem dX7_judged_1 : decode cX7_judged 1 = .ok (.istore_n 2, 1) := by decide +kernel
theorem dX7_judged_2 : decode cX7_judged 2 = .ok (.iload_n 2, 1) := by decide +kernel
theorem dX7_judged_3 : decode cX7_judged 3 = .ok (.aload_n 0, 1) := by decide +kernel
theorem dX7_judged_4 : decode cX7_judged 4 = .ok (.getfield 146, 3) := by decide +kernel
theorem dX7_judged_7 : decode cX7_judged 7 = .ok (.if_icmp .ge 44, 3) := by decide +kernel
theorem dX7_judged_10 : decode cX7_judged 10 = .ok (.iload_n 2, 1) := by decide +kernel
theorem dX7_judged_11 : decode cX7_judged 11 = .ok (.iconst 1, 1) := by decide +kernel
theorem dX7_judged_12 : decode cX7_judged 12 = .ok (.iadd, 1) := by decide +kernel
theorem dX7_judged_13 : decode cX7_judged 13 = .ok (.istore_n 3, 1) := by decide +kernel
theorem dX7_judged_14 : decode cX7_judged 14 = .ok (.iload_n 3, 1) := by decide +kernel
theorem dX7_judged_15 : decode cX7_judged 15 = .ok (.aload_n 0, 1) := by decide +kernel
theorem dX7_judged_16 : decode cX7_judged 16 = .ok (.getfield 146, 3) := by decide +kernel
theorem dX7_judged_19 : decode cX7_judged 19 = .ok (.if_icmp .ge 26, 3) := by decide +kernel
theorem dX7_judged_22 : decode cX7_judged 22 = .ok (.aload_n 0, 1) := by decide +kernel
theorem dX7_judged_23 : decode cX7_judged 23 = .ok (.iload_n 1, 1) := by decide +kernel
theorem dX7_judged_24 : decode cX7_judged 24 = .ok (.iload_n 2, 1) := by decide +kernel
theorem dX7_judged_25 : decode cX7_judged 25 = .ok (.iload_n 3, 1) := by decide +kernel
theorem dX7_judged_26 : decode cX7_judged 26 = .ok (.invokevirtual 210, 3) := by decide +kernel
theorem dX7_judged_29 : decode cX7_judged 29 = .ok (.ifCond .eq 10, 3) := by decide +kernel
theorem dX7_judged_32 : decode cX7_judged 32 = .ok (.bipush 16, 2) := by decide +kernel
theorem dX7_judged_34 : decode cX7_judged 34 = .ok (.iload_n 2, 1) := by decide +kernel
theorem dX7_judged_35 : decode cX7_judged 35 = .ok (.imul, 1) := by decide +kernel
theorem dX7_judged_36 : decode cX7_judged 36 = .ok (.iload_n 3, 1) := by decide +kernel
theorem dX7_judged_37 : decode cX7_judged 37 = .ok (.iadd, 1) := by decide +kernel
theorem dX7_judged_38 : decode cX7_judged 38 = .ok (.ireturn, 1) := by decide +kernel
theorem dX7_judged_39 : decode cX7_judged 39 = .ok (.iinc 3 1, 3) := by decide +kernel
theorem dX7_judged_42 : decode cX7_judged 42 = .ok (.goto (-28), 3) := by decide +kernel
theorem dX7_judged_45 : decode cX7_judged 45 = .ok (.iinc 2 1, 3) := by decide +kernel
theorem dX7_judged_48 : decode cX7_judged 48 = .ok (.goto (-46), 3) := by decide +kernel
theorem dX7_judged_51 : decode cX7_judged 51 = .ok (.iconst 0, 1) := by decide +kernel
theorem dX7_judged_52 : decode cX7_judged 52 = .ok (.istore_n 2, 1) := by decide +kernel
theorem dX7_judged_53 : decode cX7_judged 53 = .ok (.iload_n 2, 1) := by decide +kernel
theorem dX7_judged_54 : decode cX7_judged 54 = .ok (.aload_n 0, 1) := by decide +kernel
theorem dX7_judged_55 : decode cX7_judged 55 = .ok (.getfield 146, 3) := by decide +kernel
theorem dX7_judged_58 : decode cX7_judged 58 = .ok (.if_icmp .ge 53, 3) := by decide +kernel
theorem dX7_judged_61 : decode cX7_judged 61 = .ok (.aload_n 0, 1) := by decide +kernel
theorem dX7_judged_62 : decode cX7_judged 62 = .ok (.iload_n 2, 1) := by decide +kernel
theorem dX7_judged_63 : decode cX7_judged 63 = .ok (.invokevirtual 204, 3) := by decide +kernel
theorem dX7_judged_66 : decode cX7_judged 66 = .ok (.istore_n 3, 1) := by decide +kernel
theorem dX7_judged_67 : decode cX7_judged 67 = .ok (.iload_n 3, 1) := by decide +kernel
theorem dX7_judged_68 : decode cX7_judged 68 = .ok (.invokestatic 187, 3) := by decide +kernel
theorem dX7_judged_71 : decode cX7_judged 71 = .ok (.iload_n 2, 1) := by decide +kernel
theorem dX7_judged_72 : decode cX7_judged 72 = .ok (.if_icmp .ne 33, 3) := by decide +kernel
theorem dX7_judged_75 : decode cX7_judged 75 = .ok (.aload_n 0, 1) := by decide +kernel
theorem dX7_judged_76 : decode cX7_judged 76 = .ok (.iload_n 1, 1) := by decide +kernel
theorem dX7_judged_77 : decode cX7_judged 77 = .ok (.iload_n 3, 1) := by decide +kernel
theorem dX7_judged_78 : decode cX7_judged 78 = .ok (.invokevirtual 175, 3) := by decide +kernel
theorem dX7_judged_81 : decode cX7_judged 81 = .ok (.ifCond .eq 6, 3) := by decide +kernel
theorem dX7_judged_84 : decode cX7_judged 84 = .ok (.goto 21, 3) := by decide +kernel
theorem dX7_judged_87 : decode cX7_judged 87 = .ok (.iload_n 3, 1) := by decide +kernel
theorem dX7_judged_88 : decode cX7_judged 88 = .ok (.iload_n 3, 1) := by decide +kernel
theorem dX7_judged_89 : decode cX7_judged 89 = .ok (.iconst 1, 1) := by decide +kernel
theorem dX7_judged_90 : decode cX7_judged 90 = .ok (.isub, 1) := by decide +kernel
theorem dX7_judged_91 : decode cX7_judged 91 = .ok (.iand, 1) := by decide +kernel
theorem dX7_judged_92 : decode cX7_judged 92 = .ok (.istore 4, 2) := by decide +kernel
theorem dX7_judged_94 : decode cX7_judged 94 = .ok (.bipush 16, 2) := by decide +kernel
theorem dX7_judged_96 : decode cX7_judged 96 = .ok (.iload_n 2, 1) := by decide +kernel
theorem dX7_judged_97 : decode cX7_judged 97 = .ok (.imul, 1) := by decide +kernel
theorem dX7_judged_98 : decode cX7_judged 98 = .ok (.iload 4, 2) := by decide +kernel
theorem dX7_judged_100 : decode cX7_judged 100 = .ok (.invokestatic 187, 3) := by decide +kernel
theorem dX7_judged_103 : decode cX7_judged 103 = .ok (.iadd, 1) := by decide +kernel
theorem dX7_judged_104 : decode cX7_judged 104 = .ok (.ireturn, 1) := by decide +kernel
theorem dX7_judged_105 : decode cX7_judged 105 = .ok (.iinc 2 1, 3) := by decide +kernel
theorem dX7_judged_108 : decode cX7_judged 108 = .ok (.goto (-55), 3) := by decide +kernel
theorem dX7_judged_111 : decode cX7_judged 111 = .ok (.iconst (-1), 1) := by decide +kernel
theorem dX7_judged_112 : decode cX7_judged 112 = .ok (.ireturn, 1) := by decide +kernel
theorem dX7_judge_0 : decode cX7_judge 0 = .ok (.aload_n 0, 1) := by decide +kernel
theorem dX7_judge_1 : decode cX7_judge 1 = .ok (.iconst 0, 1) := by decide +kernel
theorem dX7_judge_2 : decode cX7_judge 2 = .ok (.putfield 68, 3) := by decide +kernel
theorem dX7_judge_5 : decode cX7_judge 5 = .ok (.aload_n 0, 1) := by decide +kernel
theorem dX7_judge_6 : decode cX7_judge 6 = .ok (.iload_n 1, 1) := by decide +kernel
theorem dX7_judge_7 : decode cX7_judge 7 = .ok (.invokevirtual 139, 3) := by decide +kernel
theorem dX7_judge_10 : decode cX7_judge 10 = .ok (.ifCond .eq 11, 3) := by decide +kernel
theorem dX7_judge_13 : decode cX7_judge 13 = .ok (.aload_n 0, 1) := by decide +kernel
theorem dX7_judge_14 : decode cX7_judge 14 = .ok (.iload_n 1, 1) := by decide +kernel
theorem dX7_judge_15 : decode cX7_judge 15 = .ok (.invokevirtual 213, 3) := by decide +kernel
theorem dX7_judge_18 : decode cX7_judge 18 = .ok (.goto 4, 3) := by decide +kernel
theorem dX7_judge_21 : decode cX7_judge 21 = .ok (.iconst (-1), 1) := by decide +kernel
theorem dX7_judge_22 : decode cX7_judge 22 = .ok (.ireturn, 1) := by decide +kernel
theorem dX7_brings_0 : decode cX7_brings 0 = .ok (.aload_n 0, 1) := by decide +kernel
theorem dX7_brings_1 : decode cX7_brings 1 = .ok (.iconst 0, 1) := by decide +kernel
theorem dX7_brings_2 : decode cX7_brings 2 = .ok (.putfield 68, 3) := by decide +kernel
theorem dX7_brings_5 : decode cX7_brings 5 = .ok (.aload_n 0, 1) := by decide +kernel
theorem dX7_brings_6 : decode cX7_brings 6 = .ok (.iload_n 1, 1) := by decide +kernel
theorem dX7_brings_7 : decode cX7_brings 7 = .ok (.invokevirtual 139, 3) := by decide +kernel
theorem dX7_brings_10 : decode cX7_brings 10 = .ok (.ifCond .eq 21, 3) := by decide +kernel
theorem dX7_brings_13 : decode cX7_brings 13 = .ok (.iload_n 2, 1) := by decide +kernel
theorem dX7_brings_14 : decode cX7_brings 14 = .ok (.iconst 0, 1) := by decide +kernel
theorem dX7_brings_15 : decode cX7_brings 15 = .ok (.iconst 3, 1) := by decide +kernel
theorem dX7_brings_16 : decode cX7_brings 16 = .ok (.invokestatic 107, 3) := by decide +kernel
theorem dX7_brings_19 : decode cX7_brings 19 = .ok (.ifCond .eq 12, 3) := by decide +kernel
theorem dX7_brings_22 : decode cX7_brings 22 = .ok (.aload_n 0, 1) := by decide +kernel
theorem dX7_brings_23 : decode cX7_brings 23 = .ok (.iload_n 1, 1) := by decide +kernel
theorem dX7_brings_24 : decode cX7_brings 24 = .ok (.invokevirtual 213, 3) := by decide +kernel
theorem dX7_brings_27 : decode cX7_brings 27 = .ok (.iconst (-1), 1) := by decide +kernel
theorem dX7_brings_28 : decode cX7_brings 28 = .ok (.if_icmp .eq 6, 3) := by decide +kernel
theorem dX7_brings_31 : decode cX7_brings 31 = .ok (.ldc 216, 2) := by decide +kernel
theorem dX7_brings_33 : decode cX7_brings 33 = .ok (.ireturn, 1) := by decide +kernel
theorem dX7_brings_34 : decode cX7_brings 34 = .ok (.aload_n 0, 1) := by decide +kernel
theorem dX7_brings_35 : decode cX7_brings 35 = .ok (.iconst 0, 1) := by decide +kernel
theorem dX7_brings_36 : decode cX7_brings 36 = .ok (.putfield 184, 3) := by decide +kernel
theorem dX7_brings_39 : decode cX7_brings 39 = .ok (.iconst 0, 1) := by decide +kernel
theorem dX7_brings_40 : decode cX7_brings 40 = .ok (.istore_n 3, 1) := by decide +kernel
theorem dX7_brings_41 : decode cX7_brings 41 = .ok (.iload_n 3, 1) := by decide +kernel
theorem dX7_brings_42 : decode cX7_brings 42 = .ok (.aload_n 0, 1) := by decide +kernel
theorem dX7_brings_43 : decode cX7_brings 43 = .ok (.getfield 146, 3) := by decide +kernel
theorem dX7_brings_46 : decode cX7_brings 46 = .ok (.if_icmp .ge 49, 3) := by decide +kernel
theorem dX7_brings_49 : decode cX7_brings 49 = .ok (.aload_n 0, 1) := by decide +kernel
theorem dX7_brings_50 : decode cX7_brings 50 = .ok (.iload_n 3, 1) := by decide +kernel
theorem dX7_brings_51 : decode cX7_brings 51 = .ok (.invokevirtual 204, 3) := by decide +kernel
theorem dX7_brings_54 : decode cX7_brings 54 = .ok (.istore 4, 2) := by decide +kernel
theorem dX7_brings_56 : decode cX7_brings 56 = .ok (.iload 4, 2) := by decide +kernel
theorem dX7_brings_58 : decode cX7_brings 58 = .ok (.invokestatic 187, 3) := by decide +kernel
theorem dX7_brings_61 : decode cX7_brings 61 = .ok (.iload_n 3, 1) := by decide +kernel
theorem dX7_brings_62 : decode cX7_brings 62 = .ok (.if_icmp .eq 6, 3) := by decide +kernel
theorem dX7_brings_65 : decode cX7_brings 65 = .ok (.goto 24, 3) := by decide +kernel
theorem dX7_brings_68 : decode cX7_brings 68 = .ok (.aload_n 0, 1) := by decide +kernel
theorem dX7_brings_69 : decode cX7_brings 69 = .ok (.getfield 38, 3) := by decide +kernel
theorem dX7_brings_72 : decode cX7_brings 72 = .ok (.aload_n 0, 1) := by decide +kernel
theorem dX7_brings_73 : decode cX7_brings 73 = .ok (.getfield 184, 3) := by decide +kernel
theorem dX7_brings_76 : decode cX7_brings 76 = .ok (.iload 4, 2) := by decide +kernel
theorem dX7_brings_78 : decode cX7_brings 78 = .ok (.iastore, 1) := by decide +kernel
theorem dX7_brings_79 : decode cX7_brings 79 = .ok (.aload_n 0, 1) := by decide +kernel
theorem dX7_brings_80 : decode cX7_brings 80 = .ok (.dup, 1) := by decide +kernel
theorem dX7_brings_81 : decode cX7_brings 81 = .ok (.getfield 184, 3) := by decide +kernel
theorem dX7_brings_84 : decode cX7_brings 84 = .ok (.iconst 1, 1) := by decide +kernel
theorem dX7_brings_85 : decode cX7_brings 85 = .ok (.iadd, 1) := by decide +kernel
theorem dX7_brings_86 : decode cX7_brings 86 = .ok (.putfield 184, 3) := by decide +kernel
theorem dX7_brings_89 : decode cX7_brings 89 = .ok (.iinc 3 1, 3) := by decide +kernel
theorem dX7_brings_92 : decode cX7_brings 92 = .ok (.goto (-51), 3) := by decide +kernel
theorem dX7_brings_95 : decode cX7_brings 95 = .ok (.aload_n 0, 1) := by decide +kernel
theorem dX7_brings_96 : decode cX7_brings 96 = .ok (.invokevirtual 217, 3) := by decide +kernel
theorem dX7_brings_99 : decode cX7_brings 99 = .ok (.aload_n 0, 1) := by decide +kernel
theorem dX7_brings_100 : decode cX7_brings 100 = .ok (.iload_n 1, 1) := by decide +kernel
theorem dX7_brings_101 : decode cX7_brings 101 = .ok (.invokevirtual 201, 3) := by decide +kernel
theorem dX7_brings_104 : decode cX7_brings 104 = .ok (.istore_n 3, 1) := by decide +kernel
theorem dX7_brings_105 : decode cX7_brings 105 = .ok (.iload_n 2, 1) := by decide +kernel
theorem dX7_brings_106 : decode cX7_brings 106 = .ok (.ifCond .ne 7, 3) := by decide +kernel
theorem dX7_brings_109 : decode cX7_brings 109 = .ok (.iload_n 3, 1) := by decide +kernel
theorem dX7_brings_110 : decode cX7_brings 110 = .ok (.goto 32, 3) := by decide +kernel
theorem dX7_brings_113 : decode cX7_brings 113 = .ok (.iload_n 2, 1) := by decide +kernel
theorem dX7_brings_114 : decode cX7_brings 114 = .ok (.iconst 1, 1) := by decide +kernel
theorem dX7_brings_115 : decode cX7_brings 115 = .ok (.if_icmp .ne 11, 3) := by decide +kernel
theorem dX7_brings_118 : decode cX7_brings 118 = .ok (.aload_n 0, 1) := by decide +kernel
theorem dX7_brings_119 : decode cX7_brings 119 = .ok (.iload_n 1, 1) := by decide +kernel
theorem dX7_brings_120 : decode cX7_brings 120 = .ok (.invokevirtual 220, 3) := by decide +kernel
theorem dX7_brings_123 : decode cX7_brings 123 = .ok (.goto 19, 3) := by decide +kernel
theorem dX7_brings_126 : decode cX7_brings 126 = .ok (.iload_n 2, 1) := by decide +kernel
theorem dX7_brings_127 : decode cX7_brings 127 = .ok (.iconst 2, 1) := by decide +kernel
theorem dX7_brings_128 : decode cX7_brings 128 = .ok (.if_icmp .ne 10, 3) := by decide +kernel
theorem dX7_brings_131 : decode cX7_brings 131 = .ok (.aload_n 0, 1) := by decide +kernel
theorem dX7_brings_132 : decode cX7_brings 132 = .ok (.getfield 184, 3) := by decide +kernel
theorem dX7_brings_135 : decode cX7_brings 135 = .ok (.goto 7, 3) := by decide +kernel
theorem dX7_brings_138 : decode cX7_brings 138 = .ok (.aload_n 0, 1) := by decide +kernel
theorem dX7_brings_139 : decode cX7_brings 139 = .ok (.getfield 195, 3) := by decide +kernel
theorem dX7_brings_142 : decode cX7_brings 142 = .ok (.ireturn, 1) := by decide +kernel
theorem dX7_year_0 : decode cX7_year 0 = .ok (.aload_n 0, 1) := by decide +kernel
theorem dX7_year_1 : decode cX7_year 1 = .ok (.iconst 0, 1) := by decide +kernel
theorem dX7_year_2 : decode cX7_year 2 = .ok (.putfield 68, 3) := by decide +kernel
theorem dX7_year_5 : decode cX7_year 5 = .ok (.aload_n 0, 1) := by decide +kernel
theorem dX7_year_6 : decode cX7_year 6 = .ok (.iload_n 1, 1) := by decide +kernel
theorem dX7_year_7 : decode cX7_year 7 = .ok (.invokevirtual 149, 3) := by decide +kernel
theorem dX7_year_10 : decode cX7_year 10 = .ok (.ifCond .eq 14, 3) := by decide +kernel
theorem dX7_year_13 : decode cX7_year 13 = .ok (.iload_n 2, 1) := by decide +kernel
theorem dX7_year_14 : decode cX7_year 14 = .ok (.iconst 0, 1) := by decide +kernel
theorem dX7_year_15 : decode cX7_year 15 = .ok (.sipush 999, 3) := by decide +kernel
theorem dX7_year_18 : decode cX7_year 18 = .ok (.invokestatic 107, 3) := by decide +kernel
theorem dX7_year_21 : decode cX7_year 21 = .ok (.ifCond .ne 5, 3) := by decide +kernel
theorem dX7_year_24 : decode cX7_year 24 = .ok (.iconst (-1), 1) := by decide +kernel
theorem dX7_year_25 : decode cX7_year 25 = .ok (.ireturn, 1) := by decide +kernel
theorem dX7_year_26 : decode cX7_year 26 = .ok (.aload_n 0, 1) := by decide +kernel
theorem dX7_year_27 : decode cX7_year 27 = .ok (.iload_n 1, 1) := by decide +kernel
theorem dX7_year_28 : decode cX7_year 28 = .ok (.invokevirtual 204, 3) := by decide +kernel
theorem dX7_year_31 : decode cX7_year 31 = .ok (.istore 4, 2) := by decide +kernel
theorem dX7_year_33 : decode cX7_year 33 = .ok (.iload_n 3, 1) := by decide +kernel
theorem dX7_year_34 : decode cX7_year 34 = .ok (.ifCond .ne 19, 3) := by decide +kernel
end
section
theorem dX7_year_37 : decode cX7_year 37 = .ok (.aload_n 0, 1) := by decide +kernel
theorem dX7_year_38 : decode cX7_year 38 = .ok (.iload 4, 2) := by decide +kernel
theorem dX7_year_40 : decode cX7_year 40 = .ok (.invokevirtual 166, 3) := by decide +kernel
theorem dX7_year_43 : decode cX7_year 43 = .ok (.iload_n 2, 1) := by decide +kernel
theorem dX7_year_44 : decode cX7_year 44 = .ok (.if_icmp .ge 7, 3) := by decide +kernel
theorem dX7_year_47 : decode cX7_year 47 = .ok (.iconst 0, 1) := by decide +kernel
theorem dX7_year_48 : decode cX7_year 48 = .ok (.goto 4, 3) := by decide +kernel
theorem dX7_year_51 : decode cX7_year 51 = .ok (.iconst 1, 1) := by decide +kernel
theorem dX7_year_52 : decode cX7_year 52 = .ok (.ireturn, 1) := by decide +kernel
theorem dX7_year_53 : decode cX7_year 53 = .ok (.iconst 0, 1) := by decide +kernel
theorem dX7_year_54 : decode cX7_year 54 = .ok (.istore 5, 2) := by decide +kernel
theorem dX7_year_56 : decode cX7_year 56 = .ok (.iconst 0, 1) := by decide +kernel
theorem dX7_year_57 : decode cX7_year 57 = .ok (.istore 6, 2) := by decide +kernel
theorem dX7_year_59 : decode cX7_year 59 = .ok (.iload 6, 2) := by decide +kernel
theorem dX7_year_61 : decode cX7_year 61 = .ok (.aload_n 0, 1) := by decide +kernel
theorem dX7_year_62 : decode cX7_year 62 = .ok (.getfield 146, 3) := by decide +kernel
theorem dX7_year_65 : decode cX7_year 65 = .ok (.if_icmp .ge 46, 3) := by decide +kernel
theorem dX7_year_68 : decode cX7_year 68 = .ok (.iload 5, 2) := by decide +kernel
theorem dX7_year_70 : decode cX7_year 70 = .ok (.iload 4, 2) := by decide +kernel
theorem dX7_year_72 : decode cX7_year 72 = .ok (.iload 6, 2) := by decide +kernel
theorem dX7_year_74 : decode cX7_year 74 = .ok (.invokestatic 157, 3) := by decide +kernel
theorem dX7_year_77 : decode cX7_year 77 = .ok (.ifCond .eq 24, 3) := by decide +kernel
theorem dX7_year_80 : decode cX7_year 80 = .ok (.aload_n 0, 1) := by decide +kernel
theorem dX7_year_81 : decode cX7_year 81 = .ok (.getfield 20, 3) := by decide +kernel
theorem dX7_year_84 : decode cX7_year 84 = .ok (.iload 6, 2) := by decide +kernel
theorem dX7_year_86 : decode cX7_year 86 = .ok (.iaload, 1) := by decide +kernel
theorem dX7_year_87 : decode cX7_year 87 = .ok (.iload_n 2, 1) := by decide +kernel
theorem dX7_year_88 : decode cX7_year 88 = .ok (.if_icmp .ge 13, 3) := by decide +kernel
theorem dX7_year_91 : decode cX7_year 91 = .ok (.aload_n 0, 1) := by decide +kernel
theorem dX7_year_92 : decode cX7_year 92 = .ok (.getfield 17, 3) := by decide +kernel
theorem dX7_year_95 : decode cX7_year 95 = .ok (.iload 6, 2) := by decide +kernel
theorem dX7_year_97 : decode cX7_year 97 = .ok (.iaload, 1) := by decide +kernel
theorem dX7_year_98 : decode cX7_year 98 = .ok (.goto 4, 3) := by decide +kernel
theorem dX7_year_101 : decode cX7_year 101 = .ok (.iconst 0, 1) := by decide +kernel
theorem dX7_year_102 : decode cX7_year 102 = .ok (.iadd, 1) := by decide +kernel
theorem dX7_year_103 : decode cX7_year 103 = .ok (.istore 5, 2) := by decide +kernel
theorem dX7_year_105 : decode cX7_year 105 = .ok (.iinc 6 1, 3) := by decide +kernel
theorem dX7_year_108 : decode cX7_year 108 = .ok (.goto (-49), 3) := by decide +kernel
theorem dX7_year_111 : decode cX7_year 111 = .ok (.iconst 2, 1) := by decide +kernel
theorem dX7_year_112 : decode cX7_year 112 = .ok (.iload 5, 2) := by decide +kernel
theorem dX7_year_114 : decode cX7_year 114 = .ok (.imul, 1) := by decide +kernel
theorem dX7_year_115 : decode cX7_year 115 = .ok (.aload_n 0, 1) := by decide +kernel
theorem dX7_year_116 : decode cX7_year 116 = .ok (.iload 4, 2) := by decide +kernel
theorem dX7_year_118 : decode cX7_year 118 = .ok (.invokevirtual 178, 3) := by decide +kernel
theorem dX7_year_121 : decode cX7_year 121 = .ok (.if_icmp .lt 7, 3) := by decide +kernel
theorem dX7_year_124 : decode cX7_year 124 = .ok (.iconst 0, 1) := by decide +kernel
theorem dX7_year_125 : decode cX7_year 125 = .ok (.goto 4, 3) := by decide +kernel
theorem dX7_year_128 : decode cX7_year 128 = .ok (.iconst 1, 1) := by decide +kernel
theorem dX7_year_129 : decode cX7_year 129 = .ok (.ireturn, 1) := by decide +kernel
theorem dX7_isTold_0 : decode cX7_isTold 0 = .ok (.iload_n 2, 1) := by decide +kernel
theorem dX7_isTold_1 : decode cX7_isTold 1 = .ok (.invokestatic 223, 3) := by decide +kernel
theorem dX7_isTold_4 : decode cX7_isTold 4 = .ok (.bipush 8, 2) := by decide +kernel
theorem dX7_isTold_6 : decode cX7_isTold 6 = .ok (.if_icmp .le 12, 3) := by decide +kernel
theorem dX7_isTold_9 : decode cX7_isTold 9 = .ok (.aload_n 0, 1) := by decide +kernel
theorem dX7_isTold_10 : decode cX7_isTold 10 = .ok (.iload_n 1, 1) := by decide +kernel
theorem dX7_isTold_11 : decode cX7_isTold 11 = .ok (.iconst 3, 1) := by decide +kernel
theorem dX7_isTold_12 : decode cX7_isTold 12 = .ok (.invokevirtual 142, 3) := by decide +kernel
theorem dX7_isTold_15 : decode cX7_isTold 15 = .ok (.ifCond .ne 7, 3) := by decide +kernel
theorem dX7_isTold_18 : decode cX7_isTold 18 = .ok (.iconst 1, 1) := by decide +kernel
theorem dX7_isTold_19 : decode cX7_isTold 19 = .ok (.goto 4, 3) := by decide +kernel
theorem dX7_isTold_22 : decode cX7_isTold 22 = .ok (.iconst 0, 1) := by decide +kernel
theorem dX7_isTold_23 : decode cX7_isTold 23 = .ok (.ireturn, 1) := by decide +kernel
theorem dX7_isAsked_0 : decode cX7_isAsked 0 = .ok (.aload_n 0, 1) := by decide +kernel
theorem dX7_isAsked_1 : decode cX7_isAsked 1 = .ok (.getfield 226, 3) := by decide +kernel
theorem dX7_isAsked_4 : decode cX7_isAsked 4 = .ok (.ifCond .eq 14, 3) := by decide +kernel
theorem dX7_isAsked_7 : decode cX7_isAsked 7 = .ok (.aload_n 0, 1) := by decide +kernel
theorem dX7_isAsked_8 : decode cX7_isAsked 8 = .ok (.getfield 230, 3) := by decide +kernel
theorem dX7_isAsked_11 : decode cX7_isAsked 11 = .ok (.iload_n 1, 1) := by decide +kernel
theorem dX7_isAsked_12 : decode cX7_isAsked 12 = .ok (.invokestatic 157, 3) := by decide +kernel
theorem dX7_isAsked_15 : decode cX7_isAsked 15 = .ok (.goto 16, 3) := by decide +kernel
theorem dX7_isAsked_18 : decode cX7_isAsked 18 = .ok (.iload_n 1, 1) := by decide +kernel
theorem dX7_isAsked_19 : decode cX7_isAsked 19 = .ok (.aload_n 0, 1) := by decide +kernel
theorem dX7_isAsked_20 : decode cX7_isAsked 20 = .ok (.getfield 230, 3) := by decide +kernel
theorem dX7_isAsked_23 : decode cX7_isAsked 23 = .ok (.if_icmp .ne 7, 3) := by decide +kernel
theorem dX7_isAsked_26 : decode cX7_isAsked 26 = .ok (.iconst 1, 1) := by decide +kernel
theorem dX7_isAsked_27 : decode cX7_isAsked 27 = .ok (.goto 4, 3) := by decide +kernel
theorem dX7_isAsked_30 : decode cX7_isAsked 30 = .ok (.iconst 0, 1) := by decide +kernel
theorem dX7_isAsked_31 : decode cX7_isAsked 31 = .ok (.ireturn, 1) := by decide +kernel
theorem dX7_layPairs_0 : decode cX7_layPairs 0 = .ok (.aload_n 0, 1) := by decide +kernel
theorem dX7_layPairs_1 : decode cX7_layPairs 1 = .ok (.iconst 0, 1) := by decide +kernel
theorem dX7_layPairs_2 : decode cX7_layPairs 2 = .ok (.putfield 233, 3) := by decide +kernel
theorem dX7_layPairs_5 : decode cX7_layPairs 5 = .ok (.iconst 0, 1) := by decide +kernel
theorem dX7_layPairs_6 : decode cX7_layPairs 6 = .ok (.istore_n 1, 1) := by decide +kernel
theorem dX7_layPairs_7 : decode cX7_layPairs 7 = .ok (.iload_n 1, 1) := by decide +kernel
theorem dX7_layPairs_8 : decode cX7_layPairs 8 = .ok (.aload_n 0, 1) := by decide +kernel
theorem dX7_layPairs_9 : decode cX7_layPairs 9 = .ok (.getfield 146, 3) := by decide +kernel
theorem dX7_layPairs_12 : decode cX7_layPairs 12 = .ok (.if_icmp .ge 19, 3) := by decide +kernel
theorem dX7_layPairs_15 : decode cX7_layPairs 15 = .ok (.aload_n 0, 1) := by decide +kernel
theorem dX7_layPairs_16 : decode cX7_layPairs 16 = .ok (.getfield 56, 3) := by decide +kernel
theorem dX7_layPairs_19 : decode cX7_layPairs 19 = .ok (.iload_n 1, 1) := by decide +kernel
theorem dX7_layPairs_20 : decode cX7_layPairs 20 = .ok (.aload_n 0, 1) := by decide +kernel
theorem dX7_layPairs_21 : decode cX7_layPairs 21 = .ok (.invokevirtual 236, 3) := by decide +kernel
theorem dX7_layPairs_24 : decode cX7_layPairs 24 = .ok (.iastore, 1) := by decide +kernel
theorem dX7_layPairs_25 : decode cX7_layPairs 25 = .ok (.iinc 1 1, 3) := by decide +kernel
theorem dX7_layPairs_28 : decode cX7_layPairs 28 = .ok (.goto (-21), 3) := by decide +kernel
theorem dX7_layPairs_31 : decode cX7_layPairs 31 = .ok (.iconst 0, 1) := by decide +kernel
theorem dX7_layPairs_32 : decode cX7_layPairs 32 = .ok (.istore_n 1, 1) := by decide +kernel
theorem dX7_layPairs_33 : decode cX7_layPairs 33 = .ok (.iload_n 1, 1) := by decide +kernel
theorem dX7_layPairs_34 : decode cX7_layPairs 34 = .ok (.aload_n 0, 1) := by decide +kernel
theorem dX7_layPairs_35 : decode cX7_layPairs 35 = .ok (.getfield 120, 3) := by decide +kernel
theorem dX7_layPairs_38 : decode cX7_layPairs 38 = .ok (.if_icmp .ge 112, 3) := by decide +kernel
theorem dX7_layPairs_41 : decode cX7_layPairs 41 = .ok (.aload_n 0, 1) := by decide +kernel
theorem dX7_layPairs_42 : decode cX7_layPairs 42 = .ok (.iload_n 1, 1) := by decide +kernel
theorem dX7_layPairs_43 : decode cX7_layPairs 43 = .ok (.invokevirtual 239, 3) := by decide +kernel
theorem dX7_layPairs_46 : decode cX7_layPairs 46 = .ok (.ifCond .ne 6, 3) := by decide +kernel
theorem dX7_layPairs_49 : decode cX7_layPairs 49 = .ok (.goto 95, 3) := by decide +kernel
theorem dX7_layPairs_52 : decode cX7_layPairs 52 = .ok (.aload_n 0, 1) := by decide +kernel
theorem dX7_layPairs_53 : decode cX7_layPairs 53 = .ok (.aload_n 0, 1) := by decide +kernel
theorem dX7_layPairs_54 : decode cX7_layPairs 54 = .ok (.getfield 233, 3) := by decide +kernel
theorem dX7_layPairs_57 : decode cX7_layPairs 57 = .ok (.ifCond .ne 13, 3) := by decide +kernel
theorem dX7_layPairs_60 : decode cX7_layPairs 60 = .ok (.aload_n 0, 1) := by decide +kernel
theorem dX7_layPairs_61 : decode cX7_layPairs 61 = .ok (.iload_n 1, 1) := by decide +kernel
theorem dX7_layPairs_62 : decode cX7_layPairs 62 = .ok (.iconst 2, 1) := by decide +kernel
theorem dX7_layPairs_63 : decode cX7_layPairs 63 = .ok (.invokevirtual 142, 3) := by decide +kernel
theorem dX7_layPairs_66 : decode cX7_layPairs 66 = .ok (.iconst 1, 1) := by decide +kernel
theorem dX7_layPairs_67 : decode cX7_layPairs 67 = .ok (.if_icmp .ne 7, 3) := by decide +kernel
theorem dX7_layPairs_70 : decode cX7_layPairs 70 = .ok (.iconst 1, 1) := by decide +kernel
theorem dX7_layPairs_71 : decode cX7_layPairs 71 = .ok (.goto 4, 3) := by decide +kernel
theorem dX7_layPairs_74 : decode cX7_layPairs 74 = .ok (.iconst 0, 1) := by decide +kernel
theorem dX7_layPairs_75 : decode cX7_layPairs 75 = .ok (.putfield 233, 3) := by decide +kernel
theorem dX7_layPairs_78 : decode cX7_layPairs 78 = .ok (.iconst 0, 1) := by decide +kernel
theorem dX7_layPairs_79 : decode cX7_layPairs 79 = .ok (.istore_n 2, 1) := by decide +kernel
theorem dX7_layPairs_80 : decode cX7_layPairs 80 = .ok (.iload_n 2, 1) := by decide +kernel
theorem dX7_layPairs_81 : decode cX7_layPairs 81 = .ok (.aload_n 0, 1) := by decide +kernel
theorem dX7_layPairs_82 : decode cX7_layPairs 82 = .ok (.getfield 146, 3) := by decide +kernel
theorem dX7_layPairs_85 : decode cX7_layPairs 85 = .ok (.if_icmp .ge 59, 3) := by decide +kernel
theorem dX7_layPairs_88 : decode cX7_layPairs 88 = .ok (.iconst 0, 1) := by decide +kernel
theorem dX7_layPairs_89 : decode cX7_layPairs 89 = .ok (.istore_n 3, 1) := by decide +kernel
theorem dX7_layPairs_90 : decode cX7_layPairs 90 = .ok (.iload_n 3, 1) := by decide +kernel
theorem dX7_layPairs_91 : decode cX7_layPairs 91 = .ok (.aload_n 0, 1) := by decide +kernel
theorem dX7_layPairs_92 : decode cX7_layPairs 92 = .ok (.getfield 146, 3) := by decide +kernel
theorem dX7_layPairs_95 : decode cX7_layPairs 95 = .ok (.if_icmp .ge 43, 3) := by decide +kernel
theorem dX7_layPairs_98 : decode cX7_layPairs 98 = .ok (.iload_n 2, 1) := by decide +kernel
theorem dX7_layPairs_99 : decode cX7_layPairs 99 = .ok (.iload_n 3, 1) := by decide +kernel
theorem dX7_layPairs_100 : decode cX7_layPairs 100 = .ok (.if_icmp .eq 32, 3) := by decide +kernel
theorem dX7_layPairs_103 : decode cX7_layPairs 103 = .ok (.aload_n 0, 1) := by decide +kernel
theorem dX7_layPairs_104 : decode cX7_layPairs 104 = .ok (.iload_n 1, 1) := by decide +kernel
theorem dX7_layPairs_105 : decode cX7_layPairs 105 = .ok (.iconst 1, 1) := by decide +kernel
theorem dX7_layPairs_106 : decode cX7_layPairs 106 = .ok (.iload_n 2, 1) := by decide +kernel
theorem dX7_layPairs_107 : decode cX7_layPairs 107 = .ok (.ishl, 1) := by decide +kernel
theorem dX7_layPairs_108 : decode cX7_layPairs 108 = .ok (.iconst 1, 1) := by decide +kernel
theorem dX7_layPairs_109 : decode cX7_layPairs 109 = .ok (.iload_n 3, 1) := by decide +kernel
theorem dX7_layPairs_110 : decode cX7_layPairs 110 = .ok (.ishl, 1) := by decide +kernel
theorem dX7_layPairs_111 : decode cX7_layPairs 111 = .ok (.ior, 1) := by decide +kernel
theorem dX7_layPairs_112 : decode cX7_layPairs 112 = .ok (.invokevirtual 175, 3) := by decide +kernel
theorem dX7_layPairs_115 : decode cX7_layPairs 115 = .ok (.ifCond .ne 17, 3) := by decide +kernel
theorem dX7_layPairs_118 : decode cX7_layPairs 118 = .ok (.aload_n 0, 1) := by decide +kernel
theorem dX7_layPairs_119 : decode cX7_layPairs 119 = .ok (.getfield 56, 3) := by decide +kernel
theorem dX7_layPairs_122 : decode cX7_layPairs 122 = .ok (.iload_n 2, 1) := by decide +kernel
theorem dX7_layPairs_123 : decode cX7_layPairs 123 = .ok (.dup2, 1) := by decide +kernel
theorem dX7_layPairs_124 : decode cX7_layPairs 124 = .ok (.iaload, 1) := by decide +kernel
theorem dX7_layPairs_125 : decode cX7_layPairs 125 = .ok (.iconst 1, 1) := by decide +kernel
theorem dX7_layPairs_126 : decode cX7_layPairs 126 = .ok (.iload_n 3, 1) := by decide +kernel
theorem dX7_layPairs_127 : decode cX7_layPairs 127 = .ok (.ishl, 1) := by decide +kernel
theorem dX7_layPairs_128 : decode cX7_layPairs 128 = .ok (.iconst (-1), 1) := by decide +kernel
theorem dX7_layPairs_129 : decode cX7_layPairs 129 = .ok (.ixor, 1) := by decide +kernel
theorem dX7_layPairs_130 : decode cX7_layPairs 130 = .ok (.iand, 1) := by decide +kernel
theorem dX7_layPairs_131 : decode cX7_layPairs 131 = .ok (.iastore, 1) := by decide +kernel
theorem dX7_layPairs_132 : decode cX7_layPairs 132 = .ok (.iinc 3 1, 3) := by decide +kernel
theorem dX7_layPairs_135 : decode cX7_layPairs 135 = .ok (.goto (-45), 3) := by decide +kernel
theorem dX7_layPairs_138 : decode cX7_layPairs 138 = .ok (.iinc 2 1, 3) := by decide +kernel
theorem dX7_layPairs_141 : decode cX7_layPairs 141 = .ok (.goto (-61), 3) := by decide +kernel
theorem dX7_layPairs_144 : decode cX7_layPairs 144 = .ok (.iinc 1 1, 3) := by decide +kernel
theorem dX7_layPairs_147 : decode cX7_layPairs 147 = .ok (.goto (-114), 3) := by decide +kernel
theorem dX7_layPairs_150 : decode cX7_layPairs 150 = .ok (.return_, 1) := by decide +kernel
theorem dX7_counts_0 : decode cX7_counts 0 = .ok (.aload_n 0, 1) := by decide +kernel
theorem dX7_counts_1 : decode cX7_counts 1 = .ok (.invokevirtual 217, 3) := by decide +kernel
theorem dX7_counts_4 : decode cX7_counts 4 = .ok (.iconst 0, 1) := by decide +kernel
theorem dX7_counts_5 : decode cX7_counts 5 = .ok (.istore_n 1, 1) := by decide +kernel
theorem dX7_counts_6 : decode cX7_counts 6 = .ok (.iconst 0, 1) := by decide +kernel
theorem dX7_counts_7 : decode cX7_counts 7 = .ok (.istore_n 2, 1) := by decide +kernel
theorem dX7_counts_8 : decode cX7_counts 8 = .ok (.iload_n 2, 1) := by decide +kernel
theorem dX7_counts_9 : decode cX7_counts 9 = .ok (.aload_n 0, 1) := by decide +kernel
theorem dX7_counts_10 : decode cX7_counts 10 = .ok (.getfield 120, 3) := by decide +kernel
theorem dX7_counts_13 : decode cX7_counts 13 = .ok (.if_icmp .ge 37, 3) := by decide +kernel
theorem dX7_counts_16 : decode cX7_counts 16 = .ok (.aload_n 0, 1) := by decide +kernel
theorem dX7_counts_17 : decode cX7_counts 17 = .ok (.iload_n 2, 1) := by decide +kernel
theorem dX7_counts_18 : decode cX7_counts 18 = .ok (.invokevirtual 239, 3) := by decide +kernel
theorem dX7_counts_21 : decode cX7_counts 21 = .ok (.ifCond .ne 6, 3) := by decide +kernel
theorem dX7_counts_24 : decode cX7_counts 24 = .ok (.goto 20, 3) := by decide +kernel
theorem dX7_counts_27 : decode cX7_counts 27 = .ok (.aload_n 0, 1) := by decide +kernel
theorem dX7_counts_28 : decode cX7_counts 28 = .ok (.iload_n 2, 1) := by decide +kernel
theorem dX7_counts_29 : decode cX7_counts 29 = .ok (.invokevirtual 242, 3) := by decide +kernel
theorem dX7_counts_32 : decode cX7_counts 32 = .ok (.ifCond .ne 4, 3) := by decide +kernel
theorem dX7_counts_35 : decode cX7_counts 35 = .ok (.return_, 1) := by decide +kernel
theorem dX7_counts_36 : decode cX7_counts 36 = .ok (.iload_n 1, 1) := by decide +kernel
theorem dX7_counts_37 : decode cX7_counts 37 = .ok (.aload_n 0, 1) := by decide +kernel
theorem dX7_counts_38 : decode cX7_counts 38 = .ok (.iload_n 2, 1) := by decide +kernel
theorem dX7_counts_39 : decode cX7_counts 39 = .ok (.invokevirtual 201, 3) := by decide +kernel
theorem dX7_counts_42 : decode cX7_counts 42 = .ok (.iadd, 1) := by decide +kernel
theorem dX7_counts_43 : decode cX7_counts 43 = .ok (.istore_n 1, 1) := by decide +kernel
theorem dX7_counts_44 : decode cX7_counts 44 = .ok (.iinc 2 1, 3) := by decide +kernel
theorem dX7_counts_47 : decode cX7_counts 47 = .ok (.goto (-39), 3) := by decide +kernel
theorem dX7_counts_50 : decode cX7_counts 50 = .ok (.aload_n 0, 1) := by decide +kernel
theorem dX7_counts_51 : decode cX7_counts 51 = .ok (.getfield 226, 3) := by decide +kernel
theorem dX7_counts_54 : decode cX7_counts 54 = .ok (.ifCond .eq 7, 3) := by decide +kernel
theorem dX7_counts_57 : decode cX7_counts 57 = .ok (.iconst 0, 1) := by decide +kernel
theorem dX7_counts_58 : decode cX7_counts 58 = .ok (.goto 11, 3) := by decide +kernel
theorem dX7_counts_61 : decode cX7_counts 61 = .ok (.aload_n 0, 1) := by decide +kernel
theorem dX7_counts_62 : decode cX7_counts 62 = .ok (.aload_n 0, 1) := by decide +kernel
theorem dX7_counts_63 : decode cX7_counts 63 = .ok (.getfield 230, 3) := by decide +kernel
theorem dX7_counts_66 : decode cX7_counts 66 = .ok (.invokevirtual 220, 3) := by decide +kernel
theorem dX7_counts_69 : decode cX7_counts 69 = .ok (.istore_n 2, 1) := by decide +kernel
theorem dX7_counts_70 : decode cX7_counts 70 = .ok (.aload_n 0, 1) := by decide +kernel
theorem dX7_counts_71 : decode cX7_counts 71 = .ok (.getfield 245, 3) := by decide +kernel
theorem dX7_counts_74 : decode cX7_counts 74 = .ok (.ifCond .eq 30, 3) := by decide +kernel
theorem dX7_counts_77 : decode cX7_counts 77 = .ok (.iload_n 1, 1) := by decide +kernel
theorem dX7_counts_78 : decode cX7_counts 78 = .ok (.aload_n 0, 1) := by decide +kernel
theorem dX7_counts_79 : decode cX7_counts 79 = .ok (.getfield 248, 3) := by decide +kernel
theorem dX7_counts_82 : decode cX7_counts 82 = .ok (.if_icmp .gt 22, 3) := by decide +kernel
theorem dX7_counts_85 : decode cX7_counts 85 = .ok (.iload_n 1, 1) := by decide +kernel
theorem dX7_counts_86 : decode cX7_counts 86 = .ok (.aload_n 0, 1) := by decide +kernel
theorem dX7_counts_87 : decode cX7_counts 87 = .ok (.getfield 248, 3) := by decide +kernel
theorem dX7_counts_90 : decode cX7_counts 90 = .ok (.if_icmp .ne 22, 3) := by decide +kernel
theorem dX7_counts_93 : decode cX7_counts 93 = .ok (.aload_n 0, 1) := by decide +kernel
theorem dX7_counts_94 : decode cX7_counts 94 = .ok (.getfield 184, 3) := by decide +kernel
theorem dX7_counts_97 : decode cX7_counts 97 = .ok (.aload_n 0, 1) := by decide +kernel
theorem dX7_counts_98 : decode cX7_counts 98 = .ok (.getfield 251, 3) := by decide +kernel
theorem dX7_counts_101 : decode cX7_counts 101 = .ok (.if_icmp .ge 11, 3) := by decide +kernel
theorem dX7_counts_104 : decode cX7_counts 104 = .ok (.aload_n 0, 1) := by decide +kernel
theorem dX7_counts_105 : decode cX7_counts 105 = .ok (.aload_n 0, 1) := by decide +kernel
theorem dX7_counts_106 : decode cX7_counts 106 = .ok (.getfield 184, 3) := by decide +kernel
theorem dX7_counts_109 : decode cX7_counts 109 = .ok (.putfield 251, 3) := by decide +kernel
theorem dX7_counts_112 : decode cX7_counts 112 = .ok (.aload_n 0, 1) := by decide +kernel
theorem dX7_counts_113 : decode cX7_counts 113 = .ok (.getfield 245, 3) := by decide +kernel
theorem dX7_counts_116 : decode cX7_counts 116 = .ok (.ifCond .eq 30, 3) := by decide +kernel
theorem dX7_counts_119 : decode cX7_counts 119 = .ok (.iload_n 1, 1) := by decide +kernel
theorem dX7_counts_120 : decode cX7_counts 120 = .ok (.aload_n 0, 1) := by decide +kernel
theorem dX7_counts_121 : decode cX7_counts 121 = .ok (.getfield 254, 3) := by decide +kernel
theorem dX7_counts_124 : decode cX7_counts 124 = .ok (.if_icmp .lt 22, 3) := by decide +kernel
theorem dX7_counts_127 : decode cX7_counts 127 = .ok (.iload_n 1, 1) := by decide +kernel
theorem dX7_counts_128 : decode cX7_counts 128 = .ok (.aload_n 0, 1) := by decide +kernel
theorem dX7_counts_129 : decode cX7_counts 129 = .ok (.getfield 254, 3) := by decide +kernel
theorem dX7_counts_132 : decode cX7_counts 132 = .ok (.if_icmp .ne 22, 3) := by decide +kernel
theorem dX7_counts_135 : decode cX7_counts 135 = .ok (.aload_n 0, 1) := by decide +kernel
theorem dX7_counts_136 : decode cX7_counts 136 = .ok (.getfield 184, 3) := by decide +kernel
theorem dX7_counts_139 : decode cX7_counts 139 = .ok (.aload_n 0, 1) := by decide +kernel
theorem dX7_counts_140 : decode cX7_counts 140 = .ok (.getfield 257, 3) := by decide +kernel
theorem dX7_counts_143 : decode cX7_counts 143 = .ok (.if_icmp .ge 11, 3) := by decide +kernel
theorem dX7_counts_146 : decode cX7_counts 146 = .ok (.aload_n 0, 1) := by decide +kernel
theorem dX7_counts_147 : decode cX7_counts 147 = .ok (.aload_n 0, 1) := by decide +kernel
theorem dX7_counts_148 : decode cX7_counts 148 = .ok (.getfield 184, 3) := by decide +kernel
theorem dX7_counts_151 : decode cX7_counts 151 = .ok (.putfield 257, 3) := by decide +kernel
theorem dX7_counts_154 : decode cX7_counts 154 = .ok (.aload_n 0, 1) := by decide +kernel
theorem dX7_counts_155 : decode cX7_counts 155 = .ok (.getfield 245, 3) := by decide +kernel
theorem dX7_counts_158 : decode cX7_counts 158 = .ok (.ifCond .eq 27, 3) := by decide +kernel
theorem dX7_counts_161 : decode cX7_counts 161 = .ok (.iload_n 2, 1) := by decide +kernel
theorem dX7_counts_162 : decode cX7_counts 162 = .ok (.aload_n 0, 1) := by decide +kernel
theorem dX7_counts_163 : decode cX7_counts 163 = .ok (.getfield 260, 3) := by decide +kernel
theorem dX7_counts_166 : decode cX7_counts 166 = .ok (.if_icmp .gt 19, 3) := by decide +kernel
theorem dX7_counts_169 : decode cX7_counts 169 = .ok (.iload_n 2, 1) := by decide +kernel
theorem dX7_counts_170 : decode cX7_counts 170 = .ok (.aload_n 0, 1) := by decide +kernel
theorem dX7_counts_171 : decode cX7_counts 171 = .ok (.getfield 260, 3) := by decide +kernel
theorem dX7_counts_174 : decode cX7_counts 174 = .ok (.if_icmp .ne 16, 3) := by decide +kernel
theorem dX7_counts_177 : decode cX7_counts 177 = .ok (.iload_n 1, 1) := by decide +kernel
theorem dX7_counts_178 : decode cX7_counts 178 = .ok (.aload_n 0, 1) := by decide +kernel
theorem dX7_counts_179 : decode cX7_counts 179 = .ok (.getfield 263, 3) := by decide +kernel
theorem dX7_counts_182 : decode cX7_counts 182 = .ok (.if_icmp .le 8, 3) := by decide +kernel
theorem dX7_counts_185 : decode cX7_counts 185 = .ok (.aload_n 0, 1) := by decide +kernel
theorem dX7_counts_186 : decode cX7_counts 186 = .ok (.iload_n 1, 1) := by decide +kernel
theorem dX7_counts_187 : decode cX7_counts 187 = .ok (.putfield 263, 3) := by decide +kernel
theorem dX7_counts_190 : decode cX7_counts 190 = .ok (.aload_n 0, 1) := by decide +kernel
theorem dX7_counts_191 : decode cX7_counts 191 = .ok (.aload_n 0, 1) := by decide +kernel
theorem dX7_counts_192 : decode cX7_counts 192 = .ok (.getfield 245, 3) := by decide +kernel
theorem dX7_counts_195 : decode cX7_counts 195 = .ok (.ifCond .eq 14, 3) := by decide +kernel
theorem dX7_counts_198 : decode cX7_counts 198 = .ok (.aload_n 0, 1) := by decide +kernel
theorem dX7_counts_199 : decode cX7_counts 199 = .ok (.getfield 260, 3) := by decide +kernel
theorem dX7_counts_202 : decode cX7_counts 202 = .ok (.iload_n 2, 1) := by decide +kernel
theorem dX7_counts_203 : decode cX7_counts 203 = .ok (.invokestatic 152, 3) := by decide +kernel
theorem dX7_counts_206 : decode cX7_counts 206 = .ok (.goto 4, 3) := by decide +kernel
theorem dX7_counts_209 : decode cX7_counts 209 = .ok (.iload_n 2, 1) := by decide +kernel
theorem dX7_counts_210 : decode cX7_counts 210 = .ok (.putfield 260, 3) := by decide +kernel
theorem dX7_counts_213 : decode cX7_counts 213 = .ok (.aload_n 0, 1) := by decide +kernel
theorem dX7_counts_214 : decode cX7_counts 214 = .ok (.aload_n 0, 1) := by decide +kernel
theorem dX7_counts_215 : decode cX7_counts 215 = .ok (.getfield 245, 3) := by decide +kernel
theorem dX7_counts_218 : decode cX7_counts 218 = .ok (.ifCond .eq 14, 3) := by decide +kernel
theorem dX7_counts_221 : decode cX7_counts 221 = .ok (.aload_n 0, 1) := by decide +kernel
theorem dX7_counts_222 : decode cX7_counts 222 = .ok (.getfield 248, 3) := by decide +kernel
theorem dX7_counts_225 : decode cX7_counts 225 = .ok (.iload_n 1, 1) := by decide +kernel
theorem dX7_counts_226 : decode cX7_counts 226 = .ok (.invokestatic 152, 3) := by decide +kernel
theorem dX7_counts_229 : decode cX7_counts 229 = .ok (.goto 4, 3) := by decide +kernel
theorem dX7_counts_232 : decode cX7_counts 232 = .ok (.iload_n 1, 1) := by decide +kernel
theorem dX7_counts_233 : decode cX7_counts 233 = .ok (.putfield 248, 3) := by decide +kernel
theorem dX7_counts_236 : decode cX7_counts 236 = .ok (.aload_n 0, 1) := by decide +kernel
theorem dX7_counts_237 : decode cX7_counts 237 = .ok (.aload_n 0, 1) := by decide +kernel
theorem dX7_counts_238 : decode cX7_counts 238 = .ok (.getfield 245, 3) := by decide +kernel
theorem dX7_counts_241 : decode cX7_counts 241 = .ok (.ifCond .eq 14, 3) := by decide +kernel
theorem dX7_counts_244 : decode cX7_counts 244 = .ok (.aload_n 0, 1) := by decide +kernel
theorem dX7_counts_245 : decode cX7_counts 245 = .ok (.getfield 254, 3) := by decide +kernel
theorem dX7_counts_248 : decode cX7_counts 248 = .ok (.iload_n 1, 1) := by decide +kernel
theorem dX7_counts_249 : decode cX7_counts 249 = .ok (.invokestatic 160, 3) := by decide +kernel
theorem dX7_counts_252 : decode cX7_counts 252 = .ok (.goto 4, 3) := by decide +kernel
theorem dX7_counts_255 : decode cX7_counts 255 = .ok (.iload_n 1, 1) := by decide +kernel
theorem dX7_counts_256 : decode cX7_counts 256 = .ok (.putfield 254, 3) := by decide +kernel
theorem dX7_counts_259 : decode cX7_counts 259 = .ok (.aload_n 0, 1) := by decide +kernel
theorem dX7_counts_260 : decode cX7_counts 260 = .ok (.iconst 1, 1) := by decide +kernel
theorem dX7_counts_261 : decode cX7_counts 261 = .ok (.putfield 245, 3) := by decide +kernel
theorem dX7_counts_264 : decode cX7_counts 264 = .ok (.return_, 1) := by decide +kernel
theorem dX7_part_0 : decode cX7_part 0 = .ok (.iload_n 1, 1) := by decide +kernel
theorem dX7_part_1 : decode cX7_part 1 = .ok (.aload_n 0, 1) := by decide +kernel
theorem dX7_part_2 : decode cX7_part 2 = .ok (.getfield 146, 3) := by decide +kernel
theorem dX7_part_5 : decode cX7_part 5 = .ok (.if_icmp .ne 8, 3) := by decide +kernel
theorem dX7_part_8 : decode cX7_part 8 = .ok (.aload_n 0, 1) := by decide +kernel
theorem dX7_part_9 : decode cX7_part 9 = .ok (.invokevirtual 266, 3) := by decide +kernel
theorem dX7_part_12 : decode cX7_part 12 = .ok (.return_, 1) := by decide +kernel
theorem dX7_part_13 : decode cX7_part 13 = .ok (.aload_n 0, 1) := by decide +kernel
theorem dX7_part_14 : decode cX7_part 14 = .ok (.getfield 269, 3) := by decide +kernel
theorem dX7_part_17 : decode cX7_part 17 = .ok (.iload_n 1, 1) := by decide +kernel
theorem dX7_part_18 : decode cX7_part 18 = .ok (.invokestatic 157, 3) := by decide +kernel
theorem dX7_part_21 : decode cX7_part 21 = .ok (.ifCond .ne 11, 3) := by decide +kernel
theorem dX7_part_24 : decode cX7_part 24 = .ok (.aload_n 0, 1) := by decide +kernel
theorem dX7_part_25 : decode cX7_part 25 = .ok (.iload_n 1, 1) := by decide +kernel
theorem dX7_part_26 : decode cX7_part 26 = .ok (.iconst 1, 1) := by decide +kernel
theorem dX7_part_27 : decode cX7_part 27 = .ok (.iadd, 1) := by decide +kernel
theorem dX7_part_28 : decode cX7_part 28 = .ok (.invokevirtual 272, 3) := by decide +kernel
theorem dX7_part_31 : decode cX7_part 31 = .ok (.return_, 1) := by decide +kernel
theorem dX7_part_32 : decode cX7_part 32 = .ok (.iconst 0, 1) := by decide +kernel
theorem dX7_part_33 : decode cX7_part 33 = .ok (.istore_n 2, 1) := by decide +kernel
theorem dX7_part_34 : decode cX7_part 34 = .ok (.iload_n 2, 1) := by decide +kernel
theorem dX7_part_35 : decode cX7_part 35 = .ok (.aload_n 0, 1) := by decide +kernel
theorem dX7_part_36 : decode cX7_part 36 = .ok (.getfield 184, 3) := by decide +kernel
theorem dX7_part_39 : decode cX7_part 39 = .ok (.if_icmp .ge 115, 3) := by decide +kernel
theorem dX7_part_42 : decode cX7_part 42 = .ok (.aload_n 0, 1) := by decide +kernel
theorem dX7_part_43 : decode cX7_part 43 = .ok (.getfield 38, 3) := by decide +kernel
theorem dX7_part_46 : decode cX7_part 46 = .ok (.iload_n 2, 1) := by decide +kernel
theorem dX7_part_47 : decode cX7_part 47 = .ok (.iaload, 1) := by decide +kernel
theorem dX7_part_48 : decode cX7_part 48 = .ok (.aload_n 0, 1) := by decide +kernel
theorem dX7_part_49 : decode cX7_part 49 = .ok (.getfield 56, 3) := by decide +kernel
theorem dX7_part_52 : decode cX7_part 52 = .ok (.iload_n 1, 1) := by decide +kernel
theorem dX7_part_53 : decode cX7_part 53 = .ok (.iaload, 1) := by decide +kernel
theorem dX7_part_54 : decode cX7_part 54 = .ok (.iconst (-1), 1) := by decide +kernel
theorem dX7_part_55 : decode cX7_part 55 = .ok (.ixor, 1) := by decide +kernel
theorem dX7_part_56 : decode cX7_part 56 = .ok (.iand, 1) := by decide +kernel
theorem dX7_part_57 : decode cX7_part 57 = .ok (.ifCond .ne 91, 3) := by decide +kernel
theorem dX7_part_60 : decode cX7_part 60 = .ok (.aload_n 0, 1) := by decide +kernel
theorem dX7_part_61 : decode cX7_part 61 = .ok (.getfield 233, 3) := by decide +kernel
theorem dX7_part_64 : decode cX7_part 64 = .ok (.ifCond .eq 22, 3) := by decide +kernel
theorem dX7_part_67 : decode cX7_part 67 = .ok (.aload_n 0, 1) := by decide +kernel
theorem dX7_part_68 : decode cX7_part 68 = .ok (.getfield 59, 3) := by decide +kernel
theorem dX7_part_71 : decode cX7_part 71 = .ok (.iload_n 2, 1) := by decide +kernel
theorem dX7_part_72 : decode cX7_part 72 = .ok (.iaload, 1) := by decide +kernel
theorem dX7_part_73 : decode cX7_part 73 = .ok (.aload_n 0, 1) := by decide +kernel
theorem dX7_part_74 : decode cX7_part 74 = .ok (.getfield 32, 3) := by decide +kernel
theorem dX7_part_77 : decode cX7_part 77 = .ok (.iload_n 1, 1) := by decide +kernel
theorem dX7_part_78 : decode cX7_part 78 = .ok (.iaload, 1) := by decide +kernel
theorem dX7_part_79 : decode cX7_part 79 = .ok (.iand, 1) := by decide +kernel
theorem dX7_part_80 : decode cX7_part 80 = .ok (.ifCond .ne 6, 3) := by decide +kernel
theorem dX7_part_83 : decode cX7_part 83 = .ok (.goto 65, 3) := by decide +kernel
theorem dX7_part_86 : decode cX7_part 86 = .ok (.aload_n 0, 1) := by decide +kernel
theorem dX7_part_87 : decode cX7_part 87 = .ok (.getfield 59, 3) := by decide +kernel
theorem dX7_part_90 : decode cX7_part 90 = .ok (.iload_n 2, 1) := by decide +kernel
theorem dX7_part_91 : decode cX7_part 91 = .ok (.iaload, 1) := by decide +kernel
theorem dX7_part_92 : decode cX7_part 92 = .ok (.istore_n 3, 1) := by decide +kernel
theorem dX7_part_93 : decode cX7_part 93 = .ok (.aload_n 0, 1) := by decide +kernel
theorem dX7_part_94 : decode cX7_part 94 = .ok (.getfield 59, 3) := by decide +kernel
theorem dX7_part_97 : decode cX7_part 97 = .ok (.iload_n 2, 1) := by decide +kernel
theorem dX7_part_98 : decode cX7_part 98 = .ok (.dup2, 1) := by decide +kernel
theorem dX7_part_99 : decode cX7_part 99 = .ok (.iaload, 1) := by decide +kernel
theorem dX7_part_100 : decode cX7_part 100 = .ok (.aload_n 0, 1) := by decide +kernel
theorem dX7_part_101 : decode cX7_part 101 = .ok (.getfield 32, 3) := by decide +kernel
theorem dX7_part_104 : decode cX7_part 104 = .ok (.iload_n 1, 1) := by decide +kernel
theorem dX7_part_105 : decode cX7_part 105 = .ok (.iaload, 1) := by decide +kernel
theorem dX7_part_106 : decode cX7_part 106 = .ok (.iand, 1) := by decide +kernel
theorem dX7_part_107 : decode cX7_part 107 = .ok (.iastore, 1) := by decide +kernel
theorem dX7_part_108 : decode cX7_part 108 = .ok (.aload_n 0, 1) := by decide +kernel
theorem dX7_part_109 : decode cX7_part 109 = .ok (.getfield 38, 3) := by decide +kernel
theorem dX7_part_112 : decode cX7_part 112 = .ok (.iload_n 2, 1) := by decide +kernel
theorem dX7_part_113 : decode cX7_part 113 = .ok (.dup2, 1) := by decide +kernel
theorem dX7_part_114 : decode cX7_part 114 = .ok (.iaload, 1) := by decide +kernel
theorem dX7_part_115 : decode cX7_part 115 = .ok (.iconst 1, 1) := by decide +kernel
theorem dX7_part_116 : decode cX7_part 116 = .ok (.iload_n 1, 1) := by decide +kernel
theorem dX7_part_117 : decode cX7_part 117 = .ok (.ishl, 1) := by decide +kernel
theorem dX7_part_118 : decode cX7_part 118 = .ok (.ior, 1) := by decide +kernel
theorem dX7_part_119 : decode cX7_part 119 = .ok (.iastore, 1) := by decide +kernel
theorem dX7_part_120 : decode cX7_part 120 = .ok (.aload_n 0, 1) := by decide +kernel
theorem dX7_part_121 : decode cX7_part 121 = .ok (.iload_n 1, 1) := by decide +kernel
theorem dX7_part_122 : decode cX7_part 122 = .ok (.iconst 1, 1) := by decide +kernel
theorem dX7_part_123 : decode cX7_part 123 = .ok (.iadd, 1) := by decide +kernel
theorem dX7_part_124 : decode cX7_part 124 = .ok (.invokevirtual 272, 3) := by decide +kernel
theorem dX7_part_127 : decode cX7_part 127 = .ok (.aload_n 0, 1) := by decide +kernel
theorem dX7_part_128 : decode cX7_part 128 = .ok (.getfield 38, 3) := by decide +kernel
theorem dX7_part_131 : decode cX7_part 131 = .ok (.iload_n 2, 1) := by decide +kernel
theorem dX7_part_132 : decode cX7_part 132 = .ok (.dup2, 1) := by decide +kernel
theorem dX7_part_133 : decode cX7_part 133 = .ok (.iaload, 1) := by decide +kernel
theorem dX7_part_134 : decode cX7_part 134 = .ok (.iconst 1, 1) := by decide +kernel
theorem dX7_part_135 : decode cX7_part 135 = .ok (.iload_n 1, 1) := by decide +kernel
theorem dX7_part_136 : decode cX7_part 136 = .ok (.ishl, 1) := by decide +kernel
theorem dX7_part_137 : decode cX7_part 137 = .ok (.iconst (-1), 1) := by decide +kernel
theorem dX7_part_138 : decode cX7_part 138 = .ok (.ixor, 1) := by decide +kernel
theorem dX7_part_139 : decode cX7_part 139 = .ok (.iand, 1) := by decide +kernel
theorem dX7_part_140 : decode cX7_part 140 = .ok (.iastore, 1) := by decide +kernel
theorem dX7_part_141 : decode cX7_part 141 = .ok (.aload_n 0, 1) := by decide +kernel
theorem dX7_part_142 : decode cX7_part 142 = .ok (.getfield 59, 3) := by decide +kernel
theorem dX7_part_145 : decode cX7_part 145 = .ok (.iload_n 2, 1) := by decide +kernel
theorem dX7_part_146 : decode cX7_part 146 = .ok (.iload_n 3, 1) := by decide +kernel
theorem dX7_part_147 : decode cX7_part 147 = .ok (.iastore, 1) := by decide +kernel
theorem dX7_part_148 : decode cX7_part 148 = .ok (.iinc 2 1, 3) := by decide +kernel
theorem dX7_part_151 : decode cX7_part 151 = .ok (.goto (-117), 3) := by decide +kernel
theorem dX7_part_154 : decode cX7_part 154 = .ok (.aload_n 0, 1) := by decide +kernel
theorem dX7_part_155 : decode cX7_part 155 = .ok (.getfield 38, 3) := by decide +kernel
theorem dX7_part_158 : decode cX7_part 158 = .ok (.aload_n 0, 1) := by decide +kernel
theorem dX7_part_159 : decode cX7_part 159 = .ok (.getfield 184, 3) := by decide +kernel
theorem dX7_part_162 : decode cX7_part 162 = .ok (.iconst 1, 1) := by decide +kernel
theorem dX7_part_163 : decode cX7_part 163 = .ok (.iload_n 1, 1) := by decide +kernel
theorem dX7_part_164 : decode cX7_part 164 = .ok (.ishl, 1) := by decide +kernel
theorem dX7_part_165 : decode cX7_part 165 = .ok (.iastore, 1) := by decide +kernel
theorem dX7_part_166 : decode cX7_part 166 = .ok (.aload_n 0, 1) := by decide +kernel
theorem dX7_part_167 : decode cX7_part 167 = .ok (.getfield 59, 3) := by decide +kernel
theorem dX7_part_170 : decode cX7_part 170 = .ok (.aload_n 0, 1) := by decide +kernel
theorem dX7_part_171 : decode cX7_part 171 = .ok (.getfield 184, 3) := by decide +kernel
theorem dX7_part_174 : decode cX7_part 174 = .ok (.aload_n 0, 1) := by decide +kernel
theorem dX7_part_175 : decode cX7_part 175 = .ok (.getfield 32, 3) := by decide +kernel
theorem dX7_part_178 : decode cX7_part 178 = .ok (.iload_n 1, 1) := by decide +kernel
theorem dX7_part_179 : decode cX7_part 179 = .ok (.iaload, 1) := by decide +kernel
theorem dX7_part_180 : decode cX7_part 180 = .ok (.iastore, 1) := by decide +kernel
theorem dX7_part_181 : decode cX7_part 181 = .ok (.aload_n 0, 1) := by decide +kernel
theorem dX7_part_182 : decode cX7_part 182 = .ok (.dup, 1) := by decide +kernel
theorem dX7_part_183 : decode cX7_part 183 = .ok (.getfield 184, 3) := by decide +kernel
theorem dX7_part_186 : decode cX7_part 186 = .ok (.iconst 1, 1) := by decide +kernel
theorem dX7_part_187 : decode cX7_part 187 = .ok (.iadd, 1) := by decide +kernel
theorem dX7_part_188 : decode cX7_part 188 = .ok (.putfield 184, 3) := by decide +kernel
theorem dX7_part_191 : decode cX7_part 191 = .ok (.aload_n 0, 1) := by decide +kernel
theorem dX7_part_192 : decode cX7_part 192 = .ok (.iload_n 1, 1) := by decide +kernel
theorem dX7_part_193 : decode cX7_part 193 = .ok (.iconst 1, 1) := by decide +kernel
theorem dX7_part_194 : decode cX7_part 194 = .ok (.iadd, 1) := by decide +kernel
theorem dX7_part_195 : decode cX7_part 195 = .ok (.invokevirtual 272, 3) := by decide +kernel
theorem dX7_part_198 : decode cX7_part 198 = .ok (.aload_n 0, 1) := by decide +kernel
theorem dX7_part_199 : decode cX7_part 199 = .ok (.dup, 1) := by decide +kernel
theorem dX7_part_200 : decode cX7_part 200 = .ok (.getfield 184, 3) := by decide +kernel
theorem dX7_part_203 : decode cX7_part 203 = .ok (.iconst 1, 1) := by decide +kernel
theorem dX7_part_204 : decode cX7_part 204 = .ok (.isub, 1) := by decide +kernel
theorem dX7_part_205 : decode cX7_part 205 = .ok (.putfield 184, 3) := by decide +kernel
theorem dX7_part_208 : decode cX7_part 208 = .ok (.return_, 1) := by decide +kernel
theorem dX7_mayNow_0 : decode cX7_mayNow 0 = .ok (.iconst 0, 1) := by decide +kernel
theorem dX7_mayNow_1 : decode cX7_mayNow 1 = .ok (.istore_n 2, 1) := by decide +kernel
theorem dX7_mayNow_2 : decode cX7_mayNow 2 = .ok (.iload_n 2, 1) := by decide +kernel
theorem dX7_mayNow_3 : decode cX7_mayNow 3 = .ok (.aload_n 0, 1) := by decide +kernel
theorem dX7_mayNow_4 : decode cX7_mayNow 4 = .ok (.getfield 120, 3) := by decide +kernel
theorem dX7_mayNow_7 : decode cX7_mayNow 7 = .ok (.if_icmp .ge 28, 3) := by decide +kernel
theorem dX7_mayNow_10 : decode cX7_mayNow 10 = .ok (.aload_n 0, 1) := by decide +kernel
theorem dX7_mayNow_11 : decode cX7_mayNow 11 = .ok (.iload_n 2, 1) := by decide +kernel
theorem dX7_mayNow_12 : decode cX7_mayNow 12 = .ok (.invokevirtual 239, 3) := by decide +kernel
theorem dX7_mayNow_15 : decode cX7_mayNow 15 = .ok (.ifCond .eq 14, 3) := by decide +kernel
theorem dX7_mayNow_18 : decode cX7_mayNow 18 = .ok (.aload_n 0, 1) := by decide +kernel
theorem dX7_mayNow_19 : decode cX7_mayNow 19 = .ok (.iload_n 2, 1) := by decide +kernel
theorem dX7_mayNow_20 : decode cX7_mayNow 20 = .ok (.iload_n 1, 1) := by decide +kernel
theorem dX7_mayNow_21 : decode cX7_mayNow 21 = .ok (.invokevirtual 175, 3) := by decide +kernel
theorem dX7_mayNow_24 : decode cX7_mayNow 24 = .ok (.ifCond .ne 5, 3) := by decide +kernel
theorem dX7_mayNow_27 : decode cX7_mayNow 27 = .ok (.iconst 0, 1) := by decide +kernel
theorem dX7_mayNow_28 : decode cX7_mayNow 28 = .ok (.ireturn, 1) := by decide +kernel
theorem dX7_mayNow_29 : decode cX7_mayNow 29 = .ok (.iinc 2 1, 3) := by decide +kernel
theorem dX7_mayNow_32 : decode cX7_mayNow 32 = .ok (.goto (-30), 3) := by decide +kernel
theorem dX7_mayNow_35 : decode cX7_mayNow 35 = .ok (.iconst 1, 1) := by decide +kernel
theorem dX7_mayNow_36 : decode cX7_mayNow 36 = .ok (.ireturn, 1) := by decide +kernel
theorem dX7_partByHours_0 : decode cX7_partByHours 0 = .ok (.iload_n 1, 1) := by decide +kernel
theorem dX7_partByHours_1 : decode cX7_partByHours 1 = .ok (.ifCond .ne 8, 3) := by decide +kernel
theorem dX7_partByHours_4 : decode cX7_partByHours 4 = .ok (.aload_n 0, 1) := by decide +kernel
theorem dX7_partByHours_5 : decode cX7_partByHours 5 = .ok (.invokevirtual 266, 3) := by decide +kernel
theorem dX7_partByHours_8 : decode cX7_partByHours 8 = .ok (.return_, 1) := by decide +kernel
theorem dX7_partByHours_9 : decode cX7_partByHours 9 = .ok (.iconst 0, 1) := by decide +kernel
theorem dX7_partByHours_10 : decode cX7_partByHours 10 = .ok (.istore_n 2, 1) := by decide +kernel
theorem dX7_partByHours_11 : decode cX7_partByHours 11 = .ok (.iload_n 2, 1) := by decide +kernel
theorem dX7_partByHours_12 : decode cX7_partByHours 12 = .ok (.iload_n 1, 1) := by decide +kernel
theorem dX7_partByHours_13 : decode cX7_partByHours 13 = .ok (.if_icmp .eq 115, 3) := by decide +kernel
theorem dX7_partByHours_16 : decode cX7_partByHours 16 = .ok (.aload_n 0, 1) := by decide +kernel
theorem dX7_partByHours_17 : decode cX7_partByHours 17 = .ok (.iload_n 1, 1) := by decide +kernel
theorem dX7_partByHours_18 : decode cX7_partByHours 18 = .ok (.iload_n 2, 1) := by decide +kernel
theorem dX7_partByHours_19 : decode cX7_partByHours 19 = .ok (.iconst (-1), 1) := by decide +kernel
theorem dX7_partByHours_20 : decode cX7_partByHours 20 = .ok (.ixor, 1) := by decide +kernel
theorem dX7_partByHours_21 : decode cX7_partByHours 21 = .ok (.iand, 1) := by decide +kernel
theorem dX7_partByHours_22 : decode cX7_partByHours 22 = .ok (.invokevirtual 166, 3) := by decide +kernel
theorem dX7_partByHours_25 : decode cX7_partByHours 25 = .ok (.istore_n 3, 1) := by decide +kernel
theorem dX7_partByHours_26 : decode cX7_partByHours 26 = .ok (.iconst 0, 1) := by decide +kernel
theorem dX7_partByHours_27 : decode cX7_partByHours 27 = .ok (.istore 4, 2) := by decide +kernel
theorem dX7_partByHours_29 : decode cX7_partByHours 29 = .ok (.iload 4, 2) := by decide +kernel
theorem dX7_partByHours_31 : decode cX7_partByHours 31 = .ok (.aload_n 0, 1) := by decide +kernel
theorem dX7_partByHours_32 : decode cX7_partByHours 32 = .ok (.getfield 146, 3) := by decide +kernel
theorem dX7_partByHours_35 : decode cX7_partByHours 35 = .ok (.if_icmp .ge 40, 3) := by decide +kernel
theorem dX7_partByHours_38 : decode cX7_partByHours 38 = .ok (.iload_n 2, 1) := by decide +kernel
theorem dX7_partByHours_39 : decode cX7_partByHours 39 = .ok (.iload_n 1, 1) := by decide +kernel
theorem dX7_partByHours_40 : decode cX7_partByHours 40 = .ok (.iload 4, 2) := by decide +kernel
theorem dX7_partByHours_42 : decode cX7_partByHours 42 = .ok (.invokestatic 157, 3) := by decide +kernel
theorem dX7_partByHours_45 : decode cX7_partByHours 45 = .ok (.ifCond .eq 21, 3) := by decide +kernel
theorem dX7_partByHours_48 : decode cX7_partByHours 48 = .ok (.aload_n 0, 1) := by decide +kernel
theorem dX7_partByHours_49 : decode cX7_partByHours 49 = .ok (.getfield 20, 3) := by decide +kernel
theorem dX7_partByHours_52 : decode cX7_partByHours 52 = .ok (.iload 4, 2) := by decide +kernel
theorem dX7_partByHours_54 : decode cX7_partByHours 54 = .ok (.iaload, 1) := by decide +kernel
theorem dX7_partByHours_55 : decode cX7_partByHours 55 = .ok (.iload_n 3, 1) := by decide +kernel
theorem dX7_partByHours_56 : decode cX7_partByHours 56 = .ok (.if_icmp .ne 10, 3) := by decide +kernel
theorem dX7_partByHours_59 : decode cX7_partByHours 59 = .ok (.iconst 1, 1) := by decide +kernel
theorem dX7_partByHours_60 : decode cX7_partByHours 60 = .ok (.iload 4, 2) := by decide +kernel
theorem dX7_partByHours_62 : decode cX7_partByHours 62 = .ok (.ishl, 1) := by decide +kernel
theorem dX7_partByHours_63 : decode cX7_partByHours 63 = .ok (.goto 4, 3) := by decide +kernel
theorem dX7_partByHours_66 : decode cX7_partByHours 66 = .ok (.iconst 0, 1) := by decide +kernel
theorem dX7_partByHours_67 : decode cX7_partByHours 67 = .ok (.ior, 1) := by decide +kernel
theorem dX7_partByHours_68 : decode cX7_partByHours 68 = .ok (.istore_n 2, 1) := by decide +kernel
theorem dX7_partByHours_69 : decode cX7_partByHours 69 = .ok (.iinc 4 1, 3) := by decide +kernel
theorem dX7_partByHours_72 : decode cX7_partByHours 72 = .ok (.goto (-43), 3) := by decide +kernel
theorem dX7_partByHours_75 : decode cX7_partByHours 75 = .ok (.aload_n 0, 1) := by decide +kernel
theorem dX7_partByHours_76 : decode cX7_partByHours 76 = .ok (.iload_n 2, 1) := by decide +kernel
theorem dX7_partByHours_77 : decode cX7_partByHours 77 = .ok (.invokevirtual 275, 3) := by decide +kernel
theorem dX7_partByHours_80 : decode cX7_partByHours 80 = .ok (.ifCond .ne 6, 3) := by decide +kernel
theorem dX7_partByHours_83 : decode cX7_partByHours 83 = .ok (.goto (-72), 3) := by decide +kernel
theorem dX7_partByHours_86 : decode cX7_partByHours 86 = .ok (.aload_n 0, 1) := by decide +kernel
theorem dX7_partByHours_87 : decode cX7_partByHours 87 = .ok (.getfield 38, 3) := by decide +kernel
theorem dX7_partByHours_90 : decode cX7_partByHours 90 = .ok (.aload_n 0, 1) := by decide +kernel
theorem dX7_partByHours_91 : decode cX7_partByHours 91 = .ok (.getfield 184, 3) := by decide +kernel
theorem dX7_partByHours_94 : decode cX7_partByHours 94 = .ok (.iload_n 2, 1) := by decide +kernel
theorem dX7_partByHours_95 : decode cX7_partByHours 95 = .ok (.iastore, 1) := by decide +kernel
theorem dX7_partByHours_96 : decode cX7_partByHours 96 = .ok (.aload_n 0, 1) := by decide +kernel
theorem dX7_partByHours_97 : decode cX7_partByHours 97 = .ok (.dup, 1) := by decide +kernel
theorem dX7_partByHours_98 : decode cX7_partByHours 98 = .ok (.getfield 184, 3) := by decide +kernel
theorem dX7_partByHours_101 : decode cX7_partByHours 101 = .ok (.iconst 1, 1) := by decide +kernel
theorem dX7_partByHours_102 : decode cX7_partByHours 102 = .ok (.iadd, 1) := by decide +kernel
theorem dX7_partByHours_103 : decode cX7_partByHours 103 = .ok (.putfield 184, 3) := by decide +kernel
theorem dX7_partByHours_106 : decode cX7_partByHours 106 = .ok (.aload_n 0, 1) := by decide +kernel
theorem dX7_partByHours_107 : decode cX7_partByHours 107 = .ok (.iload_n 1, 1) := by decide +kernel
theorem dX7_partByHours_108 : decode cX7_partByHours 108 = .ok (.iload_n 2, 1) := by decide +kernel
theorem dX7_partByHours_109 : decode cX7_partByHours 109 = .ok (.iconst (-1), 1) := by decide +kernel
theorem dX7_partByHours_110 : decode cX7_partByHours 110 = .ok (.ixor, 1) := by decide +kernel
theorem dX7_partByHours_111 : decode cX7_partByHours 111 = .ok (.iand, 1) := by decide +kernel
theorem dX7_partByHours_112 : decode cX7_partByHours 112 = .ok (.invokevirtual 278, 3) := by decide +kernel
theorem dX7_partByHours_115 : decode cX7_partByHours 115 = .ok (.aload_n 0, 1) := by decide +kernel
theorem dX7_partByHours_116 : decode cX7_partByHours 116 = .ok (.dup, 1) := by decide +kernel
theorem dX7_partByHours_117 : decode cX7_partByHours 117 = .ok (.getfield 184, 3) := by decide +kernel
theorem dX7_partByHours_120 : decode cX7_partByHours 120 = .ok (.iconst 1, 1) := by decide +kernel
theorem dX7_partByHours_121 : decode cX7_partByHours 121 = .ok (.isub, 1) := by decide +kernel
theorem dX7_partByHours_122 : decode cX7_partByHours 122 = .ok (.putfield 184, 3) := by decide +kernel
theorem dX7_partByHours_125 : decode cX7_partByHours 125 = .ok (.goto (-114), 3) := by decide +kernel
theorem dX7_partByHours_128 : decode cX7_partByHours 128 = .ok (.return_, 1) := by decide +kernel
theorem dX7_layAll_0 : decode cX7_layAll 0 = .ok (.aload_n 0, 1) := by decide +kernel
theorem dX7_layAll_1 : decode cX7_layAll 1 = .ok (.iload_n 1, 1) := by decide +kernel
theorem dX7_layAll_2 : decode cX7_layAll 2 = .ok (.iload_n 2, 1) := by decide +kernel
theorem dX7_layAll_3 : decode cX7_layAll 3 = .ok (.invokevirtual 281, 3) := by decide +kernel
theorem dX7_layAll_6 : decode cX7_layAll 6 = .ok (.ifCond .ne 5, 3) := by decide +kernel
theorem dX7_layAll_9 : decode cX7_layAll 9 = .ok (.iconst 0, 1) := by decide +kernel
theorem dX7_layAll_10 : decode cX7_layAll 10 = .ok (.ireturn, 1) := by decide +kernel
theorem dX7_layAll_11 : decode cX7_layAll 11 = .ok (.aload_n 0, 1) := by decide +kernel
theorem dX7_layAll_12 : decode cX7_layAll 12 = .ok (.iload_n 1, 1) := by decide +kernel
theorem dX7_layAll_13 : decode cX7_layAll 13 = .ok (.putfield 230, 3) := by decide +kernel
theorem dX7_layAll_16 : decode cX7_layAll 16 = .ok (.aload_n 0, 1) := by decide +kernel
theorem dX7_layAll_17 : decode cX7_layAll 17 = .ok (.iconst 0, 1) := by decide +kernel
theorem dX7_layAll_18 : decode cX7_layAll 18 = .ok (.putfield 226, 3) := by decide +kernel
theorem dX7_layAll_21 : decode cX7_layAll 21 = .ok (.aload_n 0, 1) := by decide +kernel
theorem dX7_layAll_22 : decode cX7_layAll 22 = .ok (.iload_n 2, 1) := by decide +kernel
theorem dX7_layAll_23 : decode cX7_layAll 23 = .ok (.putfield 269, 3) := by decide +kernel
theorem dX7_layAll_26 : decode cX7_layAll 26 = .ok (.aload_n 0, 1) := by decide +kernel
theorem dX7_layAll_27 : decode cX7_layAll 27 = .ok (.iconst 0, 1) := by decide +kernel
theorem dX7_layAll_28 : decode cX7_layAll 28 = .ok (.putfield 245, 3) := by decide +kernel
theorem dX7_layAll_31 : decode cX7_layAll 31 = .ok (.aload_n 0, 1) := by decide +kernel
theorem dX7_layAll_32 : decode cX7_layAll 32 = .ok (.iconst 0, 1) := by decide +kernel
theorem dX7_layAll_33 : decode cX7_layAll 33 = .ok (.putfield 184, 3) := by decide +kernel
theorem dX7_layAll_36 : decode cX7_layAll 36 = .ok (.aload_n 0, 1) := by decide +kernel
theorem dX7_layAll_37 : decode cX7_layAll 37 = .ok (.invokevirtual 284, 3) := by decide +kernel
theorem dX7_layAll_40 : decode cX7_layAll 40 = .ok (.aload_n 0, 1) := by decide +kernel
theorem dX7_layAll_41 : decode cX7_layAll 41 = .ok (.iload_n 1, 1) := by decide +kernel
theorem dX7_layAll_42 : decode cX7_layAll 42 = .ok (.iconst 3, 1) := by decide +kernel
theorem dX7_layAll_43 : decode cX7_layAll 43 = .ok (.invokevirtual 142, 3) := by decide +kernel
theorem dX7_layAll_46 : decode cX7_layAll 46 = .ok (.ifCond .ne 11, 3) := by decide +kernel
theorem dX7_layAll_49 : decode cX7_layAll 49 = .ok (.aload_n 0, 1) := by decide +kernel
theorem dX7_layAll_50 : decode cX7_layAll 50 = .ok (.iload_n 2, 1) := by decide +kernel
theorem dX7_layAll_51 : decode cX7_layAll 51 = .ok (.invokevirtual 278, 3) := by decide +kernel
theorem dX7_layAll_54 : decode cX7_layAll 54 = .ok (.goto 8, 3) := by decide +kernel
theorem dX7_layAll_57 : decode cX7_layAll 57 = .ok (.aload_n 0, 1) := by decide +kernel
theorem dX7_layAll_58 : decode cX7_layAll 58 = .ok (.iconst 0, 1) := by decide +kernel
theorem dX7_layAll_59 : decode cX7_layAll 59 = .ok (.invokevirtual 272, 3) := by decide +kernel
theorem dX7_layAll_62 : decode cX7_layAll 62 = .ok (.aload_n 0, 1) := by decide +kernel
theorem dX7_layAll_63 : decode cX7_layAll 63 = .ok (.getfield 245, 3) := by decide +kernel
theorem dX7_layAll_66 : decode cX7_layAll 66 = .ok (.ireturn, 1) := by decide +kernel
theorem dX7_most_0 : decode cX7_most 0 = .ok (.aload_n 0, 1) := by decide +kernel
theorem dX7_most_1 : decode cX7_most 1 = .ok (.iconst 0, 1) := by decide +kernel
theorem dX7_most_2 : decode cX7_most 2 = .ok (.putfield 68, 3) := by decide +kernel
theorem dX7_most_5 : decode cX7_most 5 = .ok (.aload_n 0, 1) := by decide +kernel
theorem dX7_most_6 : decode cX7_most 6 = .ok (.iload_n 1, 1) := by decide +kernel
theorem dX7_most_7 : decode cX7_most 7 = .ok (.invokevirtual 139, 3) := by decide +kernel
theorem dX7_most_10 : decode cX7_most 10 = .ok (.ifCond .eq 29, 3) := by decide +kernel
theorem dX7_most_13 : decode cX7_most 13 = .ok (.aload_n 0, 1) := by decide +kernel
theorem dX7_most_14 : decode cX7_most 14 = .ok (.iload_n 2, 1) := by decide +kernel
theorem dX7_most_15 : decode cX7_most 15 = .ok (.invokevirtual 172, 3) := by decide +kernel
theorem dX7_most_18 : decode cX7_most 18 = .ok (.ifCond .eq 21, 3) := by decide +kernel
theorem dX7_most_21 : decode cX7_most 21 = .ok (.iload_n 3, 1) := by decide +kernel
theorem dX7_most_22 : decode cX7_most 22 = .ok (.iconst 0, 1) := by decide +kernel
theorem dX7_most_23 : decode cX7_most 23 = .ok (.iconst 3, 1) := by decide +kernel
theorem dX7_most_24 : decode cX7_most 24 = .ok (.invokestatic 107, 3) := by decide +kernel
theorem dX7_most_27 : decode cX7_most 27 = .ok (.ifCond .eq 12, 3) := by decide +kernel
theorem dX7_most_30 : decode cX7_most 30 = .ok (.aload_n 0, 1) := by decide +kernel
theorem dX7_most_31 : decode cX7_most 31 = .ok (.iload_n 1, 1) := by decide +kernel
theorem dX7_most_32 : decode cX7_most 32 = .ok (.iload_n 2, 1) := by decide +kernel
theorem dX7_most_33 : decode cX7_most 33 = .ok (.invokevirtual 287, 3) := by decide +kernel
theorem dX7_most_36 : decode cX7_most 36 = .ok (.ifCond .ne 6, 3) := by decide +kernel
theorem dX7_most_39 : decode cX7_most 39 = .ok (.ldc 216, 2) := by decide +kernel
theorem dX7_most_41 : decode cX7_most 41 = .ok (.ireturn, 1) := by decide +kernel
theorem dX7_most_42 : decode cX7_most 42 = .ok (.iload_n 3, 1) := by decide +kernel
theorem dX7_most_43 : decode cX7_most 43 = .ok (.ifCond .ne 10, 3) := by decide +kernel
theorem dX7_most_46 : decode cX7_most 46 = .ok (.aload_n 0, 1) := by decide +kernel
theorem dX7_most_47 : decode cX7_most 47 = .ok (.getfield 248, 3) := by decide +kernel
theorem dX7_most_50 : decode cX7_most 50 = .ok (.goto 31, 3) := by decide +kernel
theorem dX7_most_53 : decode cX7_most 53 = .ok (.iload_n 3, 1) := by decide +kernel
theorem dX7_most_54 : decode cX7_most 54 = .ok (.iconst 1, 1) := by decide +kernel
theorem dX7_most_55 : decode cX7_most 55 = .ok (.if_icmp .ne 10, 3) := by decide +kernel
theorem dX7_most_58 : decode cX7_most 58 = .ok (.aload_n 0, 1) := by decide +kernel
theorem dX7_most_59 : decode cX7_most 59 = .ok (.getfield 254, 3) := by decide +kernel
theorem dX7_most_62 : decode cX7_most 62 = .ok (.goto 19, 3) := by decide +kernel
theorem dX7_most_65 : decode cX7_most 65 = .ok (.iload_n 3, 1) := by decide +kernel
theorem dX7_most_66 : decode cX7_most 66 = .ok (.iconst 2, 1) := by decide +kernel
theorem dX7_most_67 : decode cX7_most 67 = .ok (.if_icmp .ne 10, 3) := by decide +kernel
theorem dX7_most_70 : decode cX7_most 70 = .ok (.aload_n 0, 1) := by decide +kernel
theorem dX7_most_71 : decode cX7_most 71 = .ok (.getfield 251, 3) := by decide +kernel
theorem dX7_most_74 : decode cX7_most 74 = .ok (.goto 7, 3) := by decide +kernel
theorem dX7_most_77 : decode cX7_most 77 = .ok (.aload_n 0, 1) := by decide +kernel
theorem dX7_most_78 : decode cX7_most 78 = .ok (.getfield 257, 3) := by decide +kernel
theorem dX7_most_81 : decode cX7_most 81 = .ok (.ireturn, 1) := by decide +kernel
theorem dX7_net_0 : decode cX7_net 0 = .ok (.aload_n 0, 1) := by decide +kernel
theorem dX7_net_1 : decode cX7_net 1 = .ok (.iconst 0, 1) := by decide +kernel
theorem dX7_net_2 : decode cX7_net 2 = .ok (.putfield 68, 3) := by decide +kernel
theorem dX7_net_5 : decode cX7_net 5 = .ok (.aload_n 0, 1) := by decide +kernel
theorem dX7_net_6 : decode cX7_net 6 = .ok (.iload_n 1, 1) := by decide +kernel
theorem dX7_net_7 : decode cX7_net 7 = .ok (.invokevirtual 139, 3) := by decide +kernel
theorem dX7_net_10 : decode cX7_net 10 = .ok (.ifCond .eq 29, 3) := by decide +kernel
theorem dX7_net_13 : decode cX7_net 13 = .ok (.aload_n 0, 1) := by decide +kernel
theorem dX7_net_14 : decode cX7_net 14 = .ok (.iload_n 2, 1) := by decide +kernel
theorem dX7_net_15 : decode cX7_net 15 = .ok (.invokevirtual 172, 3) := by decide +kernel
theorem dX7_net_18 : decode cX7_net 18 = .ok (.ifCond .eq 21, 3) := by decide +kernel
theorem dX7_net_21 : decode cX7_net 21 = .ok (.iload_n 3, 1) := by decide +kernel
theorem dX7_net_22 : decode cX7_net 22 = .ok (.iconst 0, 1) := by decide +kernel
theorem dX7_net_23 : decode cX7_net 23 = .ok (.iconst 1, 1) := by decide +kernel
theorem dX7_net_24 : decode cX7_net 24 = .ok (.invokestatic 107, 3) := by decide +kernel
theorem dX7_net_27 : decode cX7_net 27 = .ok (.ifCond .eq 12, 3) := by decide +kernel
theorem dX7_net_30 : decode cX7_net 30 = .ok (.aload_n 0, 1) := by decide +kernel
theorem dX7_net_31 : decode cX7_net 31 = .ok (.iload_n 1, 1) := by decide +kernel
theorem dX7_net_32 : decode cX7_net 32 = .ok (.iload_n 2, 1) := by decide +kernel
theorem dX7_net_33 : decode cX7_net 33 = .ok (.invokevirtual 287, 3) := by decide +kernel
theorem dX7_net_36 : decode cX7_net 36 = .ok (.ifCond .ne 6, 3) := by decide +kernel
theorem dX7_net_39 : decode cX7_net 39 = .ok (.ldc 216, 2) := by decide +kernel
theorem dX7_net_41 : decode cX7_net 41 = .ok (.ireturn, 1) := by decide +kernel
theorem dX7_net_42 : decode cX7_net 42 = .ok (.iload_n 3, 1) := by decide +kernel
theorem dX7_net_43 : decode cX7_net 43 = .ok (.ifCond .ne 10, 3) := by decide +kernel
theorem dX7_net_46 : decode cX7_net 46 = .ok (.aload_n 0, 1) := by decide +kernel
theorem dX7_net_47 : decode cX7_net 47 = .ok (.getfield 260, 3) := by decide +kernel
theorem dX7_net_50 : decode cX7_net 50 = .ok (.goto 7, 3) := by decide +kernel
theorem dX7_net_53 : decode cX7_net 53 = .ok (.aload_n 0, 1) := by decide +kernel
theorem dX7_net_54 : decode cX7_net 54 = .ok (.getfield 263, 3) := by decide +kernel
theorem dX7_net_57 : decode cX7_net 57 = .ok (.ireturn, 1) := by decide +kernel
theorem dX7_ends_0 : decode cX7_ends 0 = .ok (.aload_n 0, 1) := by decide +kernel
theorem dX7_ends_1 : decode cX7_ends 1 = .ok (.iconst 0, 1) := by decide +kernel
theorem dX7_ends_2 : decode cX7_ends 2 = .ok (.putfield 68, 3) := by decide +kernel
theorem dX7_ends_5 : decode cX7_ends 5 = .ok (.aload_n 0, 1) := by decide +kernel
theorem dX7_ends_6 : decode cX7_ends 6 = .ok (.iload_n 1, 1) := by decide +kernel
theorem dX7_ends_7 : decode cX7_ends 7 = .ok (.invokevirtual 139, 3) := by decide +kernel
theorem dX7_ends_10 : decode cX7_ends 10 = .ok (.ifCond .eq 20, 3) := by decide +kernel
theorem dX7_ends_13 : decode cX7_ends 13 = .ok (.aload_n 0, 1) := by decide +kernel
theorem dX7_ends_14 : decode cX7_ends 14 = .ok (.iload_n 2, 1) := by decide +kernel
theorem dX7_ends_15 : decode cX7_ends 15 = .ok (.invokevirtual 149, 3) := by decide +kernel
theorem dX7_ends_18 : decode cX7_ends 18 = .ok (.ifCond .eq 12, 3) := by decide +kernel
theorem dX7_ends_21 : decode cX7_ends 21 = .ok (.iload_n 3, 1) := by decide +kernel
theorem dX7_ends_22 : decode cX7_ends 22 = .ok (.iconst 0, 1) := by decide +kernel
theorem dX7_ends_23 : decode cX7_ends 23 = .ok (.iconst 1, 1) := by decide +kernel
theorem dX7_ends_24 : decode cX7_ends 24 = .ok (.invokestatic 107, 3) := by decide +kernel
theorem dX7_ends_27 : decode cX7_ends 27 = .ok (.ifCond .ne 6, 3) := by decide +kernel
theorem dX7_ends_30 : decode cX7_ends 30 = .ok (.ldc 216, 2) := by decide +kernel
theorem dX7_ends_32 : decode cX7_ends 32 = .ok (.ireturn, 1) := by decide +kernel
theorem dX7_ends_33 : decode cX7_ends 33 = .ok (.aload_n 0, 1) := by decide +kernel
theorem dX7_ends_34 : decode cX7_ends 34 = .ok (.getfield 20, 3) := by decide +kernel
theorem dX7_ends_37 : decode cX7_ends 37 = .ok (.iload_n 2, 1) := by decide +kernel
theorem dX7_ends_38 : decode cX7_ends 38 = .ok (.iaload, 1) := by decide +kernel
theorem dX7_ends_39 : decode cX7_ends 39 = .ok (.istore 4, 2) := by decide +kernel
theorem dX7_ends_41 : decode cX7_ends 41 = .ok (.ldc 216, 2) := by decide +kernel
theorem dX7_ends_43 : decode cX7_ends 43 = .ok (.istore 5, 2) := by decide +kernel
theorem dX7_ends_45 : decode cX7_ends 45 = .ok (.ldc 216, 2) := by decide +kernel
theorem dX7_ends_47 : decode cX7_ends 47 = .ok (.istore 6, 2) := by decide +kernel
theorem dX7_ends_49 : decode cX7_ends 49 = .ok (.iload 4, 2) := by decide +kernel
theorem dX7_ends_51 : decode cX7_ends 51 = .ok (.istore 7, 2) := by decide +kernel
theorem dX7_ends_53 : decode cX7_ends 53 = .ok (.iload 7, 2) := by decide +kernel
theorem dX7_ends_55 : decode cX7_ends 55 = .ok (.aload_n 0, 1) := by decide +kernel
theorem dX7_ends_56 : decode cX7_ends 56 = .ok (.getfield 23, 3) := by decide +kernel
theorem dX7_ends_59 : decode cX7_ends 59 = .ok (.iload_n 2, 1) := by decide +kernel
theorem dX7_ends_60 : decode cX7_ends 60 = .ok (.iaload, 1) := by decide +kernel
theorem dX7_ends_61 : decode cX7_ends 61 = .ok (.if_icmp .gt 68, 3) := by decide +kernel
theorem dX7_ends_64 : decode cX7_ends 64 = .ok (.aload_n 0, 1) := by decide +kernel
theorem dX7_ends_65 : decode cX7_ends 65 = .ok (.getfield 20, 3) := by decide +kernel
theorem dX7_ends_68 : decode cX7_ends 68 = .ok (.iload_n 2, 1) := by decide +kernel
theorem dX7_ends_69 : decode cX7_ends 69 = .ok (.iload 7, 2) := by decide +kernel
theorem dX7_ends_71 : decode cX7_ends 71 = .ok (.iastore, 1) := by decide +kernel
theorem dX7_ends_72 : decode cX7_ends 72 = .ok (.aload_n 0, 1) := by decide +kernel
theorem dX7_ends_73 : decode cX7_ends 73 = .ok (.iload_n 1, 1) := by decide +kernel
theorem dX7_ends_74 : decode cX7_ends 74 = .ok (.aload_n 0, 1) := by decide +kernel
theorem dX7_ends_75 : decode cX7_ends 75 = .ok (.invokevirtual 236, 3) := by decide +kernel
theorem dX7_ends_78 : decode cX7_ends 78 = .ok (.invokevirtual 287, 3) := by decide +kernel
theorem dX7_ends_81 : decode cX7_ends 81 = .ok (.ifCond .ne 6, 3) := by decide +kernel
theorem dX7_ends_84 : decode cX7_ends 84 = .ok (.goto 39, 3) := by decide +kernel
theorem dX7_ends_87 : decode cX7_ends 87 = .ok (.iload 5, 2) := by decide +kernel
theorem dX7_ends_89 : decode cX7_ends 89 = .ok (.ldc 216, 2) := by decide +kernel
theorem dX7_ends_91 : decode cX7_ends 91 = .ok (.if_icmp .ne 10, 3) := by decide +kernel
theorem dX7_ends_94 : decode cX7_ends 94 = .ok (.aload_n 0, 1) := by decide +kernel
theorem dX7_ends_95 : decode cX7_ends 95 = .ok (.getfield 248, 3) := by decide +kernel
theorem dX7_ends_98 : decode cX7_ends 98 = .ok (.goto 12, 3) := by decide +kernel
theorem dX7_ends_101 : decode cX7_ends 101 = .ok (.iload 5, 2) := by decide +kernel
theorem dX7_ends_103 : decode cX7_ends 103 = .ok (.aload_n 0, 1) := by decide +kernel
theorem dX7_ends_104 : decode cX7_ends 104 = .ok (.getfield 248, 3) := by decide +kernel
theorem dX7_ends_107 : decode cX7_ends 107 = .ok (.invokestatic 160, 3) := by decide +kernel
theorem dX7_ends_110 : decode cX7_ends 110 = .ok (.istore 5, 2) := by decide +kernel
theorem dX7_ends_112 : decode cX7_ends 112 = .ok (.iload 6, 2) := by decide +kernel
theorem dX7_ends_114 : decode cX7_ends 114 = .ok (.aload_n 0, 1) := by decide +kernel
theorem dX7_ends_115 : decode cX7_ends 115 = .ok (.getfield 248, 3) := by decide +kernel
theorem dX7_ends_118 : decode cX7_ends 118 = .ok (.invokestatic 152, 3) := by decide +kernel
theorem dX7_ends_121 : decode cX7_ends 121 = .ok (.istore 6, 2) := by decide +kernel
theorem dX7_ends_123 : decode cX7_ends 123 = .ok (.iinc 7 1, 3) := by decide +kernel
theorem dX7_ends_126 : decode cX7_ends 126 = .ok (.goto (-73), 3) := by decide +kernel
theorem dX7_ends_129 : decode cX7_ends 129 = .ok (.aload_n 0, 1) := by decide +kernel
theorem dX7_ends_130 : decode cX7_ends 130 = .ok (.getfield 20, 3) := by decide +kernel
theorem dX7_ends_133 : decode cX7_ends 133 = .ok (.iload_n 2, 1) := by decide +kernel
theorem dX7_ends_134 : decode cX7_ends 134 = .ok (.iload 4, 2) := by decide +kernel
theorem dX7_ends_136 : decode cX7_ends 136 = .ok (.iastore, 1) := by decide +kernel
theorem dX7_ends_137 : decode cX7_ends 137 = .ok (.iload_n 3, 1) := by decide +kernel
theorem dX7_ends_138 : decode cX7_ends 138 = .ok (.ifCond .ne 8, 3) := by decide +kernel
theorem dX7_ends_141 : decode cX7_ends 141 = .ok (.iload 5, 2) := by decide +kernel
theorem dX7_ends_143 : decode cX7_ends 143 = .ok (.goto 5, 3) := by decide +kernel
theorem dX7_ends_146 : decode cX7_ends 146 = .ok (.iload 6, 2) := by decide +kernel
theorem dX7_ends_148 : decode cX7_ends 148 = .ok (.ireturn, 1) := by decide +kernel
theorem dX7_hangs_0 : decode cX7_hangs 0 = .ok (.aload_n 0, 1) := by decide +kernel
theorem dX7_hangs_1 : decode cX7_hangs 1 = .ok (.iconst 0, 1) := by decide +kernel
theorem dX7_hangs_2 : decode cX7_hangs 2 = .ok (.putfield 68, 3) := by decide +kernel
theorem dX7_hangs_5 : decode cX7_hangs 5 = .ok (.aload_n 0, 1) := by decide +kernel
theorem dX7_hangs_6 : decode cX7_hangs 6 = .ok (.iload_n 1, 1) := by decide +kernel
theorem dX7_hangs_7 : decode cX7_hangs 7 = .ok (.invokevirtual 139, 3) := by decide +kernel
theorem dX7_hangs_10 : decode cX7_hangs 10 = .ok (.ifCond .ne 5, 3) := by decide +kernel
theorem dX7_hangs_13 : decode cX7_hangs 13 = .ok (.iconst (-1), 1) := by decide +kernel
theorem dX7_hangs_14 : decode cX7_hangs 14 = .ok (.ireturn, 1) := by decide +kernel
theorem dX7_hangs_15 : decode cX7_hangs 15 = .ok (.iconst (-1), 1) := by decide +kernel
theorem dX7_hangs_16 : decode cX7_hangs 16 = .ok (.istore_n 2, 1) := by decide +kernel
theorem dX7_hangs_17 : decode cX7_hangs 17 = .ok (.iconst 0, 1) := by decide +kernel
theorem dX7_hangs_18 : decode cX7_hangs 18 = .ok (.istore_n 3, 1) := by decide +kernel
theorem dX7_hangs_19 : decode cX7_hangs 19 = .ok (.iconst 0, 1) := by decide +kernel
theorem dX7_hangs_20 : decode cX7_hangs 20 = .ok (.istore 4, 2) := by decide +kernel
theorem dX7_hangs_22 : decode cX7_hangs 22 = .ok (.iload 4, 2) := by decide +kernel
theorem dX7_hangs_24 : decode cX7_hangs 24 = .ok (.aload_n 0, 1) := by decide +kernel
theorem dX7_hangs_25 : decode cX7_hangs 25 = .ok (.getfield 146, 3) := by decide +kernel
theorem dX7_hangs_28 : decode cX7_hangs 28 = .ok (.if_icmp .ge 52, 3) := by decide +kernel
theorem dX7_hangs_31 : decode cX7_hangs 31 = .ok (.aload_n 0, 1) := by decide +kernel
theorem dX7_hangs_32 : decode cX7_hangs 32 = .ok (.iload_n 1, 1) := by decide +kernel
theorem dX7_hangs_33 : decode cX7_hangs 33 = .ok (.aload_n 0, 1) := by decide +kernel
theorem dX7_hangs_34 : decode cX7_hangs 34 = .ok (.invokevirtual 236, 3) := by decide +kernel
theorem dX7_hangs_37 : decode cX7_hangs 37 = .ok (.iconst 1, 1) := by decide +kernel
theorem dX7_hangs_38 : decode cX7_hangs 38 = .ok (.iload 4, 2) := by decide +kernel
theorem dX7_hangs_40 : decode cX7_hangs 40 = .ok (.ishl, 1) := by decide +kernel
theorem dX7_hangs_41 : decode cX7_hangs 41 = .ok (.iconst (-1), 1) := by decide +kernel
theorem dX7_hangs_42 : decode cX7_hangs 42 = .ok (.ixor, 1) := by decide +kernel
theorem dX7_hangs_43 : decode cX7_hangs 43 = .ok (.iand, 1) := by decide +kernel
theorem dX7_hangs_44 : decode cX7_hangs 44 = .ok (.invokevirtual 287, 3) := by decide +kernel
theorem dX7_hangs_47 : decode cX7_hangs 47 = .ok (.ifCond .eq 27, 3) := by decide +kernel
theorem dX7_hangs_50 : decode cX7_hangs 50 = .ok (.iload_n 2, 1) := by decide +kernel
theorem dX7_hangs_51 : decode cX7_hangs 51 = .ok (.iconst (-1), 1) := by decide +kernel
theorem dX7_hangs_52 : decode cX7_hangs 52 = .ok (.if_icmp .eq 14, 3) := by decide +kernel
theorem dX7_hangs_55 : decode cX7_hangs 55 = .ok (.aload_n 0, 1) := by decide +kernel
theorem dX7_hangs_56 : decode cX7_hangs 56 = .ok (.getfield 248, 3) := by decide +kernel
theorem dX7_hangs_59 : decode cX7_hangs 59 = .ok (.iload_n 3, 1) := by decide +kernel
theorem dX7_hangs_60 : decode cX7_hangs 60 = .ok (.if_icmp .lt 6, 3) := by decide +kernel
theorem dX7_hangs_63 : decode cX7_hangs 63 = .ok (.goto 11, 3) := by decide +kernel
theorem dX7_hangs_66 : decode cX7_hangs 66 = .ok (.iload 4, 2) := by decide +kernel
theorem dX7_hangs_68 : decode cX7_hangs 68 = .ok (.istore_n 2, 1) := by decide +kernel
theorem dX7_hangs_69 : decode cX7_hangs 69 = .ok (.aload_n 0, 1) := by decide +kernel
theorem dX7_hangs_70 : decode cX7_hangs 70 = .ok (.getfield 248, 3) := by decide +kernel
theorem dX7_hangs_73 : decode cX7_hangs 73 = .ok (.istore_n 3, 1) := by decide +kernel
theorem dX7_hangs_74 : decode cX7_hangs 74 = .ok (.iinc 4 1, 3) := by decide +kernel
theorem dX7_hangs_77 : decode cX7_hangs 77 = .ok (.goto (-55), 3) := by decide +kernel
theorem dX7_hangs_80 : decode cX7_hangs 80 = .ok (.iload_n 2, 1) := by decide +kernel
theorem dX7_hangs_81 : decode cX7_hangs 81 = .ok (.ireturn, 1) := by decide +kernel
theorem dX7_told_0 : decode cX7_told 0 = .ok (.aload_n 0, 1) := by decide +kernel
theorem dX7_told_1 : decode cX7_told 1 = .ok (.iconst 0, 1) := by decide +kernel
theorem dX7_told_2 : decode cX7_told 2 = .ok (.putfield 68, 3) := by decide +kernel
theorem dX7_told_5 : decode cX7_told 5 = .ok (.aload_n 0, 1) := by decide +kernel
theorem dX7_told_6 : decode cX7_told 6 = .ok (.iload_n 1, 1) := by decide +kernel
theorem dX7_told_7 : decode cX7_told 7 = .ok (.invokevirtual 139, 3) := by decide +kernel
theorem dX7_told_10 : decode cX7_told 10 = .ok (.ifCond .eq 33, 3) := by decide +kernel
theorem dX7_told_13 : decode cX7_told 13 = .ok (.aload_n 0, 1) := by decide +kernel
theorem dX7_told_14 : decode cX7_told 14 = .ok (.iload_n 2, 1) := by decide +kernel
theorem dX7_told_15 : decode cX7_told 15 = .ok (.invokevirtual 149, 3) := by decide +kernel
theorem dX7_told_18 : decode cX7_told 18 = .ok (.ifCond .eq 25, 3) := by decide +kernel
theorem dX7_told_21 : decode cX7_told 21 = .ok (.iload_n 3, 1) := by decide +kernel
theorem dX7_told_22 : decode cX7_told 22 = .ok (.iconst 0, 1) := by decide +kernel
theorem dX7_told_23 : decode cX7_told 23 = .ok (.iconst 5, 1) := by decide +kernel
theorem dX7_told_24 : decode cX7_told 24 = .ok (.invokestatic 107, 3) := by decide +kernel
theorem dX7_told_27 : decode cX7_told 27 = .ok (.ifCond .eq 16, 3) := by decide +kernel
theorem dX7_told_30 : decode cX7_told 30 = .ok (.aload_n 0, 1) := by decide +kernel
theorem dX7_told_31 : decode cX7_told 31 = .ok (.getfield 32, 3) := by decide +kernel
theorem dX7_told_34 : decode cX7_told 34 = .ok (.iload_n 2, 1) := by decide +kernel
theorem dX7_told_35 : decode cX7_told 35 = .ok (.iaload, 1) := by decide +kernel
theorem dX7_told_36 : decode cX7_told 36 = .ok (.iload_n 3, 1) := by decide +kernel
theorem dX7_told_37 : decode cX7_told 37 = .ok (.invokestatic 157, 3) := by decide +kernel
theorem dX7_told_40 : decode cX7_told 40 = .ok (.ifCond .ne 6, 3) := by decide +kernel
theorem dX7_told_43 : decode cX7_told 43 = .ok (.ldc 216, 2) := by decide +kernel
theorem dX7_told_45 : decode cX7_told 45 = .ok (.ireturn, 1) := by decide +kernel
theorem dX7_told_46 : decode cX7_told 46 = .ok (.aload_n 0, 1) := by decide +kernel
theorem dX7_told_47 : decode cX7_told 47 = .ok (.getfield 32, 3) := by decide +kernel
theorem dX7_told_50 : decode cX7_told 50 = .ok (.iload_n 2, 1) := by decide +kernel
theorem dX7_told_51 : decode cX7_told 51 = .ok (.iaload, 1) := by decide +kernel
theorem dX7_told_52 : decode cX7_told 52 = .ok (.istore 4, 2) := by decide +kernel
theorem dX7_told_54 : decode cX7_told 54 = .ok (.aload_n 0, 1) := by decide +kernel
theorem dX7_told_55 : decode cX7_told 55 = .ok (.getfield 32, 3) := by decide +kernel
theorem dX7_told_58 : decode cX7_told 58 = .ok (.iload_n 2, 1) := by decide +kernel
theorem dX7_told_59 : decode cX7_told 59 = .ok (.iconst 1, 1) := by decide +kernel
theorem dX7_told_60 : decode cX7_told 60 = .ok (.iload_n 3, 1) := by decide +kernel
theorem dX7_told_61 : decode cX7_told 61 = .ok (.ishl, 1) := by decide +kernel
theorem dX7_told_62 : decode cX7_told 62 = .ok (.iastore, 1) := by decide +kernel
theorem dX7_told_63 : decode cX7_told 63 = .ok (.aload_n 0, 1) := by decide +kernel
theorem dX7_told_64 : decode cX7_told 64 = .ok (.iload_n 1, 1) := by decide +kernel
theorem dX7_told_65 : decode cX7_told 65 = .ok (.aload_n 0, 1) := by decide +kernel
theorem dX7_told_66 : decode cX7_told 66 = .ok (.invokevirtual 236, 3) := by decide +kernel
theorem dX7_told_69 : decode cX7_told 69 = .ok (.invokevirtual 287, 3) := by decide +kernel
theorem dX7_told_72 : decode cX7_told 72 = .ok (.istore 5, 2) := by decide +kernel
theorem dX7_told_74 : decode cX7_told 74 = .ok (.aload_n 0, 1) := by decide +kernel
theorem dX7_told_75 : decode cX7_told 75 = .ok (.getfield 32, 3) := by decide +kernel
theorem dX7_told_78 : decode cX7_told 78 = .ok (.iload_n 2, 1) := by decide +kernel
theorem dX7_told_79 : decode cX7_told 79 = .ok (.iload 4, 2) := by decide +kernel
theorem dX7_told_81 : decode cX7_told 81 = .ok (.iastore, 1) := by decide +kernel
theorem dX7_told_82 : decode cX7_told 82 = .ok (.iload 5, 2) := by decide +kernel
theorem dX7_told_84 : decode cX7_told 84 = .ok (.ifCond .eq 10, 3) := by decide +kernel
theorem dX7_told_87 : decode cX7_told 87 = .ok (.aload_n 0, 1) := by decide +kernel
theorem dX7_told_88 : decode cX7_told 88 = .ok (.getfield 248, 3) := by decide +kernel
theorem dX7_told_91 : decode cX7_told 91 = .ok (.goto 5, 3) := by decide +kernel
theorem dX7_told_94 : decode cX7_told 94 = .ok (.ldc 216, 2) := by decide +kernel
theorem dX7_told_96 : decode cX7_told 96 = .ok (.ireturn, 1) := by decide +kernel
theorem dX7_layers_0 : decode cX7_layers 0 = .ok (.aload_n 0, 1) := by decide +kernel
theorem dX7_layers_1 : decode cX7_layers 1 = .ok (.iconst 0, 1) := by decide +kernel
theorem dX7_layers_2 : decode cX7_layers 2 = .ok (.putfield 68, 3) := by decide +kernel
theorem dX7_layers_5 : decode cX7_layers 5 = .ok (.iload_n 1, 1) := by decide +kernel
theorem dX7_layers_6 : decode cX7_layers 6 = .ok (.iconst 1, 1) := by decide +kernel
theorem dX7_layers_7 : decode cX7_layers 7 = .ok (.if_icmp .lt 13, 3) := by decide +kernel
theorem dX7_layers_10 : decode cX7_layers 10 = .ok (.iload_n 1, 1) := by decide +kernel
theorem dX7_layers_11 : decode cX7_layers 11 = .ok (.iconst 1, 1) := by decide +kernel
theorem dX7_layers_12 : decode cX7_layers 12 = .ok (.aload_n 0, 1) := by decide +kernel
theorem dX7_layers_13 : decode cX7_layers 13 = .ok (.getfield 120, 3) := by decide +kernel
theorem dX7_layers_16 : decode cX7_layers 16 = .ok (.ishl, 1) := by decide +kernel
theorem dX7_layers_17 : decode cX7_layers 17 = .ok (.if_icmp .lt 6, 3) := by decide +kernel
theorem dX7_layers_20 : decode cX7_layers 20 = .ok (.ldc 216, 2) := by decide +kernel
theorem dX7_layers_22 : decode cX7_layers 22 = .ok (.ireturn, 1) := by decide +kernel
theorem dX7_layers_23 : decode cX7_layers 23 = .ok (.iload_n 2, 1) := by decide +kernel
theorem dX7_layers_24 : decode cX7_layers 24 = .ok (.ifCond .eq 137, 3) := by decide +kernel
theorem dX7_layers_27 : decode cX7_layers 27 = .ok (.iconst 0, 1) := by decide +kernel
theorem dX7_layers_28 : decode cX7_layers 28 = .ok (.istore_n 3, 1) := by decide +kernel
theorem dX7_layers_29 : decode cX7_layers 29 = .ok (.iconst 0, 1) := by decide +kernel
theorem dX7_layers_30 : decode cX7_layers 30 = .ok (.istore 4, 2) := by decide +kernel
theorem dX7_layers_32 : decode cX7_layers 32 = .ok (.iload 4, 2) := by decide +kernel
theorem dX7_layers_34 : decode cX7_layers 34 = .ok (.aload_n 0, 1) := by decide +kernel
theorem dX7_layers_35 : decode cX7_layers 35 = .ok (.getfield 120, 3) := by decide +kernel
theorem dX7_layers_38 : decode cX7_layers 38 = .ok (.if_icmp .ge 38, 3) := by decide +kernel
theorem dX7_layers_41 : decode cX7_layers 41 = .ok (.iload_n 3, 1) := by decide +kernel
theorem dX7_layers_42 : decode cX7_layers 42 = .ok (.ifCond .ne 22, 3) := by decide +kernel
theorem dX7_layers_45 : decode cX7_layers 45 = .ok (.iload_n 1, 1) := by decide +kernel
theorem dX7_layers_46 : decode cX7_layers 46 = .ok (.iload 4, 2) := by decide +kernel
theorem dX7_layers_48 : decode cX7_layers 48 = .ok (.invokestatic 157, 3) := by decide +kernel
theorem dX7_layers_51 : decode cX7_layers 51 = .ok (.ifCond .eq 17, 3) := by decide +kernel
theorem dX7_layers_54 : decode cX7_layers 54 = .ok (.aload_n 0, 1) := by decide +kernel
theorem dX7_layers_55 : decode cX7_layers 55 = .ok (.iload 4, 2) := by decide +kernel
theorem dX7_layers_57 : decode cX7_layers 57 = .ok (.iconst 3, 1) := by decide +kernel
theorem dX7_layers_58 : decode cX7_layers 58 = .ok (.invokevirtual 142, 3) := by decide +kernel
theorem dX7_layers_61 : decode cX7_layers 61 = .ok (.ifCond .ne 7, 3) := by decide +kernel
theorem dX7_layers_64 : decode cX7_layers 64 = .ok (.iconst 1, 1) := by decide +kernel
theorem dX7_layers_65 : decode cX7_layers 65 = .ok (.goto 4, 3) := by decide +kernel
theorem dX7_layers_68 : decode cX7_layers 68 = .ok (.iconst 0, 1) := by decide +kernel
theorem dX7_layers_69 : decode cX7_layers 69 = .ok (.istore_n 3, 1) := by decide +kernel
theorem dX7_layers_70 : decode cX7_layers 70 = .ok (.iinc 4 1, 3) := by decide +kernel
theorem dX7_layers_73 : decode cX7_layers 73 = .ok (.goto (-41), 3) := by decide +kernel
theorem dX7_layers_76 : decode cX7_layers 76 = .ok (.aload_n 0, 1) := by decide +kernel
theorem dX7_layers_77 : decode cX7_layers 77 = .ok (.getfield 146, 3) := by decide +kernel
theorem dX7_layers_80 : decode cX7_layers 80 = .ok (.bipush 8, 2) := by decide +kernel
theorem dX7_layers_82 : decode cX7_layers 82 = .ok (.if_icmp .le 10, 3) := by decide +kernel
theorem dX7_layers_85 : decode cX7_layers 85 = .ok (.iload_n 3, 1) := by decide +kernel
theorem dX7_layers_86 : decode cX7_layers 86 = .ok (.ifCond .ne 6, 3) := by decide +kernel
theorem dX7_layers_89 : decode cX7_layers 89 = .ok (.ldc 216, 2) := by decide +kernel
theorem dX7_layers_91 : decode cX7_layers 91 = .ok (.ireturn, 1) := by decide +kernel
theorem dX7_layers_92 : decode cX7_layers 92 = .ok (.aload_n 0, 1) := by decide +kernel
theorem dX7_layers_93 : decode cX7_layers 93 = .ok (.iload_n 1, 1) := by decide +kernel
theorem dX7_layers_94 : decode cX7_layers 94 = .ok (.putfield 230, 3) := by decide +kernel
theorem dX7_layers_97 : decode cX7_layers 97 = .ok (.aload_n 0, 1) := by decide +kernel
theorem dX7_layers_98 : decode cX7_layers 98 = .ok (.iconst 1, 1) := by decide +kernel
theorem dX7_layers_99 : decode cX7_layers 99 = .ok (.putfield 226, 3) := by decide +kernel
theorem dX7_layers_102 : decode cX7_layers 102 = .ok (.aload_n 0, 1) := by decide +kernel
theorem dX7_layers_103 : decode cX7_layers 103 = .ok (.aload_n 0, 1) := by decide +kernel
theorem dX7_layers_104 : decode cX7_layers 104 = .ok (.invokevirtual 236, 3) := by decide +kernel
theorem dX7_layers_107 : decode cX7_layers 107 = .ok (.putfield 269, 3) := by decide +kernel
theorem dX7_layers_110 : decode cX7_layers 110 = .ok (.aload_n 0, 1) := by decide +kernel
theorem dX7_layers_111 : decode cX7_layers 111 = .ok (.iconst 0, 1) := by decide +kernel
theorem dX7_layers_112 : decode cX7_layers 112 = .ok (.putfield 245, 3) := by decide +kernel
theorem dX7_layers_115 : decode cX7_layers 115 = .ok (.aload_n 0, 1) := by decide +kernel
theorem dX7_layers_116 : decode cX7_layers 116 = .ok (.iconst 0, 1) := by decide +kernel
theorem dX7_layers_117 : decode cX7_layers 117 = .ok (.putfield 184, 3) := by decide +kernel
theorem dX7_layers_120 : decode cX7_layers 120 = .ok (.aload_n 0, 1) := by decide +kernel
theorem dX7_layers_121 : decode cX7_layers 121 = .ok (.invokevirtual 284, 3) := by decide +kernel
theorem dX7_layers_124 : decode cX7_layers 124 = .ok (.iload_n 3, 1) := by decide +kernel
theorem dX7_layers_125 : decode cX7_layers 125 = .ok (.ifCond .eq 14, 3) := by decide +kernel
theorem dX7_layers_128 : decode cX7_layers 128 = .ok (.aload_n 0, 1) := by decide +kernel
theorem dX7_layers_129 : decode cX7_layers 129 = .ok (.aload_n 0, 1) := by decide +kernel
theorem dX7_layers_130 : decode cX7_layers 130 = .ok (.invokevirtual 236, 3) := by decide +kernel
theorem dX7_layers_133 : decode cX7_layers 133 = .ok (.invokevirtual 278, 3) := by decide +kernel
theorem dX7_layers_136 : decode cX7_layers 136 = .ok (.goto 8, 3) := by decide +kernel
theorem dX7_layers_139 : decode cX7_layers 139 = .ok (.aload_n 0, 1) := by decide +kernel
theorem dX7_layers_140 : decode cX7_layers 140 = .ok (.iconst 0, 1) := by decide +kernel
theorem dX7_layers_141 : decode cX7_layers 141 = .ok (.invokevirtual 272, 3) := by decide +kernel
theorem dX7_layers_144 : decode cX7_layers 144 = .ok (.aload_n 0, 1) := by decide +kernel
theorem dX7_layers_145 : decode cX7_layers 145 = .ok (.getfield 245, 3) := by decide +kernel
theorem dX7_layers_148 : decode cX7_layers 148 = .ok (.ifCond .eq 10, 3) := by decide +kernel
theorem dX7_layers_151 : decode cX7_layers 151 = .ok (.aload_n 0, 1) := by decide +kernel
theorem dX7_layers_152 : decode cX7_layers 152 = .ok (.getfield 248, 3) := by decide +kernel
theorem dX7_layers_155 : decode cX7_layers 155 = .ok (.goto 5, 3) := by decide +kernel
theorem dX7_layers_158 : decode cX7_layers 158 = .ok (.ldc 216, 2) := by decide +kernel
theorem dX7_layers_160 : decode cX7_layers 160 = .ok (.ireturn, 1) := by decide +kernel
theorem dX7_layers_161 : decode cX7_layers 161 = .ok (.iconst 0, 1) := by decide +kernel
theorem dX7_layers_162 : decode cX7_layers 162 = .ok (.istore_n 3, 1) := by decide +kernel
theorem dX7_layers_163 : decode cX7_layers 163 = .ok (.iconst 0, 1) := by decide +kernel
theorem dX7_layers_164 : decode cX7_layers 164 = .ok (.istore 4, 2) := by decide +kernel
theorem dX7_layers_166 : decode cX7_layers 166 = .ok (.iload 4, 2) := by decide +kernel
theorem dX7_layers_168 : decode cX7_layers 168 = .ok (.aload_n 0, 1) := by decide +kernel
theorem dX7_layers_169 : decode cX7_layers 169 = .ok (.getfield 120, 3) := by decide +kernel
theorem dX7_layers_172 : decode cX7_layers 172 = .ok (.if_icmp .ge 44, 3) := by decide +kernel
theorem dX7_layers_175 : decode cX7_layers 175 = .ok (.iload_n 1, 1) := by decide +kernel
theorem dX7_layers_176 : decode cX7_layers 176 = .ok (.iload 4, 2) := by decide +kernel
theorem dX7_layers_178 : decode cX7_layers 178 = .ok (.invokestatic 157, 3) := by decide +kernel
theorem dX7_layers_181 : decode cX7_layers 181 = .ok (.ifCond .ne 6, 3) := by decide +kernel
theorem dX7_layers_184 : decode cX7_layers 184 = .ok (.goto 26, 3) := by decide +kernel
theorem dX7_layers_187 : decode cX7_layers 187 = .ok (.aload_n 0, 1) := by decide +kernel
theorem dX7_layers_188 : decode cX7_layers 188 = .ok (.iload 4, 2) := by decide +kernel
theorem dX7_layers_190 : decode cX7_layers 190 = .ok (.aload_n 0, 1) := by decide +kernel
theorem dX7_layers_191 : decode cX7_layers 191 = .ok (.invokevirtual 236, 3) := by decide +kernel
theorem dX7_layers_194 : decode cX7_layers 194 = .ok (.invokevirtual 287, 3) := by decide +kernel
theorem dX7_layers_197 : decode cX7_layers 197 = .ok (.ifCond .ne 6, 3) := by decide +kernel
theorem dX7_layers_200 : decode cX7_layers 200 = .ok (.ldc 216, 2) := by decide +kernel
theorem dX7_layers_202 : decode cX7_layers 202 = .ok (.ireturn, 1) := by decide +kernel
theorem dX7_layers_203 : decode cX7_layers 203 = .ok (.iload_n 3, 1) := by decide +kernel
theorem dX7_layers_204 : decode cX7_layers 204 = .ok (.aload_n 0, 1) := by decide +kernel
theorem dX7_layers_205 : decode cX7_layers 205 = .ok (.getfield 248, 3) := by decide +kernel
theorem dX7_layers_208 : decode cX7_layers 208 = .ok (.iadd, 1) := by decide +kernel
theorem dX7_layers_209 : decode cX7_layers 209 = .ok (.istore_n 3, 1) := by decide +kernel
theorem dX7_layers_210 : decode cX7_layers 210 = .ok (.iinc 4 1, 3) := by decide +kernel
theorem dX7_layers_213 : decode cX7_layers 213 = .ok (.goto (-47), 3) := by decide +kernel
theorem dX7_layers_216 : decode cX7_layers 216 = .ok (.iload_n 3, 1) := by decide +kernel
theorem dX7_layers_217 : decode cX7_layers 217 = .ok (.ireturn, 1) := by decide +kernel
theorem dX7_isTurn_0 : decode cX7_isTurn 0 = .ok (.iload_n 1, 1) := by decide +kernel
theorem dX7_isTurn_1 : decode cX7_isTurn 1 = .ok (.iconst 1, 1) := by decide +kernel
theorem dX7_isTurn_2 : decode cX7_isTurn 2 = .ok (.if_icmp .ne 5, 3) := by decide +kernel
theorem dX7_isTurn_5 : decode cX7_isTurn 5 = .ok (.iconst 1, 1) := by decide +kernel
theorem dX7_isTurn_6 : decode cX7_isTurn 6 = .ok (.ireturn, 1) := by decide +kernel
theorem dX7_isTurn_7 : decode cX7_isTurn 7 = .ok (.iconst 0, 1) := by decide +kernel
theorem dX7_isTurn_8 : decode cX7_isTurn 8 = .ok (.istore_n 2, 1) := by decide +kernel
theorem dX7_isTurn_9 : decode cX7_isTurn 9 = .ok (.iload_n 2, 1) := by decide +kernel
theorem dX7_isTurn_10 : decode cX7_isTurn 10 = .ok (.aload_n 0, 1) := by decide +kernel
theorem dX7_isTurn_11 : decode cX7_isTurn 11 = .ok (.getfield 146, 3) := by decide +kernel
theorem dX7_isTurn_14 : decode cX7_isTurn 14 = .ok (.if_icmp .ge 46, 3) := by decide +kernel
theorem dX7_isTurn_17 : decode cX7_isTurn 17 = .ok (.iconst 0, 1) := by decide +kernel
theorem dX7_isTurn_18 : decode cX7_isTurn 18 = .ok (.istore_n 3, 1) := by decide +kernel
theorem dX7_isTurn_19 : decode cX7_isTurn 19 = .ok (.iload_n 3, 1) := by decide +kernel
theorem dX7_isTurn_20 : decode cX7_isTurn 20 = .ok (.aload_n 0, 1) := by decide +kernel
theorem dX7_isTurn_21 : decode cX7_isTurn 21 = .ok (.getfield 146, 3) := by decide +kernel
theorem dX7_isTurn_24 : decode cX7_isTurn 24 = .ok (.if_icmp .ge 30, 3) := by decide +kernel
theorem dX7_isTurn_27 : decode cX7_isTurn 27 = .ok (.aload_n 0, 1) := by decide +kernel
theorem dX7_isTurn_28 : decode cX7_isTurn 28 = .ok (.getfield 20, 3) := by decide +kernel
theorem dX7_isTurn_31 : decode cX7_isTurn 31 = .ok (.iload_n 2, 1) := by decide +kernel
theorem dX7_isTurn_32 : decode cX7_isTurn 32 = .ok (.iaload, 1) := by decide +kernel
theorem dX7_isTurn_33 : decode cX7_isTurn 33 = .ok (.aload_n 0, 1) := by decide +kernel
theorem dX7_isTurn_34 : decode cX7_isTurn 34 = .ok (.getfield 20, 3) := by decide +kernel
theorem dX7_isTurn_37 : decode cX7_isTurn 37 = .ok (.iload_n 3, 1) := by decide +kernel
theorem dX7_isTurn_38 : decode cX7_isTurn 38 = .ok (.iaload, 1) := by decide +kernel
theorem dX7_isTurn_39 : decode cX7_isTurn 39 = .ok (.isub, 1) := by decide +kernel
theorem dX7_isTurn_40 : decode cX7_isTurn 40 = .ok (.iload_n 1, 1) := by decide +kernel
theorem dX7_isTurn_41 : decode cX7_isTurn 41 = .ok (.iconst 1, 1) := by decide +kernel
theorem dX7_isTurn_42 : decode cX7_isTurn 42 = .ok (.isub, 1) := by decide +kernel
theorem dX7_isTurn_43 : decode cX7_isTurn 43 = .ok (.if_icmp .ne 5, 3) := by decide +kernel
theorem dX7_isTurn_46 : decode cX7_isTurn 46 = .ok (.iconst 1, 1) := by decide +kernel
theorem dX7_isTurn_47 : decode cX7_isTurn 47 = .ok (.ireturn, 1) := by decide +kernel
theorem dX7_isTurn_48 : decode cX7_isTurn 48 = .ok (.iinc 3 1, 3) := by decide +kernel
theorem dX7_isTurn_51 : decode cX7_isTurn 51 = .ok (.goto (-32), 3) := by decide +kernel
theorem dX7_isTurn_54 : decode cX7_isTurn 54 = .ok (.iinc 2 1, 3) := by decide +kernel
theorem dX7_isTurn_57 : decode cX7_isTurn 57 = .ok (.goto (-48), 3) := by decide +kernel
theorem dX7_isTurn_60 : decode cX7_isTurn 60 = .ok (.iconst 0, 1) := by decide +kernel
theorem dX7_isTurn_61 : decode cX7_isTurn 61 = .ok (.ireturn, 1) := by decide +kernel
theorem dX7_nearest_0 : decode cX7_nearest 0 = .ok (.aload_n 0, 1) := by decide +kernel
theorem dX7_nearest_1 : decode cX7_nearest 1 = .ok (.iconst 0, 1) := by decide +kernel
theorem dX7_nearest_2 : decode cX7_nearest 2 = .ok (.putfield 68, 3) := by decide +kernel
theorem dX7_nearest_5 : decode cX7_nearest 5 = .ok (.aload_n 0, 1) := by decide +kernel
theorem dX7_nearest_6 : decode cX7_nearest 6 = .ok (.iload_n 1, 1) := by decide +kernel
theorem dX7_nearest_7 : decode cX7_nearest 7 = .ok (.invokevirtual 139, 3) := by decide +kernel
theorem dX7_nearest_10 : decode cX7_nearest 10 = .ok (.ifCond .eq 12, 3) := by decide +kernel
theorem dX7_nearest_13 : decode cX7_nearest 13 = .ok (.iload_n 2, 1) := by decide +kernel
theorem dX7_nearest_14 : decode cX7_nearest 14 = .ok (.iconst 0, 1) := by decide +kernel
theorem dX7_nearest_15 : decode cX7_nearest 15 = .ok (.iconst 1, 1) := by decide +kernel
theorem dX7_nearest_16 : decode cX7_nearest 16 = .ok (.invokestatic 107, 3) := by decide +kernel
theorem dX7_nearest_19 : decode cX7_nearest 19 = .ok (.ifCond .ne 6, 3) := by decide +kernel
theorem dX7_nearest_22 : decode cX7_nearest 22 = .ok (.ldc 216, 2) := by decide +kernel
theorem dX7_nearest_24 : decode cX7_nearest 24 = .ok (.ireturn, 1) := by decide +kernel
theorem dX7_nearest_25 : decode cX7_nearest 25 = .ok (.aload_n 0, 1) := by decide +kernel
theorem dX7_nearest_26 : decode cX7_nearest 26 = .ok (.iload_n 1, 1) := by decide +kernel
theorem dX7_nearest_27 : decode cX7_nearest 27 = .ok (.iconst 0, 1) := by decide +kernel
theorem dX7_nearest_28 : decode cX7_nearest 28 = .ok (.invokevirtual 142, 3) := by decide +kernel
theorem dX7_nearest_31 : decode cX7_nearest 31 = .ok (.istore_n 3, 1) := by decide +kernel
theorem dX7_nearest_32 : decode cX7_nearest 32 = .ok (.ldc 216, 2) := by decide +kernel
theorem dX7_nearest_34 : decode cX7_nearest 34 = .ok (.istore 4, 2) := by decide +kernel
theorem dX7_nearest_36 : decode cX7_nearest 36 = .ok (.iconst 0, 1) := by decide +kernel
theorem dX7_nearest_37 : decode cX7_nearest 37 = .ok (.istore 5, 2) := by decide +kernel
theorem dX7_nearest_39 : decode cX7_nearest 39 = .ok (.iconst 1, 1) := by decide +kernel
theorem dX7_nearest_40 : decode cX7_nearest 40 = .ok (.istore 6, 2) := by decide +kernel
theorem dX7_nearest_42 : decode cX7_nearest 42 = .ok (.iload 6, 2) := by decide +kernel
theorem dX7_nearest_44 : decode cX7_nearest 44 = .ok (.bipush 99, 2) := by decide +kernel
theorem dX7_nearest_46 : decode cX7_nearest 46 = .ok (.if_icmp .gt 83, 3) := by decide +kernel
theorem dX7_nearest_49 : decode cX7_nearest 49 = .ok (.aload_n 0, 1) := by decide +kernel
theorem dX7_nearest_50 : decode cX7_nearest 50 = .ok (.iload 6, 2) := by decide +kernel
theorem dX7_nearest_52 : decode cX7_nearest 52 = .ok (.invokevirtual 290, 3) := by decide +kernel
theorem dX7_nearest_55 : decode cX7_nearest 55 = .ok (.ifCond .ne 6, 3) := by decide +kernel
theorem dX7_nearest_58 : decode cX7_nearest 58 = .ok (.goto 65, 3) := by decide +kernel
theorem dX7_nearest_61 : decode cX7_nearest 61 = .ok (.aload_n 0, 1) := by decide +kernel
theorem dX7_nearest_62 : decode cX7_nearest 62 = .ok (.getfield 13, 3) := by decide +kernel
theorem dX7_nearest_65 : decode cX7_nearest 65 = .ok (.bipush 10, 2) := by decide +kernel
theorem dX7_nearest_67 : decode cX7_nearest 67 = .ok (.iload_n 1, 1) := by decide +kernel
theorem dX7_nearest_68 : decode cX7_nearest 68 = .ok (.imul, 1) := by decide +kernel
theorem dX7_nearest_69 : decode cX7_nearest 69 = .ok (.iload 6, 2) := by decide +kernel
theorem dX7_nearest_71 : decode cX7_nearest 71 = .ok (.iastore, 1) := by decide +kernel
theorem dX7_nearest_72 : decode cX7_nearest 72 = .ok (.aload_n 0, 1) := by decide +kernel
theorem dX7_nearest_73 : decode cX7_nearest 73 = .ok (.iload_n 1, 1) := by decide +kernel
theorem dX7_nearest_74 : decode cX7_nearest 74 = .ok (.aload_n 0, 1) := by decide +kernel
theorem dX7_nearest_75 : decode cX7_nearest 75 = .ok (.invokevirtual 236, 3) := by decide +kernel
theorem dX7_nearest_78 : decode cX7_nearest 78 = .ok (.invokevirtual 287, 3) := by decide +kernel
theorem dX7_nearest_81 : decode cX7_nearest 81 = .ok (.ifCond .eq 42, 3) := by decide +kernel
theorem dX7_nearest_84 : decode cX7_nearest 84 = .ok (.iload 4, 2) := by decide +kernel
theorem dX7_nearest_86 : decode cX7_nearest 86 = .ok (.ldc 216, 2) := by decide +kernel
theorem dX7_nearest_88 : decode cX7_nearest 88 = .ok (.if_icmp .eq 20, 3) := by decide +kernel
theorem dX7_nearest_91 : decode cX7_nearest 91 = .ok (.aload_n 0, 1) := by decide +kernel
theorem dX7_nearest_92 : decode cX7_nearest 92 = .ok (.getfield 248, 3) := by decide +kernel
theorem dX7_nearest_95 : decode cX7_nearest 95 = .ok (.aload_n 0, 1) := by decide +kernel
theorem dX7_nearest_96 : decode cX7_nearest 96 = .ok (.getfield 254, 3) := by decide +kernel
theorem dX7_nearest_99 : decode cX7_nearest 99 = .ok (.isub, 1) := by decide +kernel
theorem dX7_nearest_100 : decode cX7_nearest 100 = .ok (.iload 5, 2) := by decide +kernel
theorem dX7_nearest_102 : decode cX7_nearest 102 = .ok (.if_icmp .lt 6, 3) := by decide +kernel
theorem dX7_nearest_105 : decode cX7_nearest 105 = .ok (.goto 18, 3) := by decide +kernel
theorem dX7_nearest_108 : decode cX7_nearest 108 = .ok (.iload 6, 2) := by decide +kernel
theorem dX7_nearest_110 : decode cX7_nearest 110 = .ok (.istore 4, 2) := by decide +kernel
theorem dX7_nearest_112 : decode cX7_nearest 112 = .ok (.aload_n 0, 1) := by decide +kernel
theorem dX7_nearest_113 : decode cX7_nearest 113 = .ok (.getfield 248, 3) := by decide +kernel
theorem dX7_nearest_116 : decode cX7_nearest 116 = .ok (.aload_n 0, 1) := by decide +kernel
theorem dX7_nearest_117 : decode cX7_nearest 117 = .ok (.getfield 254, 3) := by decide +kernel
theorem dX7_nearest_120 : decode cX7_nearest 120 = .ok (.isub, 1) := by decide +kernel
theorem dX7_nearest_121 : decode cX7_nearest 121 = .ok (.istore 5, 2) := by decide +kernel
theorem dX7_nearest_123 : decode cX7_nearest 123 = .ok (.iinc 6 1, 3) := by decide +kernel
theorem dX7_nearest_126 : decode cX7_nearest 126 = .ok (.goto (-84), 3) := by decide +kernel
theorem dX7_nearest_129 : decode cX7_nearest 129 = .ok (.aload_n 0, 1) := by decide +kernel
theorem dX7_nearest_130 : decode cX7_nearest 130 = .ok (.getfield 13, 3) := by decide +kernel
theorem dX7_nearest_133 : decode cX7_nearest 133 = .ok (.bipush 10, 2) := by decide +kernel
theorem dX7_nearest_135 : decode cX7_nearest 135 = .ok (.iload_n 1, 1) := by decide +kernel
theorem dX7_nearest_136 : decode cX7_nearest 136 = .ok (.imul, 1) := by decide +kernel
theorem dX7_nearest_137 : decode cX7_nearest 137 = .ok (.iload_n 3, 1) := by decide +kernel
theorem dX7_nearest_138 : decode cX7_nearest 138 = .ok (.iastore, 1) := by decide +kernel
theorem dX7_nearest_139 : decode cX7_nearest 139 = .ok (.iload 4, 2) := by decide +kernel
theorem dX7_nearest_141 : decode cX7_nearest 141 = .ok (.ldc 216, 2) := by decide +kernel
theorem dX7_nearest_143 : decode cX7_nearest 143 = .ok (.if_icmp .eq 7, 3) := by decide +kernel
theorem dX7_nearest_146 : decode cX7_nearest 146 = .ok (.iload_n 2, 1) := by decide +kernel
theorem dX7_nearest_147 : decode cX7_nearest 147 = .ok (.ifCond .ne 8, 3) := by decide +kernel
theorem dX7_nearest_150 : decode cX7_nearest 150 = .ok (.iload 4, 2) := by decide +kernel
theorem dX7_nearest_152 : decode cX7_nearest 152 = .ok (.goto 5, 3) := by decide +kernel
theorem dX7_nearest_155 : decode cX7_nearest 155 = .ok (.iload 5, 2) := by decide +kernel
theorem dX7_nearest_157 : decode cX7_nearest 157 = .ok (.ireturn, 1) := by decide +kernel
theorem dX7_storm_0 : decode cX7_storm 0 = .ok (.aload_n 0, 1) := by decide +kernel
theorem dX7_storm_1 : decode cX7_storm 1 = .ok (.iconst 0, 1) := by decide +kernel
theorem dX7_storm_2 : decode cX7_storm 2 = .ok (.putfield 68, 3) := by decide +kernel
theorem dX7_storm_5 : decode cX7_storm 5 = .ok (.aload_n 0, 1) := by decide +kernel
theorem dX7_storm_6 : decode cX7_storm 6 = .ok (.getfield 293, 3) := by decide +kernel
theorem dX7_storm_9 : decode cX7_storm 9 = .ok (.bipush 12, 2) := by decide +kernel
theorem dX7_storm_11 : decode cX7_storm 11 = .ok (.if_icmp .eq 21, 3) := by decide +kernel
theorem dX7_storm_14 : decode cX7_storm 14 = .ok (.aload_n 0, 1) := by decide +kernel
theorem dX7_storm_15 : decode cX7_storm 15 = .ok (.iload_n 1, 1) := by decide +kernel
theorem dX7_storm_16 : decode cX7_storm 16 = .ok (.invokevirtual 172, 3) := by decide +kernel
theorem dX7_storm_19 : decode cX7_storm 19 = .ok (.ifCond .eq 13, 3) := by decide +kernel
theorem dX7_storm_22 : decode cX7_storm 22 = .ok (.iload_n 2, 1) := by decide +kernel
theorem dX7_storm_23 : decode cX7_storm 23 = .ok (.iconst 1, 1) := by decide +kernel
theorem dX7_storm_24 : decode cX7_storm 24 = .ok (.bipush 99, 2) := by decide +kernel
theorem dX7_storm_26 : decode cX7_storm 26 = .ok (.invokestatic 107, 3) := by decide +kernel
theorem dX7_storm_29 : decode cX7_storm 29 = .ok (.ifCond .ne 5, 3) := by decide +kernel
theorem dX7_storm_32 : decode cX7_storm 32 = .ok (.iconst (-1), 1) := by decide +kernel
theorem dX7_storm_33 : decode cX7_storm 33 = .ok (.ireturn, 1) := by decide +kernel
theorem dX7_storm_34 : decode cX7_storm 34 = .ok (.aload_n 0, 1) := by decide +kernel
theorem dX7_storm_35 : decode cX7_storm 35 = .ok (.getfield 62, 3) := by decide +kernel
theorem dX7_storm_38 : decode cX7_storm 38 = .ok (.aload_n 0, 1) := by decide +kernel
theorem dX7_storm_39 : decode cX7_storm 39 = .ok (.getfield 293, 3) := by decide +kernel
theorem dX7_storm_42 : decode cX7_storm 42 = .ok (.iload_n 1, 1) := by decide +kernel
theorem dX7_storm_43 : decode cX7_storm 43 = .ok (.iastore, 1) := by decide +kernel
theorem dX7_storm_44 : decode cX7_storm 44 = .ok (.aload_n 0, 1) := by decide +kernel
theorem dX7_storm_45 : decode cX7_storm 45 = .ok (.getfield 65, 3) := by decide +kernel
theorem dX7_storm_48 : decode cX7_storm 48 = .ok (.aload_n 0, 1) := by decide +kernel
theorem dX7_storm_49 : decode cX7_storm 49 = .ok (.getfield 293, 3) := by decide +kernel
theorem dX7_storm_52 : decode cX7_storm 52 = .ok (.iload_n 2, 1) := by decide +kernel
theorem dX7_storm_53 : decode cX7_storm 53 = .ok (.iastore, 1) := by decide +kernel
theorem dX7_storm_54 : decode cX7_storm 54 = .ok (.aload_n 0, 1) := by decide +kernel
theorem dX7_storm_55 : decode cX7_storm 55 = .ok (.dup, 1) := by decide +kernel
theorem dX7_storm_56 : decode cX7_storm 56 = .ok (.getfield 293, 3) := by decide +kernel
theorem dX7_storm_59 : decode cX7_storm 59 = .ok (.iconst 1, 1) := by decide +kernel
theorem dX7_storm_60 : decode cX7_storm 60 = .ok (.iadd, 1) := by decide +kernel
theorem dX7_storm_61 : decode cX7_storm 61 = .ok (.putfield 293, 3) := by decide +kernel
theorem dX7_storm_64 : decode cX7_storm 64 = .ok (.aload_n 0, 1) := by decide +kernel
theorem dX7_storm_65 : decode cX7_storm 65 = .ok (.getfield 293, 3) := by decide +kernel
theorem dX7_storm_68 : decode cX7_storm 68 = .ok (.ireturn, 1) := by decide +kernel
theorem dX7_mean_0 : decode cX7_mean 0 = .ok (.aload_n 0, 1) := by decide +kernel
theorem dX7_mean_1 : decode cX7_mean 1 = .ok (.iconst 0, 1) := by decide +kernel
theorem dX7_mean_2 : decode cX7_mean 2 = .ok (.putfield 68, 3) := by decide +kernel
theorem dX7_mean_5 : decode cX7_mean 5 = .ok (.aload_n 0, 1) := by decide +kernel
theorem dX7_mean_6 : decode cX7_mean 6 = .ok (.iload_n 1, 1) := by decide +kernel
theorem dX7_mean_7 : decode cX7_mean 7 = .ok (.invokevirtual 139, 3) := by decide +kernel
theorem dX7_mean_10 : decode cX7_mean 10 = .ok (.ifCond .eq 12, 3) := by decide +kernel
theorem dX7_mean_13 : decode cX7_mean 13 = .ok (.iload_n 2, 1) := by decide +kernel
theorem dX7_mean_14 : decode cX7_mean 14 = .ok (.iconst 0, 1) := by decide +kernel
theorem dX7_mean_15 : decode cX7_mean 15 = .ok (.iconst 2, 1) := by decide +kernel
theorem dX7_mean_16 : decode cX7_mean 16 = .ok (.invokestatic 107, 3) := by decide +kernel
theorem dX7_mean_19 : decode cX7_mean 19 = .ok (.ifCond .ne 6, 3) := by decide +kernel
theorem dX7_mean_22 : decode cX7_mean 22 = .ok (.ldc 216, 2) := by decide +kernel
theorem dX7_mean_24 : decode cX7_mean 24 = .ok (.ireturn, 1) := by decide +kernel
theorem dX7_mean_25 : decode cX7_mean 25 = .ok (.iconst 0, 1) := by decide +kernel
theorem dX7_mean_26 : decode cX7_mean 26 = .ok (.istore_n 3, 1) := by decide +kernel
theorem dX7_mean_27 : decode cX7_mean 27 = .ok (.iconst 0, 1) := by decide +kernel
theorem dX7_mean_28 : decode cX7_mean 28 = .ok (.istore 4, 2) := by decide +kernel
theorem dX7_mean_30 : decode cX7_mean 30 = .ok (.iload 4, 2) := by decide +kernel
theorem dX7_mean_32 : decode cX7_mean 32 = .ok (.aload_n 0, 1) := by decide +kernel
theorem dX7_mean_33 : decode cX7_mean 33 = .ok (.getfield 293, 3) := by decide +kernel
theorem dX7_mean_36 : decode cX7_mean 36 = .ok (.if_icmp .ge 85, 3) := by decide +kernel
theorem dX7_mean_39 : decode cX7_mean 39 = .ok (.aload_n 0, 1) := by decide +kernel
theorem dX7_mean_40 : decode cX7_mean 40 = .ok (.iload_n 1, 1) := by decide +kernel
theorem dX7_mean_41 : decode cX7_mean 41 = .ok (.aload_n 0, 1) := by decide +kernel
theorem dX7_mean_42 : decode cX7_mean 42 = .ok (.getfield 62, 3) := by decide +kernel
theorem dX7_mean_45 : decode cX7_mean 45 = .ok (.iload 4, 2) := by decide +kernel
theorem dX7_mean_47 : decode cX7_mean 47 = .ok (.iaload, 1) := by decide +kernel
theorem dX7_mean_48 : decode cX7_mean 48 = .ok (.invokevirtual 281, 3) := by decide +kernel
theorem dX7_mean_51 : decode cX7_mean 51 = .ok (.ifCond .ne 6, 3) := by decide +kernel
theorem dX7_mean_54 : decode cX7_mean 54 = .ok (.ldc 216, 2) := by decide +kernel
theorem dX7_mean_56 : decode cX7_mean 56 = .ok (.ireturn, 1) := by decide +kernel
theorem dX7_mean_57 : decode cX7_mean 57 = .ok (.aload_n 0, 1) := by decide +kernel
theorem dX7_mean_58 : decode cX7_mean 58 = .ok (.iload_n 1, 1) := by decide +kernel
theorem dX7_mean_59 : decode cX7_mean 59 = .ok (.aload_n 0, 1) := by decide +kernel
theorem dX7_mean_60 : decode cX7_mean 60 = .ok (.getfield 62, 3) := by decide +kernel
theorem dX7_mean_63 : decode cX7_mean 63 = .ok (.iload 4, 2) := by decide +kernel
theorem dX7_mean_65 : decode cX7_mean 65 = .ok (.iaload, 1) := by decide +kernel
theorem dX7_mean_66 : decode cX7_mean 66 = .ok (.invokevirtual 287, 3) := by decide +kernel
theorem dX7_mean_69 : decode cX7_mean 69 = .ok (.istore 5, 2) := by decide +kernel
theorem dX7_mean_71 : decode cX7_mean 71 = .ok (.iload_n 3, 1) := by decide +kernel
theorem dX7_mean_72 : decode cX7_mean 72 = .ok (.aload_n 0, 1) := by decide +kernel
theorem dX7_mean_73 : decode cX7_mean 73 = .ok (.getfield 65, 3) := by decide +kernel
theorem dX7_mean_76 : decode cX7_mean 76 = .ok (.iload 4, 2) := by decide +kernel
theorem dX7_mean_78 : decode cX7_mean 78 = .ok (.iaload, 1) := by decide +kernel
theorem dX7_mean_79 : decode cX7_mean 79 = .ok (.iload_n 2, 1) := by decide +kernel
theorem dX7_mean_80 : decode cX7_mean 80 = .ok (.iconst 2, 1) := by decide +kernel
theorem dX7_mean_81 : decode cX7_mean 81 = .ok (.if_icmp .ne 7, 3) := by decide +kernel
theorem dX7_mean_84 : decode cX7_mean 84 = .ok (.iconst 1, 1) := by decide +kernel
theorem dX7_mean_85 : decode cX7_mean 85 = .ok (.goto 27, 3) := by decide +kernel
theorem dX7_mean_88 : decode cX7_mean 88 = .ok (.iload 5, 2) := by decide +kernel
theorem dX7_mean_90 : decode cX7_mean 90 = .ok (.ifCond .ne 7, 3) := by decide +kernel
theorem dX7_mean_93 : decode cX7_mean 93 = .ok (.iconst 0, 1) := by decide +kernel
theorem dX7_mean_94 : decode cX7_mean 94 = .ok (.goto 18, 3) := by decide +kernel
theorem dX7_mean_97 : decode cX7_mean 97 = .ok (.iload_n 2, 1) := by decide +kernel
theorem dX7_mean_98 : decode cX7_mean 98 = .ok (.ifCond .ne 10, 3) := by decide +kernel
theorem dX7_mean_101 : decode cX7_mean 101 = .ok (.aload_n 0, 1) := by decide +kernel
theorem dX7_mean_102 : decode cX7_mean 102 = .ok (.getfield 248, 3) := by decide +kernel
theorem dX7_mean_105 : decode cX7_mean 105 = .ok (.goto 7, 3) := by decide +kernel
theorem dX7_mean_108 : decode cX7_mean 108 = .ok (.aload_n 0, 1) := by decide +kernel
theorem dX7_mean_109 : decode cX7_mean 109 = .ok (.getfield 254, 3) := by decide +kernel
theorem dX7_mean_112 : decode cX7_mean 112 = .ok (.imul, 1) := by decide +kernel
theorem dX7_mean_113 : decode cX7_mean 113 = .ok (.iadd, 1) := by decide +kernel
theorem dX7_mean_114 : decode cX7_mean 114 = .ok (.istore_n 3, 1) := by decide +kernel
theorem dX7_mean_115 : decode cX7_mean 115 = .ok (.iinc 4 1, 3) := by decide +kernel
theorem dX7_mean_118 : decode cX7_mean 118 = .ok (.goto (-88), 3) := by decide +kernel
theorem dX7_mean_121 : decode cX7_mean 121 = .ok (.iload_n 3, 1) := by decide +kernel
theorem dX7_mean_122 : decode cX7_mean 122 = .ok (.ireturn, 1) := by decide +kernel
theorem dX7_worthOf_0 : decode cX7_worthOf 0 = .ok (.aload_n 0, 1) := by decide +kernel
theorem dX7_worthOf_1 : decode cX7_worthOf 1 = .ok (.iconst (-1), 1) := by decide +kernel
theorem dX7_worthOf_2 : decode cX7_worthOf 2 = .ok (.putfield 296, 3) := by decide +kernel
theorem dX7_worthOf_5 : decode cX7_worthOf 5 = .ok (.iconst 0, 1) := by decide +kernel
theorem dX7_worthOf_6 : decode cX7_worthOf 6 = .ok (.istore_n 2, 1) := by decide +kernel
theorem dX7_worthOf_7 : decode cX7_worthOf 7 = .ok (.iconst 0, 1) := by decide +kernel
theorem dX7_worthOf_8 : decode cX7_worthOf 8 = .ok (.istore_n 3, 1) := by decide +kernel
theorem dX7_worthOf_9 : decode cX7_worthOf 9 = .ok (.iload_n 3, 1) := by decide +kernel
theorem dX7_worthOf_10 : decode cX7_worthOf 10 = .ok (.aload_n 0, 1) := by decide +kernel
theorem dX7_worthOf_11 : decode cX7_worthOf 11 = .ok (.getfield 146, 3) := by decide +kernel
theorem dX7_worthOf_14 : decode cX7_worthOf 14 = .ok (.if_icmp .ge 59, 3) := by decide +kernel
theorem dX7_worthOf_17 : decode cX7_worthOf 17 = .ok (.aload_n 0, 1) := by decide +kernel
theorem dX7_worthOf_18 : decode cX7_worthOf 18 = .ok (.iload_n 1, 1) := by decide +kernel
theorem dX7_worthOf_19 : decode cX7_worthOf 19 = .ok (.aload_n 0, 1) := by decide +kernel
theorem dX7_worthOf_20 : decode cX7_worthOf 20 = .ok (.invokevirtual 236, 3) := by decide +kernel
theorem dX7_worthOf_23 : decode cX7_worthOf 23 = .ok (.iconst 1, 1) := by decide +kernel
theorem dX7_worthOf_24 : decode cX7_worthOf 24 = .ok (.iload_n 3, 1) := by decide +kernel
theorem dX7_worthOf_25 : decode cX7_worthOf 25 = .ok (.ishl, 1) := by decide +kernel
theorem dX7_worthOf_26 : decode cX7_worthOf 26 = .ok (.iconst (-1), 1) := by decide +kernel
theorem dX7_worthOf_27 : decode cX7_worthOf 27 = .ok (.ixor, 1) := by decide +kernel
theorem dX7_worthOf_28 : decode cX7_worthOf 28 = .ok (.iand, 1) := by decide +kernel
theorem dX7_worthOf_29 : decode cX7_worthOf 29 = .ok (.invokevirtual 287, 3) := by decide +kernel
theorem dX7_worthOf_32 : decode cX7_worthOf 32 = .ok (.ifCond .ne 6, 3) := by decide +kernel
theorem dX7_worthOf_35 : decode cX7_worthOf 35 = .ok (.ldc 216, 2) := by decide +kernel
theorem dX7_worthOf_37 : decode cX7_worthOf 37 = .ok (.ireturn, 1) := by decide +kernel
theorem dX7_worthOf_38 : decode cX7_worthOf 38 = .ok (.aload_n 0, 1) := by decide +kernel
theorem dX7_worthOf_39 : decode cX7_worthOf 39 = .ok (.getfield 296, 3) := by decide +kernel
theorem dX7_worthOf_42 : decode cX7_worthOf 42 = .ok (.iconst (-1), 1) := by decide +kernel
theorem dX7_worthOf_43 : decode cX7_worthOf 43 = .ok (.if_icmp .eq 14, 3) := by decide +kernel
theorem dX7_worthOf_46 : decode cX7_worthOf 46 = .ok (.aload_n 0, 1) := by decide +kernel
theorem dX7_worthOf_47 : decode cX7_worthOf 47 = .ok (.getfield 248, 3) := by decide +kernel
theorem dX7_worthOf_50 : decode cX7_worthOf 50 = .ok (.iload_n 2, 1) := by decide +kernel
theorem dX7_worthOf_51 : decode cX7_worthOf 51 = .ok (.if_icmp .lt 6, 3) := by decide +kernel
theorem dX7_worthOf_54 : decode cX7_worthOf 54 = .ok (.goto 13, 3) := by decide +kernel
theorem dX7_worthOf_57 : decode cX7_worthOf 57 = .ok (.aload_n 0, 1) := by decide +kernel
theorem dX7_worthOf_58 : decode cX7_worthOf 58 = .ok (.iload_n 3, 1) := by decide +kernel
theorem dX7_worthOf_59 : decode cX7_worthOf 59 = .ok (.putfield 296, 3) := by decide +kernel
theorem dX7_worthOf_62 : decode cX7_worthOf 62 = .ok (.aload_n 0, 1) := by decide +kernel
theorem dX7_worthOf_63 : decode cX7_worthOf 63 = .ok (.getfield 248, 3) := by decide +kernel
theorem dX7_worthOf_66 : decode cX7_worthOf 66 = .ok (.istore_n 2, 1) := by decide +kernel
theorem dX7_worthOf_67 : decode cX7_worthOf 67 = .ok (.iinc 3 1, 3) := by decide +kernel
theorem dX7_worthOf_70 : decode cX7_worthOf 70 = .ok (.goto (-61), 3) := by decide +kernel
theorem dX7_worthOf_73 : decode cX7_worthOf 73 = .ok (.iload_n 2, 1) := by decide +kernel
theorem dX7_worthOf_74 : decode cX7_worthOf 74 = .ok (.ireturn, 1) := by decide +kernel
theorem dX7_game_0 : decode cX7_game 0 = .ok (.aload_n 0, 1) := by decide +kernel
theorem dX7_game_1 : decode cX7_game 1 = .ok (.iconst 0, 1) := by decide +kernel
theorem dX7_game_2 : decode cX7_game 2 = .ok (.putfield 68, 3) := by decide +kernel
theorem dX7_game_5 : decode cX7_game 5 = .ok (.aload_n 0, 1) := by decide +kernel
theorem dX7_game_6 : decode cX7_game 6 = .ok (.iload_n 1, 1) := by decide +kernel
theorem dX7_game_7 : decode cX7_game 7 = .ok (.invokevirtual 139, 3) := by decide +kernel
theorem dX7_game_10 : decode cX7_game 10 = .ok (.ifCond .eq 27, 3) := by decide +kernel
theorem dX7_game_13 : decode cX7_game 13 = .ok (.aload_n 0, 1) := by decide +kernel
theorem dX7_game_14 : decode cX7_game 14 = .ok (.iload_n 2, 1) := by decide +kernel
theorem dX7_game_15 : decode cX7_game 15 = .ok (.invokevirtual 139, 3) := by decide +kernel
theorem dX7_game_18 : decode cX7_game 18 = .ok (.ifCond .eq 19, 3) := by decide +kernel
theorem dX7_game_21 : decode cX7_game 21 = .ok (.iload_n 3, 1) := by decide +kernel
theorem dX7_game_22 : decode cX7_game 22 = .ok (.iconst 0, 1) := by decide +kernel
theorem dX7_game_23 : decode cX7_game 23 = .ok (.iconst 2, 1) := by decide +kernel
theorem dX7_game_24 : decode cX7_game 24 = .ok (.invokestatic 107, 3) := by decide +kernel
theorem dX7_game_27 : decode cX7_game 27 = .ok (.ifCond .eq 10, 3) := by decide +kernel
theorem dX7_game_30 : decode cX7_game 30 = .ok (.aload_n 0, 1) := by decide +kernel
theorem dX7_game_31 : decode cX7_game 31 = .ok (.getfield 146, 3) := by decide +kernel
theorem dX7_game_34 : decode cX7_game 34 = .ok (.ifCond .ne 6, 3) := by decide +kernel
theorem dX7_game_37 : decode cX7_game 37 = .ok (.ldc 216, 2) := by decide +kernel
theorem dX7_game_39 : decode cX7_game 39 = .ok (.ireturn, 1) := by decide +kernel
theorem dX7_game_40 : decode cX7_game 40 = .ok (.aload_n 0, 1) := by decide +kernel
theorem dX7_game_41 : decode cX7_game 41 = .ok (.iload_n 2, 1) := by decide +kernel
theorem dX7_game_42 : decode cX7_game 42 = .ok (.invokevirtual 299, 3) := by decide +kernel
theorem dX7_game_45 : decode cX7_game 45 = .ok (.istore 4, 2) := by decide +kernel
theorem dX7_game_47 : decode cX7_game 47 = .ok (.aload_n 0, 1) := by decide +kernel
theorem dX7_game_48 : decode cX7_game 48 = .ok (.getfield 296, 3) := by decide +kernel
theorem dX7_game_51 : decode cX7_game 51 = .ok (.istore 5, 2) := by decide +kernel
theorem dX7_game_53 : decode cX7_game 53 = .ok (.aload_n 0, 1) := by decide +kernel
theorem dX7_game_54 : decode cX7_game 54 = .ok (.iload_n 1, 1) := by decide +kernel
theorem dX7_game_55 : decode cX7_game 55 = .ok (.invokevirtual 299, 3) := by decide +kernel
theorem dX7_game_58 : decode cX7_game 58 = .ok (.istore 6, 2) := by decide +kernel
theorem dX7_game_60 : decode cX7_game 60 = .ok (.iload 6, 2) := by decide +kernel
theorem dX7_game_62 : decode cX7_game 62 = .ok (.ldc 216, 2) := by decide +kernel
theorem dX7_game_64 : decode cX7_game 64 = .ok (.if_icmp .eq 10, 3) := by decide +kernel
theorem dX7_game_67 : decode cX7_game 67 = .ok (.iload 4, 2) := by decide +kernel
theorem dX7_game_69 : decode cX7_game 69 = .ok (.ldc 216, 2) := by decide +kernel
theorem dX7_game_71 : decode cX7_game 71 = .ok (.if_icmp .ne 6, 3) := by decide +kernel
theorem dX7_game_74 : decode cX7_game 74 = .ok (.ldc 216, 2) := by decide +kernel
theorem dX7_game_76 : decode cX7_game 76 = .ok (.ireturn, 1) := by decide +kernel
theorem dX7_game_77 : decode cX7_game 77 = .ok (.iload 4, 2) := by decide +kernel
theorem dX7_game_79 : decode cX7_game 79 = .ok (.iload 6, 2) := by decide +kernel
theorem dX7_game_81 : decode cX7_game 81 = .ok (.if_icmp .le 7, 3) := by decide +kernel
theorem dX7_game_84 : decode cX7_game 84 = .ok (.iconst 1, 1) := by decide +kernel
theorem dX7_game_85 : decode cX7_game 85 = .ok (.goto 4, 3) := by decide +kernel
theorem dX7_game_88 : decode cX7_game 88 = .ok (.iconst 0, 1) := by decide +kernel
theorem dX7_game_89 : decode cX7_game 89 = .ok (.istore 7, 2) := by decide +kernel
theorem dX7_game_91 : decode cX7_game 91 = .ok (.iload_n 3, 1) := by decide +kernel
theorem dX7_game_92 : decode cX7_game 92 = .ok (.ifCond .ne 16, 3) := by decide +kernel
theorem dX7_game_95 : decode cX7_game 95 = .ok (.iload 7, 2) := by decide +kernel
theorem dX7_game_97 : decode cX7_game 97 = .ok (.ifCond .eq 7, 3) := by decide +kernel
theorem dX7_game_100 : decode cX7_game 100 = .ok (.iconst 1, 1) := by decide +kernel
theorem dX7_game_101 : decode cX7_game 101 = .ok (.goto 36, 3) := by decide +kernel
theorem dX7_game_104 : decode cX7_game 104 = .ok (.iconst 0, 1) := by decide +kernel
theorem dX7_game_105 : decode cX7_game 105 = .ok (.goto 32, 3) := by decide +kernel
theorem dX7_game_108 : decode cX7_game 108 = .ok (.iload_n 3, 1) := by decide +kernel
theorem dX7_game_109 : decode cX7_game 109 = .ok (.iconst 1, 1) := by decide +kernel
theorem dX7_game_110 : decode cX7_game 110 = .ok (.if_icmp .ne 13, 3) := by decide +kernel
theorem dX7_game_113 : decode cX7_game 113 = .ok (.iload 6, 2) := by decide +kernel
theorem dX7_game_115 : decode cX7_game 115 = .ok (.iload 4, 2) := by decide +kernel
theorem dX7_game_117 : decode cX7_game 117 = .ok (.invokestatic 152, 3) := by decide +kernel
theorem dX7_game_120 : decode cX7_game 120 = .ok (.goto 17, 3) := by decide +kernel
theorem dX7_game_123 : decode cX7_game 123 = .ok (.iload 7, 2) := by decide +kernel
theorem dX7_game_125 : decode cX7_game 125 = .ok (.ifCond .eq 8, 3) := by decide +kernel
theorem dX7_game_128 : decode cX7_game 128 = .ok (.iload 5, 2) := by decide +kernel
theorem dX7_game_130 : decode cX7_game 130 = .ok (.goto 7, 3) := by decide +kernel
theorem dX7_game_133 : decode cX7_game 133 = .ok (.aload_n 0, 1) := by decide +kernel
theorem dX7_game_134 : decode cX7_game 134 = .ok (.getfield 296, 3) := by decide +kernel
theorem dX7_game_137 : decode cX7_game 137 = .ok (.ireturn, 1) := by decide +kernel
theorem dX7_count_0 : decode cX7_count 0 = .ok (.aload_n 0, 1) := by decide +kernel
theorem dX7_count_1 : decode cX7_count 1 = .ok (.iconst 0, 1) := by decide +kernel
theorem dX7_count_2 : decode cX7_count 2 = .ok (.putfield 68, 3) := by decide +kernel
theorem dX7_count_5 : decode cX7_count 5 = .ok (.iload_n 1, 1) := by decide +kernel
theorem dX7_count_6 : decode cX7_count 6 = .ok (.tableswitch 50 0 3 #[30, 35, 40, 45], 30) := by decide +kernel
theorem dX7_count_36 : decode cX7_count 36 = .ok (.aload_n 0, 1) := by decide +kernel
theorem dX7_count_37 : decode cX7_count 37 = .ok (.getfield 120, 3) := by decide +kernel
theorem dX7_count_40 : decode cX7_count 40 = .ok (.ireturn, 1) := by decide +kernel
theorem dX7_count_41 : decode cX7_count 41 = .ok (.aload_n 0, 1) := by decide +kernel
theorem dX7_count_42 : decode cX7_count 42 = .ok (.getfield 146, 3) := by decide +kernel
theorem dX7_count_45 : decode cX7_count 45 = .ok (.ireturn, 1) := by decide +kernel
theorem dX7_count_46 : decode cX7_count 46 = .ok (.aload_n 0, 1) := by decide +kernel
theorem dX7_count_47 : decode cX7_count 47 = .ok (.getfield 293, 3) := by decide +kernel
theorem dX7_count_50 : decode cX7_count 50 = .ok (.ireturn, 1) := by decide +kernel
theorem dX7_count_51 : decode cX7_count 51 = .ok (.aload_n 0, 1) := by decide +kernel
theorem dX7_count_52 : decode cX7_count 52 = .ok (.getfield 72, 3) := by decide +kernel
theorem dX7_count_55 : decode cX7_count 55 = .ok (.ireturn, 1) := by decide +kernel
theorem dX7_count_56 : decode cX7_count 56 = .ok (.iconst (-1), 1) := by decide +kernel
theorem dX7_count_57 : decode cX7_count 57 = .ok (.ireturn, 1) := by decide +kernel
end
section
theorem dX0_init_0 : decode cX0_init 0 = .ok (.aload_n 0, 1) := by decide +kernel
theorem dX0_init_1 : decode cX0_init 1 = .ok (.invokespecial 3, 3) := by decide +kernel
theorem dX0_init_4 : decode cX0_init 4 = .ok (.aload_n 0, 1) := by decide +kernel
theorem dX0_init_5 : decode cX0_init 5 = .ok (.bipush 10, 2) := by decide +kernel
theorem dX0_init_7 : decode cX0_init 7 = .ok (.newarray .int, 2) := by decide +kernel
theorem dX0_init_9 : decode cX0_init 9 = .ok (.putfield 9, 3) := by decide +kernel
theorem dX0_init_12 : decode cX0_init 12 = .ok (.return_, 1) := by decide +kernel
theorem dX0_whatOf_0 : decode cX0_whatOf 0 = .ok (.ldc 15, 2) := by decide +kernel
theorem dX0_whatOf_2 : decode cX0_whatOf 2 = .ok (.iload_n 0, 1) := by decide +kernel
theorem dX0_whatOf_3 : decode cX0_whatOf 3 = .ok (.i2c, 1) := by decide +kernel
theorem dX0_whatOf_4 : decode cX0_whatOf 4 = .ok (.invokevirtual 17, 3) := by decide +kernel
theorem dX0_whatOf_7 : decode cX0_whatOf 7 = .ok (.ireturn, 1) := by decide +kernel
theorem dX0_forget_0 : decode cX0_forget 0 = .ok (.getstatic 23, 3) := by decide +kernel
theorem dX0_forget_3 : decode cX0_forget 3 = .ok (.iconst 0, 1) := by decide +kernel
theorem dX0_forget_4 : decode cX0_forget 4 = .ok (.aload_n 0, 1) := by decide +kernel
theorem dX0_forget_5 : decode cX0_forget 5 = .ok (.getfield 9, 3) := by decide +kernel
theorem dX0_forget_8 : decode cX0_forget 8 = .ok (.iconst 0, 1) := by decide +kernel
theorem dX0_forget_9 : decode cX0_forget 9 = .ok (.bipush 10, 2) := by decide +kernel
theorem dX0_forget_11 : decode cX0_forget 11 = .ok (.invokestatic 26, 3) := by decide +kernel
theorem dX0_forget_14 : decode cX0_forget 14 = .ok (.return_, 1) := by decide +kernel
theorem dX0_copyFrom_0 : decode cX0_copyFrom 0 = .ok (.aload_n 1, 1) := by decide +kernel
theorem dX0_copyFrom_1 : decode cX0_copyFrom 1 = .ok (.getfield 9, 3) := by decide +kernel
theorem dX0_copyFrom_4 : decode cX0_copyFrom 4 = .ok (.iconst 0, 1) := by decide +kernel
theorem dX0_copyFrom_5 : decode cX0_copyFrom 5 = .ok (.aload_n 0, 1) := by decide +kernel
theorem dX0_copyFrom_6 : decode cX0_copyFrom 6 = .ok (.getfield 9, 3) := by decide +kernel
theorem dX0_copyFrom_9 : decode cX0_copyFrom 9 = .ok (.iconst 0, 1) := by decide +kernel
theorem dX0_copyFrom_10 : decode cX0_copyFrom 10 = .ok (.bipush 10, 2) := by decide +kernel
theorem dX0_copyFrom_12 : decode cX0_copyFrom 12 = .ok (.invokestatic 26, 3) := by decide +kernel
theorem dX0_copyFrom_15 : decode cX0_copyFrom 15 = .ok (.return_, 1) := by decide +kernel
theorem dX0_tell_0 : decode cX0_tell 0 = .ok (.iload_n 1, 1) := by decide +kernel
theorem dX0_tell_1 : decode cX0_tell 1 = .ok (.iconst 0, 1) := by decide +kernel
theorem dX0_tell_2 : decode cX0_tell 2 = .ok (.bipush 9, 2) := by decide +kernel
theorem dX0_tell_4 : decode cX0_tell 4 = .ok (.invokestatic 32, 3) := by decide +kernel
theorem dX0_tell_7 : decode cX0_tell 7 = .ok (.ifCond .eq 20, 3) := by decide +kernel
theorem dX0_tell_10 : decode cX0_tell 10 = .ok (.iload_n 2, 1) := by decide +kernel
theorem dX0_tell_11 : decode cX0_tell 11 = .ok (.getstatic 36, 3) := by decide +kernel
theorem dX0_tell_14 : decode cX0_tell 14 = .ok (.iload_n 1, 1) := by decide +kernel
theorem dX0_tell_15 : decode cX0_tell 15 = .ok (.iaload, 1) := by decide +kernel
theorem dX0_tell_16 : decode cX0_tell 16 = .ok (.getstatic 39, 3) := by decide +kernel
theorem dX0_tell_19 : decode cX0_tell 19 = .ok (.iload_n 1, 1) := by decide +kernel
theorem dX0_tell_20 : decode cX0_tell 20 = .ok (.iaload, 1) := by decide +kernel
theorem dX0_tell_21 : decode cX0_tell 21 = .ok (.invokestatic 32, 3) := by decide +kernel
theorem dX0_tell_24 : decode cX0_tell 24 = .ok (.ifCond .ne 5, 3) := by decide +kernel
theorem dX0_tell_27 : decode cX0_tell 27 = .ok (.iconst 0, 1) := by decide +kernel
theorem dX0_tell_28 : decode cX0_tell 28 = .ok (.ireturn, 1) := by decide +kernel
theorem dX0_tell_29 : decode cX0_tell 29 = .ok (.aload_n 0, 1) := by decide +kernel
theorem dX0_tell_30 : decode cX0_tell 30 = .ok (.getfield 9, 3) := by decide +kernel
theorem dX0_tell_33 : decode cX0_tell 33 = .ok (.iload_n 1, 1) := by decide +kernel
theorem dX0_tell_34 : decode cX0_tell 34 = .ok (.iload_n 2, 1) := by decide +kernel
theorem dX0_tell_35 : decode cX0_tell 35 = .ok (.iastore, 1) := by decide +kernel
theorem dX0_tell_36 : decode cX0_tell 36 = .ok (.iconst 1, 1) := by decide +kernel
theorem dX0_tell_37 : decode cX0_tell 37 = .ok (.ireturn, 1) := by decide +kernel
theorem dX0_overlaps_0 : decode cX0_overlaps 0 = .ok (.aload_n 0, 1) := by decide +kernel
theorem dX0_overlaps_1 : decode cX0_overlaps 1 = .ok (.getfield 9, 3) := by decide +kernel
theorem dX0_overlaps_4 : decode cX0_overlaps 4 = .ok (.iconst 3, 1) := by decide +kernel
theorem dX0_overlaps_5 : decode cX0_overlaps 5 = .ok (.iaload, 1) := by decide +kernel
theorem dX0_overlaps_6 : decode cX0_overlaps 6 = .ok (.iconst 1, 1) := by decide +kernel
theorem dX0_overlaps_7 : decode cX0_overlaps 7 = .ok (.if_icmp .ne 7, 3) := by decide +kernel
theorem dX0_overlaps_10 : decode cX0_overlaps 10 = .ok (.iconst 1, 1) := by decide +kernel
theorem dX0_overlaps_11 : decode cX0_overlaps 11 = .ok (.goto 4, 3) := by decide +kernel
theorem dX0_overlaps_14 : decode cX0_overlaps 14 = .ok (.iconst 0, 1) := by decide +kernel
theorem dX0_overlaps_15 : decode cX0_overlaps 15 = .ok (.ireturn, 1) := by decide +kernel
theorem dX0_asksCauses_0 : decode cX0_asksCauses 0 = .ok (.aload_n 0, 1) := by decide +kernel
theorem dX0_asksCauses_1 : decode cX0_asksCauses 1 = .ok (.getfield 9, 3) := by decide +kernel
theorem dX0_asksCauses_4 : decode cX0_asksCauses 4 = .ok (.iconst 2, 1) := by decide +kernel
theorem dX0_asksCauses_5 : decode cX0_asksCauses 5 = .ok (.iaload, 1) := by decide +kernel
theorem dX0_asksCauses_6 : decode cX0_asksCauses 6 = .ok (.iconst 1, 1) := by decide +kernel
theorem dX0_asksCauses_7 : decode cX0_asksCauses 7 = .ok (.if_icmp .ne 7, 3) := by decide +kernel
theorem dX0_asksCauses_10 : decode cX0_asksCauses 10 = .ok (.iconst 1, 1) := by decide +kernel
theorem dX0_asksCauses_11 : decode cX0_asksCauses 11 = .ok (.goto 4, 3) := by decide +kernel
theorem dX0_asksCauses_14 : decode cX0_asksCauses 14 = .ok (.iconst 0, 1) := by decide +kernel
theorem dX0_asksCauses_15 : decode cX0_asksCauses 15 = .ok (.ireturn, 1) := by decide +kernel
theorem dX0_payFor_0 : decode cX0_payFor 0 = .ok (.iload_n 1, 1) := by decide +kernel
theorem dX0_payFor_1 : decode cX0_payFor 1 = .ok (.aload_n 0, 1) := by decide +kernel
theorem dX0_payFor_2 : decode cX0_payFor 2 = .ok (.getfield 9, 3) := by decide +kernel
theorem dX0_payFor_5 : decode cX0_payFor 5 = .ok (.iconst 5, 1) := by decide +kernel
theorem dX0_payFor_6 : decode cX0_payFor 6 = .ok (.iaload, 1) := by decide +kernel
theorem dX0_payFor_7 : decode cX0_payFor 7 = .ok (.isub, 1) := by decide +kernel
theorem dX0_payFor_8 : decode cX0_payFor 8 = .ok (.iconst 0, 1) := by decide +kernel
theorem dX0_payFor_9 : decode cX0_payFor 9 = .ok (.invokestatic 42, 3) := by decide +kernel
theorem dX0_payFor_12 : decode cX0_payFor 12 = .ok (.aload_n 0, 1) := by decide +kernel
theorem dX0_payFor_13 : decode cX0_payFor 13 = .ok (.getfield 9, 3) := by decide +kernel
theorem dX0_payFor_16 : decode cX0_payFor 16 = .ok (.bipush 6, 2) := by decide +kernel
theorem dX0_payFor_18 : decode cX0_payFor 18 = .ok (.iaload, 1) := by decide +kernel
theorem dX0_payFor_19 : decode cX0_payFor 19 = .ok (.invokestatic 48, 3) := by decide +kernel
theorem dX0_payFor_22 : decode cX0_payFor 22 = .ok (.ireturn, 1) := by decide +kernel
theorem dX0_share_0 : decode cX0_share 0 = .ok (.bipush 100, 2) := by decide +kernel
theorem dX0_share_2 : decode cX0_share 2 = .ok (.aload_n 0, 1) := by decide +kernel
theorem dX0_share_3 : decode cX0_share 3 = .ok (.getfield 9, 3) := by decide +kernel
theorem dX0_share_6 : decode cX0_share 6 = .ok (.bipush 8, 2) := by decide +kernel
theorem dX0_share_8 : decode cX0_share 8 = .ok (.iaload, 1) := by decide +kernel
theorem dX0_share_9 : decode cX0_share 9 = .ok (.isub, 1) := by decide +kernel
theorem dX0_share_10 : decode cX0_share 10 = .ok (.ireturn, 1) := by decide +kernel
theorem dX0_bringFor_0 : decode cX0_bringFor 0 = .ok (.iload_n 1, 1) := by decide +kernel
theorem dX0_bringFor_1 : decode cX0_bringFor 1 = .ok (.aload_n 0, 1) := by decide +kernel
theorem dX0_bringFor_2 : decode cX0_bringFor 2 = .ok (.invokevirtual 51, 3) := by decide +kernel
theorem dX0_bringFor_5 : decode cX0_bringFor 5 = .ok (.imul, 1) := by decide +kernel
theorem dX0_bringFor_6 : decode cX0_bringFor 6 = .ok (.ireturn, 1) := by decide +kernel
theorem dX0_netOf_0 : decode cX0_netOf 0 = .ok (.aload_n 0, 1) := by decide +kernel
theorem dX0_netOf_1 : decode cX0_netOf 1 = .ok (.invokevirtual 51, 3) := by decide +kernel
theorem dX0_netOf_4 : decode cX0_netOf 4 = .ok (.istore_n 2, 1) := by decide +kernel
theorem dX0_netOf_5 : decode cX0_netOf 5 = .ok (.iload_n 2, 1) := by decide +kernel
theorem dX0_netOf_6 : decode cX0_netOf 6 = .ok (.ifCond .le 9, 3) := by decide +kernel
theorem dX0_netOf_9 : decode cX0_netOf 9 = .ok (.iload_n 1, 1) := by decide +kernel
theorem dX0_netOf_10 : decode cX0_netOf 10 = .ok (.iload_n 2, 1) := by decide +kernel
theorem dX0_netOf_11 : decode cX0_netOf 11 = .ok (.idiv, 1) := by decide +kernel
theorem dX0_netOf_12 : decode cX0_netOf 12 = .ok (.goto 4, 3) := by decide +kernel
theorem dX0_netOf_15 : decode cX0_netOf 15 = .ok (.iconst 0, 1) := by decide +kernel
theorem dX0_netOf_16 : decode cX0_netOf 16 = .ok (.istore_n 3, 1) := by decide +kernel
theorem dX0_netOf_17 : decode cX0_netOf 17 = .ok (.iload_n 3, 1) := by decide +kernel
theorem dX0_netOf_18 : decode cX0_netOf 18 = .ok (.aload_n 0, 1) := by decide +kernel
theorem dX0_netOf_19 : decode cX0_netOf 19 = .ok (.getfield 9, 3) := by decide +kernel
theorem dX0_netOf_22 : decode cX0_netOf 22 = .ok (.bipush 6, 2) := by decide +kernel
theorem dX0_netOf_24 : decode cX0_netOf 24 = .ok (.iaload, 1) := by decide +kernel
theorem dX0_netOf_25 : decode cX0_netOf 25 = .ok (.aload_n 0, 1) := by decide +kernel
theorem dX0_netOf_26 : decode cX0_netOf 26 = .ok (.getfield 9, 3) := by decide +kernel
theorem dX0_netOf_29 : decode cX0_netOf 29 = .ok (.bipush 7, 2) := by decide +kernel
theorem dX0_netOf_31 : decode cX0_netOf 31 = .ok (.iaload, 1) := by decide +kernel
theorem dX0_netOf_32 : decode cX0_netOf 32 = .ok (.iconst 1, 1) := by decide +kernel
theorem dX0_netOf_33 : decode cX0_netOf 33 = .ok (.isub, 1) := by decide +kernel
theorem dX0_netOf_34 : decode cX0_netOf 34 = .ok (.imul, 1) := by decide +kernel
theorem dX0_netOf_35 : decode cX0_netOf 35 = .ok (.invokestatic 48, 3) := by decide +kernel
theorem dX0_netOf_38 : decode cX0_netOf 38 = .ok (.istore 4, 2) := by decide +kernel
theorem dX0_netOf_40 : decode cX0_netOf 40 = .ok (.iload_n 1, 1) := by decide +kernel
theorem dX0_netOf_41 : decode cX0_netOf 41 = .ok (.aload_n 0, 1) := by decide +kernel
theorem dX0_netOf_42 : decode cX0_netOf 42 = .ok (.getfield 9, 3) := by decide +kernel
theorem dX0_netOf_45 : decode cX0_netOf 45 = .ok (.bipush 6, 2) := by decide +kernel
theorem dX0_netOf_47 : decode cX0_netOf 47 = .ok (.iaload, 1) := by decide +kernel
theorem dX0_netOf_48 : decode cX0_netOf 48 = .ok (.imul, 1) := by decide +kernel
theorem dX0_netOf_49 : decode cX0_netOf 49 = .ok (.bipush 100, 2) := by decide +kernel
theorem dX0_netOf_51 : decode cX0_netOf 51 = .ok (.aload_n 0, 1) := by decide +kernel
theorem dX0_netOf_52 : decode cX0_netOf 52 = .ok (.getfield 9, 3) := by decide +kernel
theorem dX0_netOf_55 : decode cX0_netOf 55 = .ok (.bipush 9, 2) := by decide +kernel
theorem dX0_netOf_57 : decode cX0_netOf 57 = .ok (.iaload, 1) := by decide +kernel
theorem dX0_netOf_58 : decode cX0_netOf 58 = .ok (.imul, 1) := by decide +kernel
theorem dX0_netOf_59 : decode cX0_netOf 59 = .ok (.iload 4, 2) := by decide +kernel
theorem dX0_netOf_61 : decode cX0_netOf 61 = .ok (.imul, 1) := by decide +kernel
theorem dX0_netOf_62 : decode cX0_netOf 62 = .ok (.isub, 1) := by decide +kernel
theorem dX0_netOf_63 : decode cX0_netOf 63 = .ok (.ireturn, 1) := by decide +kernel
theorem dX0_narrowBy_0 : decode cX0_narrowBy 0 = .ok (.aload_n 0, 1) := by decide +kernel
theorem dX0_narrowBy_1 : decode cX0_narrowBy 1 = .ok (.invokevirtual 55, 3) := by decide +kernel
theorem dX0_narrowBy_4 : decode cX0_narrowBy 4 = .ok (.ifCond .eq 14, 3) := by decide +kernel
theorem dX0_narrowBy_7 : decode cX0_narrowBy 7 = .ok (.aload_n 1, 1) := by decide +kernel
theorem dX0_narrowBy_8 : decode cX0_narrowBy 8 = .ok (.invokevirtual 55, 3) := by decide +kernel
theorem dX0_narrowBy_11 : decode cX0_narrowBy 11 = .ok (.ifCond .eq 7, 3) := by decide +kernel
theorem dX0_narrowBy_14 : decode cX0_narrowBy 14 = .ok (.iconst 1, 1) := by decide +kernel
theorem dX0_narrowBy_15 : decode cX0_narrowBy 15 = .ok (.goto 4, 3) := by decide +kernel
theorem dX0_narrowBy_18 : decode cX0_narrowBy 18 = .ok (.iconst 0, 1) := by decide +kernel
theorem dX0_narrowBy_19 : decode cX0_narrowBy 19 = .ok (.istore_n 2, 1) := by decide +kernel
theorem dX0_narrowBy_20 : decode cX0_narrowBy 20 = .ok (.aload_n 0, 1) := by decide +kernel
theorem dX0_narrowBy_21 : decode cX0_narrowBy 21 = .ok (.invokevirtual 55, 3) := by decide +kernel
theorem dX0_narrowBy_24 : decode cX0_narrowBy 24 = .ok (.ifCond .eq 7, 3) := by decide +kernel
theorem dX0_narrowBy_27 : decode cX0_narrowBy 27 = .ok (.iconst 0, 1) := by decide +kernel
theorem dX0_narrowBy_28 : decode cX0_narrowBy 28 = .ok (.goto 9, 3) := by decide +kernel
theorem dX0_narrowBy_31 : decode cX0_narrowBy 31 = .ok (.aload_n 0, 1) := by decide +kernel
theorem dX0_narrowBy_32 : decode cX0_narrowBy 32 = .ok (.getfield 9, 3) := by decide +kernel
theorem dX0_narrowBy_35 : decode cX0_narrowBy 35 = .ok (.iconst 4, 1) := by decide +kernel
theorem dX0_narrowBy_36 : decode cX0_narrowBy 36 = .ok (.iaload, 1) := by decide +kernel
theorem dX0_narrowBy_37 : decode cX0_narrowBy 37 = .ok (.istore_n 3, 1) := by decide +kernel
theorem dX0_narrowBy_38 : decode cX0_narrowBy 38 = .ok (.aload_n 1, 1) := by decide +kernel
theorem dX0_narrowBy_39 : decode cX0_narrowBy 39 = .ok (.invokevirtual 55, 3) := by decide +kernel
theorem dX0_narrowBy_42 : decode cX0_narrowBy 42 = .ok (.ifCond .eq 7, 3) := by decide +kernel
theorem dX0_narrowBy_45 : decode cX0_narrowBy 45 = .ok (.iconst 0, 1) := by decide +kernel
theorem dX0_narrowBy_46 : decode cX0_narrowBy 46 = .ok (.goto 9, 3) := by decide +kernel
theorem dX0_narrowBy_49 : decode cX0_narrowBy 49 = .ok (.aload_n 1, 1) := by decide +kernel
theorem dX0_narrowBy_50 : decode cX0_narrowBy 50 = .ok (.getfield 9, 3) := by decide +kernel
theorem dX0_narrowBy_53 : decode cX0_narrowBy 53 = .ok (.iconst 4, 1) := by decide +kernel
theorem dX0_narrowBy_54 : decode cX0_narrowBy 54 = .ok (.iaload, 1) := by decide +kernel
theorem dX0_narrowBy_55 : decode cX0_narrowBy 55 = .ok (.istore 4, 2) := by decide +kernel
theorem dX0_narrowBy_57 : decode cX0_narrowBy 57 = .ok (.aload_n 0, 1) := by decide +kernel
theorem dX0_narrowBy_58 : decode cX0_narrowBy 58 = .ok (.getfield 9, 3) := by decide +kernel
theorem dX0_narrowBy_61 : decode cX0_narrowBy 61 = .ok (.iconst 1, 1) := by decide +kernel
theorem dX0_narrowBy_62 : decode cX0_narrowBy 62 = .ok (.iaload, 1) := by decide +kernel
theorem dX0_narrowBy_63 : decode cX0_narrowBy 63 = .ok (.istore 5, 2) := by decide +kernel
theorem dX0_narrowBy_65 : decode cX0_narrowBy 65 = .ok (.aload_n 1, 1) := by decide +kernel
theorem dX0_narrowBy_66 : decode cX0_narrowBy 66 = .ok (.getfield 9, 3) := by decide +kernel
theorem dX0_narrowBy_69 : decode cX0_narrowBy 69 = .ok (.iconst 1, 1) := by decide +kernel
theorem dX0_narrowBy_70 : decode cX0_narrowBy 70 = .ok (.iaload, 1) := by decide +kernel
theorem dX0_narrowBy_71 : decode cX0_narrowBy 71 = .ok (.istore 6, 2) := by decide +kernel
theorem dX0_narrowBy_73 : decode cX0_narrowBy 73 = .ok (.aload_n 0, 1) := by decide +kernel
theorem dX0_narrowBy_74 : decode cX0_narrowBy 74 = .ok (.getfield 9, 3) := by decide +kernel
theorem dX0_narrowBy_77 : decode cX0_narrowBy 77 = .ok (.iconst 0, 1) := by decide +kernel
theorem dX0_narrowBy_78 : decode cX0_narrowBy 78 = .ok (.aload_n 0, 1) := by decide +kernel
theorem dX0_narrowBy_79 : decode cX0_narrowBy 79 = .ok (.getfield 9, 3) := by decide +kernel
theorem dX0_narrowBy_82 : decode cX0_narrowBy 82 = .ok (.iconst 0, 1) := by decide +kernel
theorem dX0_narrowBy_83 : decode cX0_narrowBy 83 = .ok (.iaload, 1) := by decide +kernel
theorem dX0_narrowBy_84 : decode cX0_narrowBy 84 = .ok (.aload_n 1, 1) := by decide +kernel
theorem dX0_narrowBy_85 : decode cX0_narrowBy 85 = .ok (.getfield 9, 3) := by decide +kernel
theorem dX0_narrowBy_88 : decode cX0_narrowBy 88 = .ok (.iconst 0, 1) := by decide +kernel
theorem dX0_narrowBy_89 : decode cX0_narrowBy 89 = .ok (.iaload, 1) := by decide +kernel
theorem dX0_narrowBy_90 : decode cX0_narrowBy 90 = .ok (.invokestatic 48, 3) := by decide +kernel
theorem dX0_narrowBy_93 : decode cX0_narrowBy 93 = .ok (.iastore, 1) := by decide +kernel
theorem dX0_narrowBy_94 : decode cX0_narrowBy 94 = .ok (.iload 5, 2) := by decide +kernel
theorem dX0_narrowBy_96 : decode cX0_narrowBy 96 = .ok (.iconst (-1), 1) := by decide +kernel
theorem dX0_narrowBy_97 : decode cX0_narrowBy 97 = .ok (.if_icmp .eq 16, 3) := by decide +kernel
theorem dX0_narrowBy_100 : decode cX0_narrowBy 100 = .ok (.iload 6, 2) := by decide +kernel
theorem dX0_narrowBy_102 : decode cX0_narrowBy 102 = .ok (.iconst (-1), 1) := by decide +kernel
theorem dX0_narrowBy_103 : decode cX0_narrowBy 103 = .ok (.if_icmp .eq 18, 3) := by decide +kernel
theorem dX0_narrowBy_106 : decode cX0_narrowBy 106 = .ok (.iload 6, 2) := by decide +kernel
theorem dX0_narrowBy_108 : decode cX0_narrowBy 108 = .ok (.iload 5, 2) := by decide +kernel
theorem dX0_narrowBy_110 : decode cX0_narrowBy 110 = .ok (.if_icmp .ge 11, 3) := by decide +kernel
theorem dX0_narrowBy_113 : decode cX0_narrowBy 113 = .ok (.aload_n 0, 1) := by decide +kernel
theorem dX0_narrowBy_114 : decode cX0_narrowBy 114 = .ok (.getfield 9, 3) := by decide +kernel
theorem dX0_narrowBy_117 : decode cX0_narrowBy 117 = .ok (.iconst 1, 1) := by decide +kernel
theorem dX0_narrowBy_118 : decode cX0_narrowBy 118 = .ok (.iload 6, 2) := by decide +kernel
theorem dX0_narrowBy_120 : decode cX0_narrowBy 120 = .ok (.iastore, 1) := by decide +kernel
theorem dX0_narrowBy_121 : decode cX0_narrowBy 121 = .ok (.aload_n 0, 1) := by decide +kernel
theorem dX0_narrowBy_122 : decode cX0_narrowBy 122 = .ok (.getfield 9, 3) := by decide +kernel
theorem dX0_narrowBy_125 : decode cX0_narrowBy 125 = .ok (.iconst 2, 1) := by decide +kernel
theorem dX0_narrowBy_126 : decode cX0_narrowBy 126 = .ok (.aload_n 0, 1) := by decide +kernel
theorem dX0_narrowBy_127 : decode cX0_narrowBy 127 = .ok (.getfield 9, 3) := by decide +kernel
theorem dX0_narrowBy_130 : decode cX0_narrowBy 130 = .ok (.iconst 2, 1) := by decide +kernel
theorem dX0_narrowBy_131 : decode cX0_narrowBy 131 = .ok (.iaload, 1) := by decide +kernel
theorem dX0_narrowBy_132 : decode cX0_narrowBy 132 = .ok (.aload_n 1, 1) := by decide +kernel
theorem dX0_narrowBy_133 : decode cX0_narrowBy 133 = .ok (.getfield 9, 3) := by decide +kernel
theorem dX0_narrowBy_136 : decode cX0_narrowBy 136 = .ok (.iconst 2, 1) := by decide +kernel
theorem dX0_narrowBy_137 : decode cX0_narrowBy 137 = .ok (.iaload, 1) := by decide +kernel
theorem dX0_narrowBy_138 : decode cX0_narrowBy 138 = .ok (.invokestatic 42, 3) := by decide +kernel
theorem dX0_narrowBy_141 : decode cX0_narrowBy 141 = .ok (.iastore, 1) := by decide +kernel
theorem dX0_narrowBy_142 : decode cX0_narrowBy 142 = .ok (.aload_n 0, 1) := by decide +kernel
theorem dX0_narrowBy_143 : decode cX0_narrowBy 143 = .ok (.getfield 9, 3) := by decide +kernel
theorem dX0_narrowBy_146 : decode cX0_narrowBy 146 = .ok (.iconst 3, 1) := by decide +kernel
theorem dX0_narrowBy_147 : decode cX0_narrowBy 147 = .ok (.iload_n 2, 1) := by decide +kernel
theorem dX0_narrowBy_148 : decode cX0_narrowBy 148 = .ok (.ifCond .eq 7, 3) := by decide +kernel
theorem dX0_narrowBy_151 : decode cX0_narrowBy 151 = .ok (.iconst 1, 1) := by decide +kernel
theorem dX0_narrowBy_152 : decode cX0_narrowBy 152 = .ok (.goto 4, 3) := by decide +kernel
theorem dX0_narrowBy_155 : decode cX0_narrowBy 155 = .ok (.iconst 0, 1) := by decide +kernel
theorem dX0_narrowBy_156 : decode cX0_narrowBy 156 = .ok (.iastore, 1) := by decide +kernel
theorem dX0_narrowBy_157 : decode cX0_narrowBy 157 = .ok (.aload_n 0, 1) := by decide +kernel
theorem dX0_narrowBy_158 : decode cX0_narrowBy 158 = .ok (.getfield 9, 3) := by decide +kernel
theorem dX0_narrowBy_161 : decode cX0_narrowBy 161 = .ok (.iconst 4, 1) := by decide +kernel
theorem dX0_narrowBy_162 : decode cX0_narrowBy 162 = .ok (.iload_n 3, 1) := by decide +kernel
theorem dX0_narrowBy_163 : decode cX0_narrowBy 163 = .ok (.iload 4, 2) := by decide +kernel
theorem dX0_narrowBy_165 : decode cX0_narrowBy 165 = .ok (.invokestatic 42, 3) := by decide +kernel
theorem dX0_narrowBy_168 : decode cX0_narrowBy 168 = .ok (.iastore, 1) := by decide +kernel
theorem dX0_narrowBy_169 : decode cX0_narrowBy 169 = .ok (.return_, 1) := by decide +kernel
theorem dX1_init_0 : decode cX1_init 0 = .ok (.aload_n 0, 1) := by decide +kernel
theorem dX1_init_1 : decode cX1_init 1 = .ok (.invokespecial 3, 3) := by decide +kernel
theorem dX1_init_4 : decode cX1_init 4 = .ok (.aload_n 0, 1) := by decide +kernel
theorem dX1_init_5 : decode cX1_init 5 = .ok (.bipush 12, 2) := by decide +kernel
theorem dX1_init_7 : decode cX1_init 7 = .ok (.newarray .int, 2) := by decide +kernel
theorem dX1_init_9 : decode cX1_init 9 = .ok (.putfield 9, 3) := by decide +kernel
theorem dX1_init_12 : decode cX1_init 12 = .ok (.aload_n 0, 1) := by decide +kernel
theorem dX1_init_13 : decode cX1_init 13 = .ok (.bipush 12, 2) := by decide +kernel
theorem dX1_init_15 : decode cX1_init 15 = .ok (.newarray .int, 2) := by decide +kernel
theorem dX1_init_17 : decode cX1_init 17 = .ok (.putfield 15, 3) := by decide +kernel
theorem dX1_init_20 : decode cX1_init 20 = .ok (.aload_n 0, 1) := by decide +kernel
theorem dX1_init_21 : decode cX1_init 21 = .ok (.bipush 12, 2) := by decide +kernel
theorem dX1_init_23 : decode cX1_init 23 = .ok (.newarray .int, 2) := by decide +kernel
theorem dX1_init_25 : decode cX1_init 25 = .ok (.putfield 18, 3) := by decide +kernel
theorem dX1_init_28 : decode cX1_init 28 = .ok (.aload_n 0, 1) := by decide +kernel
theorem dX1_init_29 : decode cX1_init 29 = .ok (.bipush 12, 2) := by decide +kernel
theorem dX1_init_31 : decode cX1_init 31 = .ok (.newarray .int, 2) := by decide +kernel
theorem dX1_init_33 : decode cX1_init 33 = .ok (.putfield 21, 3) := by decide +kernel
theorem dX1_init_36 : decode cX1_init 36 = .ok (.aload_n 0, 1) := by decide +kernel
theorem dX1_init_37 : decode cX1_init 37 = .ok (.bipush 12, 2) := by decide +kernel
theorem dX1_init_39 : decode cX1_init 39 = .ok (.newarray .int, 2) := by decide +kernel
theorem dX1_init_41 : decode cX1_init 41 = .ok (.putfield 24, 3) := by decide +kernel
theorem dX1_init_44 : decode cX1_init 44 = .ok (.aload_n 0, 1) := by decide +kernel
theorem dX1_init_45 : decode cX1_init 45 = .ok (.bipush 12, 2) := by decide +kernel
theorem dX1_init_47 : decode cX1_init 47 = .ok (.newarray .int, 2) := by decide +kernel
theorem dX1_init_49 : decode cX1_init 49 = .ok (.putfield 27, 3) := by decide +kernel
theorem dX1_init_52 : decode cX1_init 52 = .ok (.aload_n 0, 1) := by decide +kernel
theorem dX1_init_53 : decode cX1_init 53 = .ok (.iconst 0, 1) := by decide +kernel
theorem dX1_init_54 : decode cX1_init 54 = .ok (.putfield 30, 3) := by decide +kernel
theorem dX1_init_57 : decode cX1_init 57 = .ok (.return_, 1) := by decide +kernel
theorem dX1_has_0 : decode cX1_has 0 = .ok (.iload_n 1, 1) := by decide +kernel
theorem dX1_has_1 : decode cX1_has 1 = .ok (.ifCond .lt 15, 3) := by decide +kernel
theorem dX1_has_4 : decode cX1_has 4 = .ok (.iload_n 1, 1) := by decide +kernel
theorem dX1_has_5 : decode cX1_has 5 = .ok (.aload_n 0, 1) := by decide +kernel
theorem dX1_has_6 : decode cX1_has 6 = .ok (.getfield 30, 3) := by decide +kernel
theorem dX1_has_9 : decode cX1_has 9 = .ok (.if_icmp .ge 7, 3) := by decide +kernel
theorem dX1_has_12 : decode cX1_has 12 = .ok (.iconst 1, 1) := by decide +kernel
theorem dX1_has_13 : decode cX1_has 13 = .ok (.goto 4, 3) := by decide +kernel
theorem dX1_has_16 : decode cX1_has 16 = .ok (.iconst 0, 1) := by decide +kernel
theorem dX1_has_17 : decode cX1_has 17 = .ok (.ireturn, 1) := by decide +kernel
theorem dX1_all_0 : decode cX1_all 0 = .ok (.iconst 1, 1) := by decide +kernel
theorem dX1_all_1 : decode cX1_all 1 = .ok (.aload_n 0, 1) := by decide +kernel
theorem dX1_all_2 : decode cX1_all 2 = .ok (.getfield 30, 3) := by decide +kernel
theorem dX1_all_5 : decode cX1_all 5 = .ok (.ishl, 1) := by decide +kernel
theorem dX1_all_6 : decode cX1_all 6 = .ok (.iconst 1, 1) := by decide +kernel
theorem dX1_all_7 : decode cX1_all 7 = .ok (.isub, 1) := by decide +kernel
theorem dX1_all_8 : decode cX1_all 8 = .ok (.ireturn, 1) := by decide +kernel
theorem dX1_hasAll_0 : decode cX1_hasAll 0 = .ok (.iload_n 1, 1) := by decide +kernel
theorem dX1_hasAll_1 : decode cX1_hasAll 1 = .ok (.aload_n 0, 1) := by decide +kernel
theorem dX1_hasAll_2 : decode cX1_hasAll 2 = .ok (.invokevirtual 34, 3) := by decide +kernel
theorem dX1_hasAll_5 : decode cX1_hasAll 5 = .ok (.iconst (-1), 1) := by decide +kernel
theorem dX1_hasAll_6 : decode cX1_hasAll 6 = .ok (.ixor, 1) := by decide +kernel
theorem dX1_hasAll_7 : decode cX1_hasAll 7 = .ok (.iand, 1) := by decide +kernel
theorem dX1_hasAll_8 : decode cX1_hasAll 8 = .ok (.ifCond .ne 7, 3) := by decide +kernel
theorem dX1_hasAll_11 : decode cX1_hasAll 11 = .ok (.iconst 1, 1) := by decide +kernel
theorem dX1_hasAll_12 : decode cX1_hasAll 12 = .ok (.goto 4, 3) := by decide +kernel
theorem dX1_hasAll_15 : decode cX1_hasAll 15 = .ok (.iconst 0, 1) := by decide +kernel
theorem dX1_hasAll_16 : decode cX1_hasAll 16 = .ok (.ireturn, 1) := by decide +kernel
theorem dX1_isIn_0 : decode cX1_isIn 0 = .ok (.iload_n 1, 1) := by decide +kernel
theorem dX1_isIn_1 : decode cX1_isIn 1 = .ok (.iconst 1, 1) := by decide +kernel
theorem dX1_isIn_2 : decode cX1_isIn 2 = .ok (.iload_n 0, 1) := by decide +kernel
theorem dX1_isIn_3 : decode cX1_isIn 3 = .ok (.ishl, 1) := by decide +kernel
theorem dX1_isIn_4 : decode cX1_isIn 4 = .ok (.iand, 1) := by decide +kernel
theorem dX1_isIn_5 : decode cX1_isIn 5 = .ok (.ifCond .eq 7, 3) := by decide +kernel
theorem dX1_isIn_8 : decode cX1_isIn 8 = .ok (.iconst 1, 1) := by decide +kernel
theorem dX1_isIn_9 : decode cX1_isIn 9 = .ok (.goto 4, 3) := by decide +kernel
theorem dX1_isIn_12 : decode cX1_isIn 12 = .ok (.iconst 0, 1) := by decide +kernel
theorem dX1_isIn_13 : decode cX1_isIn 13 = .ok (.ireturn, 1) := by decide +kernel
theorem dX1_sumOf_0 : decode cX1_sumOf 0 = .ok (.aload_n 0, 1) := by decide +kernel
theorem dX1_sumOf_1 : decode cX1_sumOf 1 = .ok (.iload_n 1, 1) := by decide +kernel
theorem dX1_sumOf_2 : decode cX1_sumOf 2 = .ok (.sipush 1000, 3) := by decide +kernel
theorem dX1_sumOf_5 : decode cX1_sumOf 5 = .ok (.invokevirtual 38, 3) := by decide +kernel
theorem dX1_sumOf_8 : decode cX1_sumOf 8 = .ok (.ireturn, 1) := by decide +kernel
theorem dX1_sumBefore_0 : decode cX1_sumBefore 0 = .ok (.iconst 0, 1) := by decide +kernel
theorem dX1_sumBefore_1 : decode cX1_sumBefore 1 = .ok (.istore_n 3, 1) := by decide +kernel
theorem dX1_sumBefore_2 : decode cX1_sumBefore 2 = .ok (.iconst 0, 1) := by decide +kernel
theorem dX1_sumBefore_3 : decode cX1_sumBefore 3 = .ok (.istore 4, 2) := by decide +kernel
theorem dX1_sumBefore_5 : decode cX1_sumBefore 5 = .ok (.iload 4, 2) := by decide +kernel
theorem dX1_sumBefore_7 : decode cX1_sumBefore 7 = .ok (.aload_n 0, 1) := by decide +kernel
theorem dX1_sumBefore_8 : decode cX1_sumBefore 8 = .ok (.getfield 30, 3) := by decide +kernel
theorem dX1_sumBefore_11 : decode cX1_sumBefore 11 = .ok (.if_icmp .ge 39, 3) := by decide +kernel
theorem dX1_sumBefore_14 : decode cX1_sumBefore 14 = .ok (.iload 4, 2) := by decide +kernel
theorem dX1_sumBefore_16 : decode cX1_sumBefore 16 = .ok (.iload_n 1, 1) := by decide +kernel
theorem dX1_sumBefore_17 : decode cX1_sumBefore 17 = .ok (.invokestatic 42, 3) := by decide +kernel
theorem dX1_sumBefore_20 : decode cX1_sumBefore 20 = .ok (.ifCond .eq 24, 3) := by decide +kernel
theorem dX1_sumBefore_23 : decode cX1_sumBefore 23 = .ok (.aload_n 0, 1) := by decide +kernel
theorem dX1_sumBefore_24 : decode cX1_sumBefore 24 = .ok (.getfield 15, 3) := by decide +kernel
theorem dX1_sumBefore_27 : decode cX1_sumBefore 27 = .ok (.iload 4, 2) := by decide +kernel
theorem dX1_sumBefore_29 : decode cX1_sumBefore 29 = .ok (.iaload, 1) := by decide +kernel
theorem dX1_sumBefore_30 : decode cX1_sumBefore 30 = .ok (.iload_n 2, 1) := by decide +kernel
theorem dX1_sumBefore_31 : decode cX1_sumBefore 31 = .ok (.if_icmp .ge 13, 3) := by decide +kernel
theorem dX1_sumBefore_34 : decode cX1_sumBefore 34 = .ok (.iload_n 3, 1) := by decide +kernel
theorem dX1_sumBefore_35 : decode cX1_sumBefore 35 = .ok (.aload_n 0, 1) := by decide +kernel
theorem dX1_sumBefore_36 : decode cX1_sumBefore 36 = .ok (.getfield 9, 3) := by decide +kernel
theorem dX1_sumBefore_39 : decode cX1_sumBefore 39 = .ok (.iload 4, 2) := by decide +kernel
theorem dX1_sumBefore_41 : decode cX1_sumBefore 41 = .ok (.iaload, 1) := by decide +kernel
theorem dX1_sumBefore_42 : decode cX1_sumBefore 42 = .ok (.iadd, 1) := by decide +kernel
theorem dX1_sumBefore_43 : decode cX1_sumBefore 43 = .ok (.istore_n 3, 1) := by decide +kernel
theorem dX1_sumBefore_44 : decode cX1_sumBefore 44 = .ok (.iinc 4 1, 3) := by decide +kernel
theorem dX1_sumBefore_47 : decode cX1_sumBefore 47 = .ok (.goto (-42), 3) := by decide +kernel
theorem dX1_sumBefore_50 : decode cX1_sumBefore 50 = .ok (.iload_n 3, 1) := by decide +kernel
theorem dX1_sumBefore_51 : decode cX1_sumBefore 51 = .ok (.ireturn, 1) := by decide +kernel
theorem dX1_leastHourOf_0 : decode cX1_leastHourOf 0 = .ok (.sipush 999, 3) := by decide +kernel
theorem dX1_leastHourOf_3 : decode cX1_leastHourOf 3 = .ok (.istore_n 2, 1) := by decide +kernel
theorem dX1_leastHourOf_4 : decode cX1_leastHourOf 4 = .ok (.iconst 0, 1) := by decide +kernel
theorem dX1_leastHourOf_5 : decode cX1_leastHourOf 5 = .ok (.istore_n 3, 1) := by decide +kernel
theorem dX1_leastHourOf_6 : decode cX1_leastHourOf 6 = .ok (.iload_n 3, 1) := by decide +kernel
theorem dX1_leastHourOf_7 : decode cX1_leastHourOf 7 = .ok (.aload_n 0, 1) := by decide +kernel
theorem dX1_leastHourOf_8 : decode cX1_leastHourOf 8 = .ok (.getfield 30, 3) := by decide +kernel
theorem dX1_leastHourOf_11 : decode cX1_leastHourOf 11 = .ok (.if_icmp .ge 28, 3) := by decide +kernel
theorem dX1_leastHourOf_14 : decode cX1_leastHourOf 14 = .ok (.iload_n 3, 1) := by decide +kernel
theorem dX1_leastHourOf_15 : decode cX1_leastHourOf 15 = .ok (.iload_n 1, 1) := by decide +kernel
theorem dX1_leastHourOf_16 : decode cX1_leastHourOf 16 = .ok (.invokestatic 42, 3) := by decide +kernel
theorem dX1_leastHourOf_19 : decode cX1_leastHourOf 19 = .ok (.ifCond .eq 14, 3) := by decide +kernel
theorem dX1_leastHourOf_22 : decode cX1_leastHourOf 22 = .ok (.iload_n 2, 1) := by decide +kernel
theorem dX1_leastHourOf_23 : decode cX1_leastHourOf 23 = .ok (.aload_n 0, 1) := by decide +kernel
theorem dX1_leastHourOf_24 : decode cX1_leastHourOf 24 = .ok (.getfield 15, 3) := by decide +kernel
theorem dX1_leastHourOf_27 : decode cX1_leastHourOf 27 = .ok (.iload_n 3, 1) := by decide +kernel
theorem dX1_leastHourOf_28 : decode cX1_leastHourOf 28 = .ok (.iaload, 1) := by decide +kernel
theorem dX1_leastHourOf_29 : decode cX1_leastHourOf 29 = .ok (.invokestatic 46, 3) := by decide +kernel
theorem dX1_leastHourOf_32 : decode cX1_leastHourOf 32 = .ok (.istore_n 2, 1) := by decide +kernel
theorem dX1_leastHourOf_33 : decode cX1_leastHourOf 33 = .ok (.iinc 3 1, 3) := by decide +kernel
theorem dX1_leastHourOf_36 : decode cX1_leastHourOf 36 = .ok (.goto (-30), 3) := by decide +kernel
theorem dX1_leastHourOf_39 : decode cX1_leastHourOf 39 = .ok (.iload_n 2, 1) := by decide +kernel
theorem dX1_leastHourOf_40 : decode cX1_leastHourOf 40 = .ok (.ireturn, 1) := by decide +kernel
theorem dX1_greatestHourOf_0 : decode cX1_greatestHourOf 0 = .ok (.iconst 0, 1) := by decide +kernel
theorem dX1_greatestHourOf_1 : decode cX1_greatestHourOf 1 = .ok (.istore_n 2, 1) := by decide +kernel
theorem dX1_greatestHourOf_2 : decode cX1_greatestHourOf 2 = .ok (.iconst 0, 1) := by decide +kernel
theorem dX1_greatestHourOf_3 : decode cX1_greatestHourOf 3 = .ok (.istore_n 3, 1) := by decide +kernel
theorem dX1_greatestHourOf_4 : decode cX1_greatestHourOf 4 = .ok (.iload_n 3, 1) := by decide +kernel
theorem dX1_greatestHourOf_5 : decode cX1_greatestHourOf 5 = .ok (.aload_n 0, 1) := by decide +kernel
theorem dX1_greatestHourOf_6 : decode cX1_greatestHourOf 6 = .ok (.getfield 30, 3) := by decide +kernel
theorem dX1_greatestHourOf_9 : decode cX1_greatestHourOf 9 = .ok (.if_icmp .ge 28, 3) := by decide +kernel
theorem dX1_greatestHourOf_12 : decode cX1_greatestHourOf 12 = .ok (.iload_n 3, 1) := by decide +kernel
theorem dX1_greatestHourOf_13 : decode cX1_greatestHourOf 13 = .ok (.iload_n 1, 1) := by decide +kernel
theorem dX1_greatestHourOf_14 : decode cX1_greatestHourOf 14 = .ok (.invokestatic 42, 3) := by decide +kernel
theorem dX1_greatestHourOf_17 : decode cX1_greatestHourOf 17 = .ok (.ifCond .eq 14, 3) := by decide +kernel
theorem dX1_greatestHourOf_20 : decode cX1_greatestHourOf 20 = .ok (.iload_n 2, 1) := by decide +kernel
theorem dX1_greatestHourOf_21 : decode cX1_greatestHourOf 21 = .ok (.aload_n 0, 1) := by decide +kernel
theorem dX1_greatestHourOf_22 : decode cX1_greatestHourOf 22 = .ok (.getfield 15, 3) := by decide +kernel
theorem dX1_greatestHourOf_25 : decode cX1_greatestHourOf 25 = .ok (.iload_n 3, 1) := by decide +kernel
theorem dX1_greatestHourOf_26 : decode cX1_greatestHourOf 26 = .ok (.iaload, 1) := by decide +kernel
theorem dX1_greatestHourOf_27 : decode cX1_greatestHourOf 27 = .ok (.invokestatic 51, 3) := by decide +kernel
theorem dX1_greatestHourOf_30 : decode cX1_greatestHourOf 30 = .ok (.istore_n 2, 1) := by decide +kernel
theorem dX1_greatestHourOf_31 : decode cX1_greatestHourOf 31 = .ok (.iinc 3 1, 3) := by decide +kernel
theorem dX1_greatestHourOf_34 : decode cX1_greatestHourOf 34 = .ok (.goto (-30), 3) := by decide +kernel
theorem dX1_greatestHourOf_37 : decode cX1_greatestHourOf 37 = .ok (.iload_n 2, 1) := by decide +kernel
theorem dX1_greatestHourOf_38 : decode cX1_greatestHourOf 38 = .ok (.ireturn, 1) := by decide +kernel
theorem dX1_someAreApartBy_0 : decode cX1_someAreApartBy 0 = .ok (.iconst 0, 1) := by decide +kernel
theorem dX1_someAreApartBy_1 : decode cX1_someAreApartBy 1 = .ok (.istore_n 2, 1) := by decide +kernel
theorem dX1_someAreApartBy_2 : decode cX1_someAreApartBy 2 = .ok (.iload_n 2, 1) := by decide +kernel
theorem dX1_someAreApartBy_3 : decode cX1_someAreApartBy 3 = .ok (.aload_n 0, 1) := by decide +kernel
theorem dX1_someAreApartBy_4 : decode cX1_someAreApartBy 4 = .ok (.getfield 30, 3) := by decide +kernel
theorem dX1_someAreApartBy_7 : decode cX1_someAreApartBy 7 = .ok (.if_icmp .ge 44, 3) := by decide +kernel
theorem dX1_someAreApartBy_10 : decode cX1_someAreApartBy 10 = .ok (.iconst 0, 1) := by decide +kernel
theorem dX1_someAreApartBy_11 : decode cX1_someAreApartBy 11 = .ok (.istore_n 3, 1) := by decide +kernel
theorem dX1_someAreApartBy_12 : decode cX1_someAreApartBy 12 = .ok (.iload_n 3, 1) := by decide +kernel
theorem dX1_someAreApartBy_13 : decode cX1_someAreApartBy 13 = .ok (.aload_n 0, 1) := by decide +kernel
theorem dX1_someAreApartBy_14 : decode cX1_someAreApartBy 14 = .ok (.getfield 30, 3) := by decide +kernel
theorem dX1_someAreApartBy_17 : decode cX1_someAreApartBy 17 = .ok (.if_icmp .ge 28, 3) := by decide +kernel
theorem dX1_someAreApartBy_20 : decode cX1_someAreApartBy 20 = .ok (.aload_n 0, 1) := by decide +kernel
theorem dX1_someAreApartBy_21 : decode cX1_someAreApartBy 21 = .ok (.getfield 15, 3) := by decide +kernel
theorem dX1_someAreApartBy_24 : decode cX1_someAreApartBy 24 = .ok (.iload_n 3, 1) := by decide +kernel
theorem dX1_someAreApartBy_25 : decode cX1_someAreApartBy 25 = .ok (.iaload, 1) := by decide +kernel
theorem dX1_someAreApartBy_26 : decode cX1_someAreApartBy 26 = .ok (.aload_n 0, 1) := by decide +kernel
theorem dX1_someAreApartBy_27 : decode cX1_someAreApartBy 27 = .ok (.getfield 15, 3) := by decide +kernel
theorem dX1_someAreApartBy_30 : decode cX1_someAreApartBy 30 = .ok (.iload_n 2, 1) := by decide +kernel
theorem dX1_someAreApartBy_31 : decode cX1_someAreApartBy 31 = .ok (.iaload, 1) := by decide +kernel
theorem dX1_someAreApartBy_32 : decode cX1_someAreApartBy 32 = .ok (.isub, 1) := by decide +kernel
theorem dX1_someAreApartBy_33 : decode cX1_someAreApartBy 33 = .ok (.iload_n 1, 1) := by decide +kernel
theorem dX1_someAreApartBy_34 : decode cX1_someAreApartBy 34 = .ok (.if_icmp .ne 5, 3) := by decide +kernel
theorem dX1_someAreApartBy_37 : decode cX1_someAreApartBy 37 = .ok (.iconst 1, 1) := by decide +kernel
theorem dX1_someAreApartBy_38 : decode cX1_someAreApartBy 38 = .ok (.ireturn, 1) := by decide +kernel
theorem dX1_someAreApartBy_39 : decode cX1_someAreApartBy 39 = .ok (.iinc 3 1, 3) := by decide +kernel
theorem dX1_someAreApartBy_42 : decode cX1_someAreApartBy 42 = .ok (.goto (-30), 3) := by decide +kernel
theorem dX1_someAreApartBy_45 : decode cX1_someAreApartBy 45 = .ok (.iinc 2 1, 3) := by decide +kernel
theorem dX1_someAreApartBy_48 : decode cX1_someAreApartBy 48 = .ok (.goto (-46), 3) := by decide +kernel
theorem dX1_someAreApartBy_51 : decode cX1_someAreApartBy 51 = .ok (.iconst 0, 1) := by decide +kernel
theorem dX1_someAreApartBy_52 : decode cX1_someAreApartBy 52 = .ok (.ireturn, 1) := by decide +kernel
theorem dX1_areNear_0 : decode cX1_areNear 0 = .ok (.aload_n 0, 1) := by decide +kernel
theorem dX1_areNear_1 : decode cX1_areNear 1 = .ok (.getfield 15, 3) := by decide +kernel
theorem dX1_areNear_4 : decode cX1_areNear 4 = .ok (.iload_n 2, 1) := by decide +kernel
theorem dX1_areNear_5 : decode cX1_areNear 5 = .ok (.iaload, 1) := by decide +kernel
theorem dX1_areNear_6 : decode cX1_areNear 6 = .ok (.aload_n 0, 1) := by decide +kernel
theorem dX1_areNear_7 : decode cX1_areNear 7 = .ok (.getfield 15, 3) := by decide +kernel
theorem dX1_areNear_10 : decode cX1_areNear 10 = .ok (.iload_n 3, 1) := by decide +kernel
theorem dX1_areNear_11 : decode cX1_areNear 11 = .ok (.iaload, 1) := by decide +kernel
theorem dX1_areNear_12 : decode cX1_areNear 12 = .ok (.isub, 1) := by decide +kernel
theorem dX1_areNear_13 : decode cX1_areNear 13 = .ok (.invokestatic 54, 3) := by decide +kernel
theorem dX1_areNear_16 : decode cX1_areNear 16 = .ok (.aload_n 1, 1) := by decide +kernel
theorem dX1_areNear_17 : decode cX1_areNear 17 = .ok (.getfield 58, 3) := by decide +kernel
theorem dX1_areNear_20 : decode cX1_areNear 20 = .ok (.iconst 0, 1) := by decide +kernel
theorem dX1_areNear_21 : decode cX1_areNear 21 = .ok (.iaload, 1) := by decide +kernel
theorem dX1_areNear_22 : decode cX1_areNear 22 = .ok (.if_icmp .lt 5, 3) := by decide +kernel
theorem dX1_areNear_25 : decode cX1_areNear 25 = .ok (.iconst 0, 1) := by decide +kernel
theorem dX1_areNear_26 : decode cX1_areNear 26 = .ok (.ireturn, 1) := by decide +kernel
theorem dX1_areNear_27 : decode cX1_areNear 27 = .ok (.aload_n 1, 1) := by decide +kernel
theorem dX1_areNear_28 : decode cX1_areNear 28 = .ok (.getfield 58, 3) := by decide +kernel
theorem dX1_areNear_31 : decode cX1_areNear 31 = .ok (.iconst 1, 1) := by decide +kernel
theorem dX1_areNear_32 : decode cX1_areNear 32 = .ok (.iaload, 1) := by decide +kernel
theorem dX1_areNear_33 : decode cX1_areNear 33 = .ok (.istore 4, 2) := by decide +kernel
theorem dX1_areNear_35 : decode cX1_areNear 35 = .ok (.aload_n 0, 1) := by decide +kernel
theorem dX1_areNear_36 : decode cX1_areNear 36 = .ok (.getfield 21, 3) := by decide +kernel
theorem dX1_areNear_39 : decode cX1_areNear 39 = .ok (.iload_n 2, 1) := by decide +kernel
theorem dX1_areNear_40 : decode cX1_areNear 40 = .ok (.iaload, 1) := by decide +kernel
theorem dX1_areNear_41 : decode cX1_areNear 41 = .ok (.aload_n 0, 1) := by decide +kernel
theorem dX1_areNear_42 : decode cX1_areNear 42 = .ok (.getfield 21, 3) := by decide +kernel
theorem dX1_areNear_45 : decode cX1_areNear 45 = .ok (.iload_n 3, 1) := by decide +kernel
theorem dX1_areNear_46 : decode cX1_areNear 46 = .ok (.iaload, 1) := by decide +kernel
theorem dX1_areNear_47 : decode cX1_areNear 47 = .ok (.isub, 1) := by decide +kernel
theorem dX1_areNear_48 : decode cX1_areNear 48 = .ok (.istore 5, 2) := by decide +kernel
theorem dX1_areNear_50 : decode cX1_areNear 50 = .ok (.aload_n 0, 1) := by decide +kernel
theorem dX1_areNear_51 : decode cX1_areNear 51 = .ok (.getfield 24, 3) := by decide +kernel
theorem dX1_areNear_54 : decode cX1_areNear 54 = .ok (.iload_n 2, 1) := by decide +kernel
theorem dX1_areNear_55 : decode cX1_areNear 55 = .ok (.iaload, 1) := by decide +kernel
theorem dX1_areNear_56 : decode cX1_areNear 56 = .ok (.aload_n 0, 1) := by decide +kernel
theorem dX1_areNear_57 : decode cX1_areNear 57 = .ok (.getfield 24, 3) := by decide +kernel
theorem dX1_areNear_60 : decode cX1_areNear 60 = .ok (.iload_n 3, 1) := by decide +kernel
theorem dX1_areNear_61 : decode cX1_areNear 61 = .ok (.iaload, 1) := by decide +kernel
theorem dX1_areNear_62 : decode cX1_areNear 62 = .ok (.isub, 1) := by decide +kernel
theorem dX1_areNear_63 : decode cX1_areNear 63 = .ok (.istore 6, 2) := by decide +kernel
theorem dX1_areNear_65 : decode cX1_areNear 65 = .ok (.iload 4, 2) := by decide +kernel
theorem dX1_areNear_67 : decode cX1_areNear 67 = .ok (.iconst (-1), 1) := by decide +kernel
theorem dX1_areNear_68 : decode cX1_areNear 68 = .ok (.if_icmp .eq 22, 3) := by decide +kernel
theorem dX1_areNear_71 : decode cX1_areNear 71 = .ok (.iload 5, 2) := by decide +kernel
theorem dX1_areNear_73 : decode cX1_areNear 73 = .ok (.iload 5, 2) := by decide +kernel
theorem dX1_areNear_75 : decode cX1_areNear 75 = .ok (.imul, 1) := by decide +kernel
theorem dX1_areNear_76 : decode cX1_areNear 76 = .ok (.iload 6, 2) := by decide +kernel
theorem dX1_areNear_78 : decode cX1_areNear 78 = .ok (.iload 6, 2) := by decide +kernel
theorem dX1_areNear_80 : decode cX1_areNear 80 = .ok (.imul, 1) := by decide +kernel
theorem dX1_areNear_81 : decode cX1_areNear 81 = .ok (.iadd, 1) := by decide +kernel
theorem dX1_areNear_82 : decode cX1_areNear 82 = .ok (.iload 4, 2) := by decide +kernel
theorem dX1_areNear_84 : decode cX1_areNear 84 = .ok (.iload 4, 2) := by decide +kernel
theorem dX1_areNear_86 : decode cX1_areNear 86 = .ok (.imul, 1) := by decide +kernel
theorem dX1_areNear_87 : decode cX1_areNear 87 = .ok (.if_icmp .gt 7, 3) := by decide +kernel
theorem dX1_areNear_90 : decode cX1_areNear 90 = .ok (.iconst 1, 1) := by decide +kernel
theorem dX1_areNear_91 : decode cX1_areNear 91 = .ok (.goto 4, 3) := by decide +kernel
theorem dX1_areNear_94 : decode cX1_areNear 94 = .ok (.iconst 0, 1) := by decide +kernel
theorem dX1_areNear_95 : decode cX1_areNear 95 = .ok (.ireturn, 1) := by decide +kernel
theorem dX1_areOne_0 : decode cX1_areOne 0 = .ok (.iconst (-1), 1) := by decide +kernel
theorem dX1_areOne_1 : decode cX1_areOne 1 = .ok (.istore_n 3, 1) := by decide +kernel
theorem dX1_areOne_2 : decode cX1_areOne 2 = .ok (.iconst 0, 1) := by decide +kernel
theorem dX1_areOne_3 : decode cX1_areOne 3 = .ok (.istore 4, 2) := by decide +kernel
theorem dX1_areOne_5 : decode cX1_areOne 5 = .ok (.iload 4, 2) := by decide +kernel
theorem dX1_areOne_7 : decode cX1_areOne 7 = .ok (.aload_n 0, 1) := by decide +kernel
theorem dX1_areOne_8 : decode cX1_areOne 8 = .ok (.getfield 30, 3) := by decide +kernel
theorem dX1_areOne_11 : decode cX1_areOne 11 = .ok (.if_icmp .ge 75, 3) := by decide +kernel
theorem dX1_areOne_14 : decode cX1_areOne 14 = .ok (.iload 4, 2) := by decide +kernel
theorem dX1_areOne_16 : decode cX1_areOne 16 = .ok (.iload_n 2, 1) := by decide +kernel
theorem dX1_areOne_17 : decode cX1_areOne 17 = .ok (.invokestatic 42, 3) := by decide +kernel
theorem dX1_areOne_20 : decode cX1_areOne 20 = .ok (.ifCond .ne 6, 3) := by decide +kernel
theorem dX1_areOne_23 : decode cX1_areOne 23 = .ok (.goto 57, 3) := by decide +kernel
theorem dX1_areOne_26 : decode cX1_areOne 26 = .ok (.iload_n 3, 1) := by decide +kernel
theorem dX1_areOne_27 : decode cX1_areOne 27 = .ok (.aload_n 0, 1) := by decide +kernel
theorem dX1_areOne_28 : decode cX1_areOne 28 = .ok (.getfield 27, 3) := by decide +kernel
theorem dX1_areOne_31 : decode cX1_areOne 31 = .ok (.iload 4, 2) := by decide +kernel
theorem dX1_areOne_33 : decode cX1_areOne 33 = .ok (.iaload, 1) := by decide +kernel
theorem dX1_areOne_34 : decode cX1_areOne 34 = .ok (.iand, 1) := by decide +kernel
theorem dX1_areOne_35 : decode cX1_areOne 35 = .ok (.istore_n 3, 1) := by decide +kernel
theorem dX1_areOne_36 : decode cX1_areOne 36 = .ok (.iload 4, 2) := by decide +kernel
theorem dX1_areOne_38 : decode cX1_areOne 38 = .ok (.iconst 1, 1) := by decide +kernel
theorem dX1_areOne_39 : decode cX1_areOne 39 = .ok (.iadd, 1) := by decide +kernel
theorem dX1_areOne_40 : decode cX1_areOne 40 = .ok (.istore 5, 2) := by decide +kernel
theorem dX1_areOne_42 : decode cX1_areOne 42 = .ok (.iload 5, 2) := by decide +kernel
theorem dX1_areOne_44 : decode cX1_areOne 44 = .ok (.aload_n 0, 1) := by decide +kernel
theorem dX1_areOne_45 : decode cX1_areOne 45 = .ok (.getfield 30, 3) := by decide +kernel
theorem dX1_areOne_48 : decode cX1_areOne 48 = .ok (.if_icmp .ge 32, 3) := by decide +kernel
theorem dX1_areOne_51 : decode cX1_areOne 51 = .ok (.iload 5, 2) := by decide +kernel
theorem dX1_areOne_53 : decode cX1_areOne 53 = .ok (.iload_n 2, 1) := by decide +kernel
theorem dX1_areOne_54 : decode cX1_areOne 54 = .ok (.invokestatic 42, 3) := by decide +kernel
theorem dX1_areOne_57 : decode cX1_areOne 57 = .ok (.ifCond .eq 17, 3) := by decide +kernel
theorem dX1_areOne_60 : decode cX1_areOne 60 = .ok (.aload_n 0, 1) := by decide +kernel
theorem dX1_areOne_61 : decode cX1_areOne 61 = .ok (.aload_n 1, 1) := by decide +kernel
theorem dX1_areOne_62 : decode cX1_areOne 62 = .ok (.iload 4, 2) := by decide +kernel
theorem dX1_areOne_64 : decode cX1_areOne 64 = .ok (.iload 5, 2) := by decide +kernel
theorem dX1_areOne_66 : decode cX1_areOne 66 = .ok (.invokevirtual 63, 3) := by decide +kernel
theorem dX1_areOne_69 : decode cX1_areOne 69 = .ok (.ifCond .ne 5, 3) := by decide +kernel
theorem dX1_areOne_72 : decode cX1_areOne 72 = .ok (.iconst 0, 1) := by decide +kernel
theorem dX1_areOne_73 : decode cX1_areOne 73 = .ok (.ireturn, 1) := by decide +kernel
theorem dX1_areOne_74 : decode cX1_areOne 74 = .ok (.iinc 5 1, 3) := by decide +kernel
theorem dX1_areOne_77 : decode cX1_areOne 77 = .ok (.goto (-35), 3) := by decide +kernel
theorem dX1_areOne_80 : decode cX1_areOne 80 = .ok (.iinc 4 1, 3) := by decide +kernel
theorem dX1_areOne_83 : decode cX1_areOne 83 = .ok (.goto (-78), 3) := by decide +kernel
theorem dX1_areOne_86 : decode cX1_areOne 86 = .ok (.iload_n 3, 1) := by decide +kernel
theorem dX1_areOne_87 : decode cX1_areOne 87 = .ok (.ifCond .ne 10, 3) := by decide +kernel
theorem dX1_areOne_90 : decode cX1_areOne 90 = .ok (.aload_n 1, 1) := by decide +kernel
theorem dX1_areOne_91 : decode cX1_areOne 91 = .ok (.invokevirtual 67, 3) := by decide +kernel
theorem dX1_areOne_94 : decode cX1_areOne 94 = .ok (.ifCond .ne 7, 3) := by decide +kernel
theorem dX1_areOne_97 : decode cX1_areOne 97 = .ok (.iconst 1, 1) := by decide +kernel
theorem dX1_areOne_98 : decode cX1_areOne 98 = .ok (.goto 4, 3) := by decide +kernel
theorem dX1_areOne_101 : decode cX1_areOne 101 = .ok (.iconst 0, 1) := by decide +kernel
theorem dX1_areOne_102 : decode cX1_areOne 102 = .ok (.ireturn, 1) := by decide +kernel
theorem dX1_putInRow_0 : decode cX1_putInRow 0 = .ok (.iconst 0, 1) := by decide +kernel
theorem dX1_putInRow_1 : decode cX1_putInRow 1 = .ok (.istore_n 3, 1) := by decide +kernel
theorem dX1_putInRow_2 : decode cX1_putInRow 2 = .ok (.iconst 0, 1) := by decide +kernel
theorem dX1_putInRow_3 : decode cX1_putInRow 3 = .ok (.istore 4, 2) := by decide +kernel
theorem dX1_putInRow_5 : decode cX1_putInRow 5 = .ok (.iload 4, 2) := by decide +kernel
theorem dX1_putInRow_7 : decode cX1_putInRow 7 = .ok (.aload_n 0, 1) := by decide +kernel
theorem dX1_putInRow_8 : decode cX1_putInRow 8 = .ok (.getfield 30, 3) := by decide +kernel
theorem dX1_putInRow_11 : decode cX1_putInRow 11 = .ok (.if_icmp .ge 81, 3) := by decide +kernel
theorem dX1_putInRow_14 : decode cX1_putInRow 14 = .ok (.iload_n 3, 1) := by decide +kernel
theorem dX1_putInRow_15 : decode cX1_putInRow 15 = .ok (.aload_n 2, 1) := by decide +kernel
theorem dX1_putInRow_16 : decode cX1_putInRow 16 = .ok (.arraylength, 1) := by decide +kernel
theorem dX1_putInRow_17 : decode cX1_putInRow 17 = .ok (.if_icmp .ge 75, 3) := by decide +kernel
theorem dX1_putInRow_20 : decode cX1_putInRow 20 = .ok (.iload 4, 2) := by decide +kernel
theorem dX1_putInRow_22 : decode cX1_putInRow 22 = .ok (.iload_n 1, 1) := by decide +kernel
theorem dX1_putInRow_23 : decode cX1_putInRow 23 = .ok (.invokestatic 42, 3) := by decide +kernel
theorem dX1_putInRow_26 : decode cX1_putInRow 26 = .ok (.ifCond .ne 6, 3) := by decide +kernel
theorem dX1_putInRow_29 : decode cX1_putInRow 29 = .ok (.goto 57, 3) := by decide +kernel
theorem dX1_putInRow_32 : decode cX1_putInRow 32 = .ok (.iload_n 3, 1) := by decide +kernel
theorem dX1_putInRow_33 : decode cX1_putInRow 33 = .ok (.istore 5, 2) := by decide +kernel
theorem dX1_putInRow_35 : decode cX1_putInRow 35 = .ok (.iload 5, 2) := by decide +kernel
theorem dX1_putInRow_37 : decode cX1_putInRow 37 = .ok (.ifCond .le 40, 3) := by decide +kernel
theorem dX1_putInRow_40 : decode cX1_putInRow 40 = .ok (.aload_n 0, 1) := by decide +kernel
theorem dX1_putInRow_41 : decode cX1_putInRow 41 = .ok (.getfield 15, 3) := by decide +kernel
theorem dX1_putInRow_44 : decode cX1_putInRow 44 = .ok (.aload_n 2, 1) := by decide +kernel
theorem dX1_putInRow_45 : decode cX1_putInRow 45 = .ok (.iload 5, 2) := by decide +kernel
theorem dX1_putInRow_47 : decode cX1_putInRow 47 = .ok (.iconst 1, 1) := by decide +kernel
theorem dX1_putInRow_48 : decode cX1_putInRow 48 = .ok (.isub, 1) := by decide +kernel
theorem dX1_putInRow_49 : decode cX1_putInRow 49 = .ok (.iaload, 1) := by decide +kernel
theorem dX1_putInRow_50 : decode cX1_putInRow 50 = .ok (.iaload, 1) := by decide +kernel
theorem dX1_putInRow_51 : decode cX1_putInRow 51 = .ok (.aload_n 0, 1) := by decide +kernel
theorem dX1_putInRow_52 : decode cX1_putInRow 52 = .ok (.getfield 15, 3) := by decide +kernel
theorem dX1_putInRow_55 : decode cX1_putInRow 55 = .ok (.iload 4, 2) := by decide +kernel
theorem dX1_putInRow_57 : decode cX1_putInRow 57 = .ok (.iaload, 1) := by decide +kernel
theorem dX1_putInRow_58 : decode cX1_putInRow 58 = .ok (.if_icmp .le 19, 3) := by decide +kernel
theorem dX1_putInRow_61 : decode cX1_putInRow 61 = .ok (.aload_n 2, 1) := by decide +kernel
theorem dX1_putInRow_62 : decode cX1_putInRow 62 = .ok (.iload 5, 2) := by decide +kernel
theorem dX1_putInRow_64 : decode cX1_putInRow 64 = .ok (.aload_n 2, 1) := by decide +kernel
theorem dX1_putInRow_65 : decode cX1_putInRow 65 = .ok (.iload 5, 2) := by decide +kernel
theorem dX1_putInRow_67 : decode cX1_putInRow 67 = .ok (.iconst 1, 1) := by decide +kernel
theorem dX1_putInRow_68 : decode cX1_putInRow 68 = .ok (.isub, 1) := by decide +kernel
theorem dX1_putInRow_69 : decode cX1_putInRow 69 = .ok (.iaload, 1) := by decide +kernel
theorem dX1_putInRow_70 : decode cX1_putInRow 70 = .ok (.iastore, 1) := by decide +kernel
theorem dX1_putInRow_71 : decode cX1_putInRow 71 = .ok (.iinc 5 (-1), 3) := by decide +kernel
theorem dX1_putInRow_74 : decode cX1_putInRow 74 = .ok (.goto (-39), 3) := by decide +kernel
theorem dX1_putInRow_77 : decode cX1_putInRow 77 = .ok (.aload_n 2, 1) := by decide +kernel
theorem dX1_putInRow_78 : decode cX1_putInRow 78 = .ok (.iload 5, 2) := by decide +kernel
theorem dX1_putInRow_80 : decode cX1_putInRow 80 = .ok (.iload 4, 2) := by decide +kernel
theorem dX1_putInRow_82 : decode cX1_putInRow 82 = .ok (.iastore, 1) := by decide +kernel
theorem dX1_putInRow_83 : decode cX1_putInRow 83 = .ok (.iinc 3 1, 3) := by decide +kernel
theorem dX1_putInRow_86 : decode cX1_putInRow 86 = .ok (.iinc 4 1, 3) := by decide +kernel
theorem dX1_putInRow_89 : decode cX1_putInRow 89 = .ok (.goto (-84), 3) := by decide +kernel
theorem dX1_putInRow_92 : decode cX1_putInRow 92 = .ok (.iload_n 3, 1) := by decide +kernel
theorem dX1_putInRow_93 : decode cX1_putInRow 93 = .ok (.ireturn, 1) := by decide +kernel
theorem dX2_init_0 : decode cX2_init 0 = .ok (.aload_n 0, 1) := by decide +kernel
theorem dX2_init_1 : decode cX2_init 1 = .ok (.invokespecial 3, 3) := by decide +kernel
theorem dX2_init_4 : decode cX2_init 4 = .ok (.aload_n 0, 1) := by decide +kernel
theorem dX2_init_5 : decode cX2_init 5 = .ok (.sipush 1536, 3) := by decide +kernel
theorem dX2_init_8 : decode cX2_init 8 = .ok (.newarray .int, 2) := by decide +kernel
theorem dX2_init_10 : decode cX2_init 10 = .ok (.putfield 11, 3) := by decide +kernel
theorem dX2_init_13 : decode cX2_init 13 = .ok (.aload_n 0, 1) := by decide +kernel
theorem dX2_init_14 : decode cX2_init 14 = .ok (.bipush 6, 2) := by decide +kernel
theorem dX2_init_16 : decode cX2_init 16 = .ok (.newarray .int, 2) := by decide +kernel
theorem dX2_init_18 : decode cX2_init 18 = .ok (.putfield 17, 3) := by decide +kernel
theorem dX2_init_21 : decode cX2_init 21 = .ok (.aload_n 0, 1) := by decide +kernel
theorem dX2_init_22 : decode cX2_init 22 = .ok (.bipush 6, 2) := by decide +kernel
theorem dX2_init_24 : decode cX2_init 24 = .ok (.newarray .int, 2) := by decide +kernel
theorem dX2_init_26 : decode cX2_init 26 = .ok (.putfield 20, 3) := by decide +kernel
theorem dX2_init_29 : decode cX2_init 29 = .ok (.aload_n 0, 1) := by decide +kernel
theorem dX2_init_30 : decode cX2_init 30 = .ok (.bipush 78, 2) := by decide +kernel
theorem dX2_init_32 : decode cX2_init 32 = .ok (.newarray .int, 2) := by decide +kernel
theorem dX2_init_34 : decode cX2_init 34 = .ok (.putfield 23, 3) := by decide +kernel
theorem dX2_init_37 : decode cX2_init 37 = .ok (.aload_n 0, 1) := by decide +kernel
theorem dX2_init_38 : decode cX2_init 38 = .ok (.bipush 6, 2) := by decide +kernel
theorem dX2_init_40 : decode cX2_init 40 = .ok (.anewarray 26, 3) := by decide +kernel
theorem dX2_init_43 : decode cX2_init 43 = .ok (.putfield 28, 3) := by decide +kernel
theorem dX2_init_46 : decode cX2_init 46 = .ok (.aload_n 0, 1) := by decide +kernel
theorem dX2_init_47 : decode cX2_init 47 = .ok (.iconst 0, 1) := by decide +kernel
theorem dX2_init_48 : decode cX2_init 48 = .ok (.putfield 32, 3) := by decide +kernel
theorem dX2_init_51 : decode cX2_init 51 = .ok (.return_, 1) := by decide +kernel
theorem dX2_clear_0 : decode cX2_clear 0 = .ok (.aload_n 0, 1) := by decide +kernel
theorem dX2_clear_1 : decode cX2_clear 1 = .ok (.iconst 0, 1) := by decide +kernel
theorem dX2_clear_2 : decode cX2_clear 2 = .ok (.putfield 32, 3) := by decide +kernel
theorem dX2_clear_5 : decode cX2_clear 5 = .ok (.return_, 1) := by decide +kernel
theorem dX2_isEmpty_0 : decode cX2_isEmpty 0 = .ok (.aload_n 0, 1) := by decide +kernel
theorem dX2_isEmpty_1 : decode cX2_isEmpty 1 = .ok (.getfield 32, 3) := by decide +kernel
theorem dX2_isEmpty_4 : decode cX2_isEmpty 4 = .ok (.ifCond .ne 7, 3) := by decide +kernel
theorem dX2_isEmpty_7 : decode cX2_isEmpty 7 = .ok (.iconst 1, 1) := by decide +kernel
theorem dX2_isEmpty_8 : decode cX2_isEmpty 8 = .ok (.goto 4, 3) := by decide +kernel
theorem dX2_isEmpty_11 : decode cX2_isEmpty 11 = .ok (.iconst 0, 1) := by decide +kernel
theorem dX2_isEmpty_12 : decode cX2_isEmpty 12 = .ok (.ireturn, 1) := by decide +kernel
theorem dX2_join_0 : decode cX2_join 0 = .ok (.aload_n 0, 1) := by decide +kernel
theorem dX2_join_1 : decode cX2_join 1 = .ok (.getfield 32, 3) := by decide +kernel
theorem dX2_join_4 : decode cX2_join 4 = .ok (.bipush 6, 2) := by decide +kernel
theorem dX2_join_6 : decode cX2_join 6 = .ok (.if_icmp .ge 62, 3) := by decide +kernel
theorem dX2_join_9 : decode cX2_join 9 = .ok (.aload_n 0, 1) := by decide +kernel
theorem dX2_join_10 : decode cX2_join 10 = .ok (.getfield 28, 3) := by decide +kernel
theorem dX2_join_13 : decode cX2_join 13 = .ok (.aload_n 0, 1) := by decide +kernel
theorem dX2_join_14 : decode cX2_join 14 = .ok (.getfield 32, 3) := by decide +kernel
theorem dX2_join_17 : decode cX2_join 17 = .ok (.aload_n 1, 1) := by decide +kernel
theorem dX2_join_18 : decode cX2_join 18 = .ok (.aastore, 1) := by decide +kernel
theorem dX2_join_19 : decode cX2_join 19 = .ok (.aload_n 0, 1) := by decide +kernel
theorem dX2_join_20 : decode cX2_join 20 = .ok (.getfield 17, 3) := by decide +kernel
theorem dX2_join_23 : decode cX2_join 23 = .ok (.aload_n 0, 1) := by decide +kernel
theorem dX2_join_24 : decode cX2_join 24 = .ok (.getfield 32, 3) := by decide +kernel
theorem dX2_join_27 : decode cX2_join 27 = .ok (.aload_n 1, 1) := by decide +kernel
theorem dX2_join_28 : decode cX2_join 28 = .ok (.getfield 36, 3) := by decide +kernel
theorem dX2_join_31 : decode cX2_join 31 = .ok (.bipush 7, 2) := by decide +kernel
theorem dX2_join_33 : decode cX2_join 33 = .ok (.iaload, 1) := by decide +kernel
theorem dX2_join_34 : decode cX2_join 34 = .ok (.iastore, 1) := by decide +kernel
theorem dX2_join_35 : decode cX2_join 35 = .ok (.aload_n 0, 1) := by decide +kernel
theorem dX2_join_36 : decode cX2_join 36 = .ok (.getfield 20, 3) := by decide +kernel
theorem dX2_join_39 : decode cX2_join 39 = .ok (.aload_n 0, 1) := by decide +kernel
theorem dX2_join_40 : decode cX2_join 40 = .ok (.getfield 32, 3) := by decide +kernel
theorem dX2_join_43 : decode cX2_join 43 = .ok (.aload_n 1, 1) := by decide +kernel
theorem dX2_join_44 : decode cX2_join 44 = .ok (.invokevirtual 39, 3) := by decide +kernel
theorem dX2_join_47 : decode cX2_join 47 = .ok (.iastore, 1) := by decide +kernel
theorem dX2_join_48 : decode cX2_join 48 = .ok (.aload_n 0, 1) := by decide +kernel
theorem dX2_join_49 : decode cX2_join 49 = .ok (.getfield 23, 3) := by decide +kernel
theorem dX2_join_52 : decode cX2_join 52 = .ok (.aload_n 0, 1) := by decide +kernel
theorem dX2_join_53 : decode cX2_join 53 = .ok (.getfield 32, 3) := by decide +kernel
theorem dX2_join_56 : decode cX2_join 56 = .ok (.iconst 0, 1) := by decide +kernel
theorem dX2_join_57 : decode cX2_join 57 = .ok (.iastore, 1) := by decide +kernel
theorem dX2_join_58 : decode cX2_join 58 = .ok (.aload_n 0, 1) := by decide +kernel
theorem dX2_join_59 : decode cX2_join 59 = .ok (.dup, 1) := by decide +kernel
theorem dX2_join_60 : decode cX2_join 60 = .ok (.getfield 32, 3) := by decide +kernel
theorem dX2_join_63 : decode cX2_join 63 = .ok (.iconst 1, 1) := by decide +kernel
theorem dX2_join_64 : decode cX2_join 64 = .ok (.iadd, 1) := by decide +kernel
theorem dX2_join_65 : decode cX2_join 65 = .ok (.putfield 32, 3) := by decide +kernel
theorem dX2_join_68 : decode cX2_join 68 = .ok (.return_, 1) := by decide +kernel
theorem dX2_price_0 : decode cX2_price 0 = .ok (.iconst 0, 1) := by decide +kernel
theorem dX2_price_1 : decode cX2_price 1 = .ok (.istore_n 3, 1) := by decide +kernel
theorem dX2_price_2 : decode cX2_price 2 = .ok (.iload_n 3, 1) := by decide +kernel
theorem dX2_price_3 : decode cX2_price 3 = .ok (.aload_n 0, 1) := by decide +kernel
theorem dX2_price_4 : decode cX2_price 4 = .ok (.getfield 32, 3) := by decide +kernel
theorem dX2_price_7 : decode cX2_price 7 = .ok (.if_icmp .ge 40, 3) := by decide +kernel
theorem dX2_price_10 : decode cX2_price 10 = .ok (.aload_n 0, 1) := by decide +kernel
theorem dX2_price_11 : decode cX2_price 11 = .ok (.getfield 28, 3) := by decide +kernel
theorem dX2_price_14 : decode cX2_price 14 = .ok (.iload_n 3, 1) := by decide +kernel
theorem dX2_price_15 : decode cX2_price 15 = .ok (.aaload, 1) := by decide +kernel
theorem dX2_price_16 : decode cX2_price 16 = .ok (.astore 4, 2) := by decide +kernel
theorem dX2_price_18 : decode cX2_price 18 = .ok (.aload 4, 2) := by decide +kernel
theorem dX2_price_20 : decode cX2_price 20 = .ok (.ifnull 21, 3) := by decide +kernel
theorem dX2_price_23 : decode cX2_price 23 = .ok (.aload_n 0, 1) := by decide +kernel
theorem dX2_price_24 : decode cX2_price 24 = .ok (.getfield 11, 3) := by decide +kernel
theorem dX2_price_27 : decode cX2_price 27 = .ok (.iload_n 3, 1) := by decide +kernel
theorem dX2_price_28 : decode cX2_price 28 = .ok (.sipush 256, 3) := by decide +kernel
theorem dX2_price_31 : decode cX2_price 31 = .ok (.imul, 1) := by decide +kernel
theorem dX2_price_32 : decode cX2_price 32 = .ok (.iload_n 1, 1) := by decide +kernel
theorem dX2_price_33 : decode cX2_price 33 = .ok (.iadd, 1) := by decide +kernel
theorem dX2_price_34 : decode cX2_price 34 = .ok (.aload 4, 2) := by decide +kernel
theorem dX2_price_36 : decode cX2_price 36 = .ok (.iload_n 2, 1) := by decide +kernel
theorem dX2_price_37 : decode cX2_price 37 = .ok (.invokevirtual 43, 3) := by decide +kernel
theorem dX2_price_40 : decode cX2_price 40 = .ok (.iastore, 1) := by decide +kernel
theorem dX2_price_41 : decode cX2_price 41 = .ok (.iinc 3 1, 3) := by decide +kernel
theorem dX2_price_44 : decode cX2_price 44 = .ok (.goto (-42), 3) := by decide +kernel
theorem dX2_price_47 : decode cX2_price 47 = .ok (.return_, 1) := by decide +kernel
theorem dX2_bringFor_0 : decode cX2_bringFor 0 = .ok (.iconst 0, 1) := by decide +kernel
theorem dX2_bringFor_1 : decode cX2_bringFor 1 = .ok (.istore_n 3, 1) := by decide +kernel
theorem dX2_bringFor_2 : decode cX2_bringFor 2 = .ok (.iconst 0, 1) := by decide +kernel
theorem dX2_bringFor_3 : decode cX2_bringFor 3 = .ok (.istore 4, 2) := by decide +kernel
theorem dX2_bringFor_5 : decode cX2_bringFor 5 = .ok (.iload 4, 2) := by decide +kernel
theorem dX2_bringFor_7 : decode cX2_bringFor 7 = .ok (.aload_n 0, 1) := by decide +kernel
theorem dX2_bringFor_8 : decode cX2_bringFor 8 = .ok (.getfield 32, 3) := by decide +kernel
theorem dX2_bringFor_11 : decode cX2_bringFor 11 = .ok (.if_icmp .ge 95, 3) := by decide +kernel
theorem dX2_bringFor_14 : decode cX2_bringFor 14 = .ok (.aload_n 0, 1) := by decide +kernel
theorem dX2_bringFor_15 : decode cX2_bringFor 15 = .ok (.getfield 23, 3) := by decide +kernel
theorem dX2_bringFor_18 : decode cX2_bringFor 18 = .ok (.iload_n 2, 1) := by decide +kernel
theorem dX2_bringFor_19 : decode cX2_bringFor 19 = .ok (.bipush 6, 2) := by decide +kernel
theorem dX2_bringFor_21 : decode cX2_bringFor 21 = .ok (.imul, 1) := by decide +kernel
theorem dX2_bringFor_22 : decode cX2_bringFor 22 = .ok (.iload 4, 2) := by decide +kernel
theorem dX2_bringFor_24 : decode cX2_bringFor 24 = .ok (.iadd, 1) := by decide +kernel
theorem dX2_bringFor_25 : decode cX2_bringFor 25 = .ok (.iaload, 1) := by decide +kernel
theorem dX2_bringFor_26 : decode cX2_bringFor 26 = .ok (.istore 5, 2) := by decide +kernel
theorem dX2_bringFor_28 : decode cX2_bringFor 28 = .ok (.iload 5, 2) := by decide +kernel
theorem dX2_bringFor_30 : decode cX2_bringFor 30 = .ok (.aload_n 0, 1) := by decide +kernel
theorem dX2_bringFor_31 : decode cX2_bringFor 31 = .ok (.getfield 17, 3) := by decide +kernel
theorem dX2_bringFor_34 : decode cX2_bringFor 34 = .ok (.iload 4, 2) := by decide +kernel
theorem dX2_bringFor_36 : decode cX2_bringFor 36 = .ok (.iaload, 1) := by decide +kernel
theorem dX2_bringFor_37 : decode cX2_bringFor 37 = .ok (.if_icmp .ge 19, 3) := by decide +kernel
theorem dX2_bringFor_40 : decode cX2_bringFor 40 = .ok (.aload_n 0, 1) := by decide +kernel
theorem dX2_bringFor_41 : decode cX2_bringFor 41 = .ok (.getfield 11, 3) := by decide +kernel
theorem dX2_bringFor_44 : decode cX2_bringFor 44 = .ok (.iload 4, 2) := by decide +kernel
theorem dX2_bringFor_46 : decode cX2_bringFor 46 = .ok (.sipush 256, 3) := by decide +kernel
theorem dX2_bringFor_49 : decode cX2_bringFor 49 = .ok (.imul, 1) := by decide +kernel
theorem dX2_bringFor_50 : decode cX2_bringFor 50 = .ok (.iload_n 1, 1) := by decide +kernel
theorem dX2_bringFor_51 : decode cX2_bringFor 51 = .ok (.iadd, 1) := by decide +kernel
theorem dX2_bringFor_52 : decode cX2_bringFor 52 = .ok (.iaload, 1) := by decide +kernel
theorem dX2_bringFor_53 : decode cX2_bringFor 53 = .ok (.goto 4, 3) := by decide +kernel
theorem dX2_bringFor_56 : decode cX2_bringFor 56 = .ok (.iconst 0, 1) := by decide +kernel
theorem dX2_bringFor_57 : decode cX2_bringFor 57 = .ok (.istore 6, 2) := by decide +kernel
theorem dX2_bringFor_59 : decode cX2_bringFor 59 = .ok (.aload_n 0, 1) := by decide +kernel
theorem dX2_bringFor_60 : decode cX2_bringFor 60 = .ok (.getfield 23, 3) := by decide +kernel
theorem dX2_bringFor_63 : decode cX2_bringFor 63 = .ok (.iload_n 2, 1) := by decide +kernel
theorem dX2_bringFor_64 : decode cX2_bringFor 64 = .ok (.iconst 1, 1) := by decide +kernel
theorem dX2_bringFor_65 : decode cX2_bringFor 65 = .ok (.iadd, 1) := by decide +kernel
theorem dX2_bringFor_66 : decode cX2_bringFor 66 = .ok (.bipush 6, 2) := by decide +kernel
theorem dX2_bringFor_68 : decode cX2_bringFor 68 = .ok (.imul, 1) := by decide +kernel
theorem dX2_bringFor_69 : decode cX2_bringFor 69 = .ok (.iload 4, 2) := by decide +kernel
theorem dX2_bringFor_71 : decode cX2_bringFor 71 = .ok (.iadd, 1) := by decide +kernel
theorem dX2_bringFor_72 : decode cX2_bringFor 72 = .ok (.iload 6, 2) := by decide +kernel
theorem dX2_bringFor_74 : decode cX2_bringFor 74 = .ok (.ifCond .le 10, 3) := by decide +kernel
theorem dX2_bringFor_77 : decode cX2_bringFor 77 = .ok (.iload 5, 2) := by decide +kernel
theorem dX2_bringFor_79 : decode cX2_bringFor 79 = .ok (.iconst 1, 1) := by decide +kernel
theorem dX2_bringFor_80 : decode cX2_bringFor 80 = .ok (.iadd, 1) := by decide +kernel
theorem dX2_bringFor_81 : decode cX2_bringFor 81 = .ok (.goto 5, 3) := by decide +kernel
theorem dX2_bringFor_84 : decode cX2_bringFor 84 = .ok (.iload 5, 2) := by decide +kernel
theorem dX2_bringFor_86 : decode cX2_bringFor 86 = .ok (.iastore, 1) := by decide +kernel
theorem dX2_bringFor_87 : decode cX2_bringFor 87 = .ok (.iload_n 3, 1) := by decide +kernel
theorem dX2_bringFor_88 : decode cX2_bringFor 88 = .ok (.iload 6, 2) := by decide +kernel
theorem dX2_bringFor_90 : decode cX2_bringFor 90 = .ok (.aload_n 0, 1) := by decide +kernel
theorem dX2_bringFor_91 : decode cX2_bringFor 91 = .ok (.getfield 20, 3) := by decide +kernel
theorem dX2_bringFor_94 : decode cX2_bringFor 94 = .ok (.iload 4, 2) := by decide +kernel
theorem dX2_bringFor_96 : decode cX2_bringFor 96 = .ok (.iaload, 1) := by decide +kernel
theorem dX2_bringFor_97 : decode cX2_bringFor 97 = .ok (.imul, 1) := by decide +kernel
theorem dX2_bringFor_98 : decode cX2_bringFor 98 = .ok (.iadd, 1) := by decide +kernel
theorem dX2_bringFor_99 : decode cX2_bringFor 99 = .ok (.istore_n 3, 1) := by decide +kernel
theorem dX2_bringFor_100 : decode cX2_bringFor 100 = .ok (.iinc 4 1, 3) := by decide +kernel
theorem dX2_bringFor_103 : decode cX2_bringFor 103 = .ok (.goto (-98), 3) := by decide +kernel
theorem dX2_bringFor_106 : decode cX2_bringFor 106 = .ok (.iload_n 3, 1) := by decide +kernel
theorem dX2_bringFor_107 : decode cX2_bringFor 107 = .ok (.ireturn, 1) := by decide +kernel
theorem dX3_init_0 : decode cX3_init 0 = .ok (.aload_n 0, 1) := by decide +kernel
theorem dX3_init_1 : decode cX3_init 1 = .ok (.invokespecial 3, 3) := by decide +kernel
theorem dX3_init_4 : decode cX3_init 4 = .ok (.aload_n 0, 1) := by decide +kernel
theorem dX3_init_5 : decode cX3_init 5 = .ok (.aload_n 1, 1) := by decide +kernel
theorem dX3_init_6 : decode cX3_init 6 = .ok (.putfield 9, 3) := by decide +kernel
theorem dX3_init_9 : decode cX3_init 9 = .ok (.aload_n 0, 1) := by decide +kernel
theorem dX3_init_10 : decode cX3_init 10 = .ok (.new 15, 3) := by decide +kernel
theorem dX3_init_13 : decode cX3_init 13 = .ok (.dup, 1) := by decide +kernel
theorem dX3_init_14 : decode cX3_init 14 = .ok (.invokespecial 17, 3) := by decide +kernel
theorem dX3_init_17 : decode cX3_init 17 = .ok (.putfield 18, 3) := by decide +kernel
theorem dX3_init_20 : decode cX3_init 20 = .ok (.aload_n 0, 1) := by decide +kernel
theorem dX3_init_21 : decode cX3_init 21 = .ok (.new 22, 3) := by decide +kernel
theorem dX3_init_24 : decode cX3_init 24 = .ok (.dup, 1) := by decide +kernel
theorem dX3_init_25 : decode cX3_init 25 = .ok (.invokespecial 24, 3) := by decide +kernel
theorem dX3_init_28 : decode cX3_init 28 = .ok (.putfield 25, 3) := by decide +kernel
theorem dX3_init_31 : decode cX3_init 31 = .ok (.aload_n 0, 1) := by decide +kernel
theorem dX3_init_32 : decode cX3_init 32 = .ok (.bipush 12, 2) := by decide +kernel
theorem dX3_init_34 : decode cX3_init 34 = .ok (.newarray .int, 2) := by decide +kernel
theorem dX3_init_36 : decode cX3_init 36 = .ok (.putfield 29, 3) := by decide +kernel
theorem dX3_init_39 : decode cX3_init 39 = .ok (.aload_n 0, 1) := by decide +kernel
theorem dX3_init_40 : decode cX3_init 40 = .ok (.bipush 12, 2) := by decide +kernel
theorem dX3_init_42 : decode cX3_init 42 = .ok (.newarray .int, 2) := by decide +kernel
theorem dX3_init_44 : decode cX3_init 44 = .ok (.putfield 33, 3) := by decide +kernel
theorem dX3_init_47 : decode cX3_init 47 = .ok (.aload_n 0, 1) := by decide +kernel
theorem dX3_init_48 : decode cX3_init 48 = .ok (.sipush 256, 3) := by decide +kernel
theorem dX3_init_51 : decode cX3_init 51 = .ok (.newarray .int, 2) := by decide +kernel
theorem dX3_init_53 : decode cX3_init 53 = .ok (.putfield 36, 3) := by decide +kernel
theorem dX3_init_56 : decode cX3_init 56 = .ok (.aload_n 0, 1) := by decide +kernel
theorem dX3_init_57 : decode cX3_init 57 = .ok (.bipush 13, 2) := by decide +kernel
theorem dX3_init_59 : decode cX3_init 59 = .ok (.newarray .int, 2) := by decide +kernel
theorem dX3_init_61 : decode cX3_init 61 = .ok (.putfield 39, 3) := by decide +kernel
theorem dX3_init_64 : decode cX3_init 64 = .ok (.return_, 1) := by decide +kernel
theorem dX3_isToldFor_0 : decode cX3_isToldFor 0 = .ok (.aload_n 0, 1) := by decide +kernel
theorem dX3_isToldFor_1 : decode cX3_isToldFor 1 = .ok (.invokevirtual 42, 3) := by decide +kernel
theorem dX3_isToldFor_4 : decode cX3_isToldFor 4 = .ok (.ifCond .eq 12, 3) := by decide +kernel
theorem dX3_isToldFor_7 : decode cX3_isToldFor 7 = .ok (.iload_n 1, 1) := by decide +kernel
theorem dX3_isToldFor_8 : decode cX3_isToldFor 8 = .ok (.invokestatic 46, 3) := by decide +kernel
theorem dX3_isToldFor_11 : decode cX3_isToldFor 11 = .ok (.bipush 8, 2) := by decide +kernel
theorem dX3_isToldFor_13 : decode cX3_isToldFor 13 = .ok (.if_icmp .gt 7, 3) := by decide +kernel
theorem dX3_isToldFor_16 : decode cX3_isToldFor 16 = .ok (.iconst 1, 1) := by decide +kernel
theorem dX3_isToldFor_17 : decode cX3_isToldFor 17 = .ok (.goto 4, 3) := by decide +kernel
theorem dX3_isToldFor_20 : decode cX3_isToldFor 20 = .ok (.iconst 0, 1) := by decide +kernel
theorem dX3_isToldFor_21 : decode cX3_isToldFor 21 = .ok (.ireturn, 1) := by decide +kernel
theorem dX3_findFor_0 : decode cX3_findFor 0 = .ok (.aload_n 0, 1) := by decide +kernel
theorem dX3_findFor_1 : decode cX3_findFor 1 = .ok (.invokevirtual 52, 3) := by decide +kernel
theorem dX3_findFor_4 : decode cX3_findFor 4 = .ok (.aload_n 0, 1) := by decide +kernel
theorem dX3_findFor_5 : decode cX3_findFor 5 = .ok (.aload_n 1, 1) := by decide +kernel
theorem dX3_findFor_6 : decode cX3_findFor 6 = .ok (.invokevirtual 55, 3) := by decide +kernel
theorem dX3_findFor_9 : decode cX3_findFor 9 = .ok (.aload_n 0, 1) := by decide +kernel
theorem dX3_findFor_10 : decode cX3_findFor 10 = .ok (.iload_n 2, 1) := by decide +kernel
theorem dX3_findFor_11 : decode cX3_findFor 11 = .ok (.invokevirtual 59, 3) := by decide +kernel
theorem dX3_findFor_14 : decode cX3_findFor 14 = .ok (.ireturn, 1) := by decide +kernel
theorem dX3_startJoining_0 : decode cX3_startJoining 0 = .ok (.aload_n 0, 1) := by decide +kernel
theorem dX3_startJoining_1 : decode cX3_startJoining 1 = .ok (.getfield 25, 3) := by decide +kernel
theorem dX3_startJoining_4 : decode cX3_startJoining 4 = .ok (.invokevirtual 63, 3) := by decide +kernel
theorem dX3_startJoining_7 : decode cX3_startJoining 7 = .ok (.return_, 1) := by decide +kernel
theorem dX3_join_0 : decode cX3_join 0 = .ok (.aload_n 0, 1) := by decide +kernel
theorem dX3_join_1 : decode cX3_join 1 = .ok (.getfield 25, 3) := by decide +kernel
theorem dX3_join_4 : decode cX3_join 4 = .ok (.invokevirtual 66, 3) := by decide +kernel
theorem dX3_join_7 : decode cX3_join 7 = .ok (.ifCond .eq 14, 3) := by decide +kernel
theorem dX3_join_10 : decode cX3_join 10 = .ok (.aload_n 0, 1) := by decide +kernel
theorem dX3_join_11 : decode cX3_join 11 = .ok (.getfield 18, 3) := by decide +kernel
theorem dX3_join_14 : decode cX3_join 14 = .ok (.aload_n 1, 1) := by decide +kernel
theorem dX3_join_15 : decode cX3_join 15 = .ok (.invokevirtual 69, 3) := by decide +kernel
theorem dX3_join_18 : decode cX3_join 18 = .ok (.goto 11, 3) := by decide +kernel
theorem dX3_join_21 : decode cX3_join 21 = .ok (.aload_n 0, 1) := by decide +kernel
theorem dX3_join_22 : decode cX3_join 22 = .ok (.getfield 18, 3) := by decide +kernel
theorem dX3_join_25 : decode cX3_join 25 = .ok (.aload_n 1, 1) := by decide +kernel
theorem dX3_join_26 : decode cX3_join 26 = .ok (.invokevirtual 72, 3) := by decide +kernel
theorem dX3_join_29 : decode cX3_join 29 = .ok (.aload_n 0, 1) := by decide +kernel
theorem dX3_join_30 : decode cX3_join 30 = .ok (.getfield 25, 3) := by decide +kernel
theorem dX3_join_33 : decode cX3_join 33 = .ok (.aload_n 1, 1) := by decide +kernel
theorem dX3_join_34 : decode cX3_join 34 = .ok (.invokevirtual 75, 3) := by decide +kernel
theorem dX3_join_37 : decode cX3_join 37 = .ok (.return_, 1) := by decide +kernel
theorem dX3_findForJoined_0 : decode cX3_findForJoined 0 = .ok (.aload_n 0, 1) := by decide +kernel
theorem dX3_findForJoined_1 : decode cX3_findForJoined 1 = .ok (.iconst 0, 1) := by decide +kernel
theorem dX3_findForJoined_2 : decode cX3_findForJoined 2 = .ok (.putfield 76, 3) := by decide +kernel
theorem dX3_findForJoined_5 : decode cX3_findForJoined 5 = .ok (.aload_n 0, 1) := by decide +kernel
theorem dX3_findForJoined_6 : decode cX3_findForJoined 6 = .ok (.getfield 25, 3) := by decide +kernel
theorem dX3_findForJoined_9 : decode cX3_findForJoined 9 = .ok (.invokevirtual 66, 3) := by decide +kernel
theorem dX3_findForJoined_12 : decode cX3_findForJoined 12 = .ok (.ifCond .ne 25, 3) := by decide +kernel
theorem dX3_findForJoined_15 : decode cX3_findForJoined 15 = .ok (.aload_n 0, 1) := by decide +kernel
theorem dX3_findForJoined_16 : decode cX3_findForJoined 16 = .ok (.getfield 9, 3) := by decide +kernel
theorem dX3_findForJoined_19 : decode cX3_findForJoined 19 = .ok (.iload_n 1, 1) := by decide +kernel
theorem dX3_findForJoined_20 : decode cX3_findForJoined 20 = .ok (.invokevirtual 80, 3) := by decide +kernel
theorem dX3_findForJoined_23 : decode cX3_findForJoined 23 = .ok (.ifCond .eq 14, 3) := by decide +kernel
theorem dX3_findForJoined_26 : decode cX3_findForJoined 26 = .ok (.aload_n 0, 1) := by decide +kernel
theorem dX3_findForJoined_27 : decode cX3_findForJoined 27 = .ok (.getfield 18, 3) := by decide +kernel
theorem dX3_findForJoined_30 : decode cX3_findForJoined 30 = .ok (.iload_n 1, 1) := by decide +kernel
theorem dX3_findForJoined_31 : decode cX3_findForJoined 31 = .ok (.invokestatic 85, 3) := by decide +kernel
theorem dX3_findForJoined_34 : decode cX3_findForJoined 34 = .ok (.ifCond .ne 5, 3) := by decide +kernel
theorem dX3_findForJoined_37 : decode cX3_findForJoined 37 = .ok (.iconst 0, 1) := by decide +kernel
theorem dX3_findForJoined_38 : decode cX3_findForJoined 38 = .ok (.ireturn, 1) := by decide +kernel
theorem dX3_findForJoined_39 : decode cX3_findForJoined 39 = .ok (.aload_n 0, 1) := by decide +kernel
theorem dX3_findForJoined_40 : decode cX3_findForJoined 40 = .ok (.aload_n 0, 1) := by decide +kernel
theorem dX3_findForJoined_41 : decode cX3_findForJoined 41 = .ok (.getfield 9, 3) := by decide +kernel
theorem dX3_findForJoined_44 : decode cX3_findForJoined 44 = .ok (.iload_n 1, 1) := by decide +kernel
theorem dX3_findForJoined_45 : decode cX3_findForJoined 45 = .ok (.aload_n 0, 1) := by decide +kernel
theorem dX3_findForJoined_46 : decode cX3_findForJoined 46 = .ok (.getfield 29, 3) := by decide +kernel
theorem dX3_findForJoined_49 : decode cX3_findForJoined 49 = .ok (.invokevirtual 89, 3) := by decide +kernel
theorem dX3_findForJoined_52 : decode cX3_findForJoined 52 = .ok (.putfield 93, 3) := by decide +kernel
theorem dX3_findForJoined_55 : decode cX3_findForJoined 55 = .ok (.aload_n 0, 1) := by decide +kernel
theorem dX3_findForJoined_56 : decode cX3_findForJoined 56 = .ok (.invokevirtual 97, 3) := by decide +kernel
theorem dX3_findForJoined_59 : decode cX3_findForJoined 59 = .ok (.aload_n 0, 1) := by decide +kernel
theorem dX3_findForJoined_60 : decode cX3_findForJoined 60 = .ok (.invokevirtual 100, 3) := by decide +kernel
theorem dX3_findForJoined_63 : decode cX3_findForJoined 63 = .ok (.aload_n 0, 1) := by decide +kernel
theorem dX3_findForJoined_64 : decode cX3_findForJoined 64 = .ok (.iconst 1, 1) := by decide +kernel
theorem dX3_findForJoined_65 : decode cX3_findForJoined 65 = .ok (.aload_n 0, 1) := by decide +kernel
theorem dX3_findForJoined_66 : decode cX3_findForJoined 66 = .ok (.getfield 93, 3) := by decide +kernel
theorem dX3_findForJoined_69 : decode cX3_findForJoined 69 = .ok (.ishl, 1) := by decide +kernel
theorem dX3_findForJoined_70 : decode cX3_findForJoined 70 = .ok (.iconst 1, 1) := by decide +kernel
theorem dX3_findForJoined_71 : decode cX3_findForJoined 71 = .ok (.isub, 1) := by decide +kernel
theorem dX3_findForJoined_72 : decode cX3_findForJoined 72 = .ok (.iconst 0, 1) := by decide +kernel
theorem dX3_findForJoined_73 : decode cX3_findForJoined 73 = .ok (.iconst 0, 1) := by decide +kernel
theorem dX3_findForJoined_74 : decode cX3_findForJoined 74 = .ok (.invokevirtual 103, 3) := by decide +kernel
theorem dX3_findForJoined_77 : decode cX3_findForJoined 77 = .ok (.aload_n 0, 1) := by decide +kernel
theorem dX3_findForJoined_78 : decode cX3_findForJoined 78 = .ok (.getfield 76, 3) := by decide +kernel
theorem dX3_findForJoined_81 : decode cX3_findForJoined 81 = .ok (.ireturn, 1) := by decide +kernel
theorem dX3_seeWhoIsNear_0 : decode cX3_seeWhoIsNear 0 = .ok (.iconst 0, 1) := by decide +kernel
theorem dX3_seeWhoIsNear_1 : decode cX3_seeWhoIsNear 1 = .ok (.istore_n 1, 1) := by decide +kernel
theorem dX3_seeWhoIsNear_2 : decode cX3_seeWhoIsNear 2 = .ok (.iload_n 1, 1) := by decide +kernel
theorem dX3_seeWhoIsNear_3 : decode cX3_seeWhoIsNear 3 = .ok (.aload_n 0, 1) := by decide +kernel
theorem dX3_seeWhoIsNear_4 : decode cX3_seeWhoIsNear 4 = .ok (.getfield 93, 3) := by decide +kernel
theorem dX3_seeWhoIsNear_7 : decode cX3_seeWhoIsNear 7 = .ok (.if_icmp .ge 70, 3) := by decide +kernel
theorem dX3_seeWhoIsNear_10 : decode cX3_seeWhoIsNear 10 = .ok (.aload_n 0, 1) := by decide +kernel
theorem dX3_seeWhoIsNear_11 : decode cX3_seeWhoIsNear 11 = .ok (.getfield 33, 3) := by decide +kernel
theorem dX3_seeWhoIsNear_14 : decode cX3_seeWhoIsNear 14 = .ok (.iload_n 1, 1) := by decide +kernel
theorem dX3_seeWhoIsNear_15 : decode cX3_seeWhoIsNear 15 = .ok (.iconst 0, 1) := by decide +kernel
theorem dX3_seeWhoIsNear_16 : decode cX3_seeWhoIsNear 16 = .ok (.iastore, 1) := by decide +kernel
theorem dX3_seeWhoIsNear_17 : decode cX3_seeWhoIsNear 17 = .ok (.iconst 0, 1) := by decide +kernel
theorem dX3_seeWhoIsNear_18 : decode cX3_seeWhoIsNear 18 = .ok (.istore_n 2, 1) := by decide +kernel
theorem dX3_seeWhoIsNear_19 : decode cX3_seeWhoIsNear 19 = .ok (.iload_n 2, 1) := by decide +kernel
theorem dX3_seeWhoIsNear_20 : decode cX3_seeWhoIsNear 20 = .ok (.aload_n 0, 1) := by decide +kernel
theorem dX3_seeWhoIsNear_21 : decode cX3_seeWhoIsNear 21 = .ok (.getfield 93, 3) := by decide +kernel
theorem dX3_seeWhoIsNear_24 : decode cX3_seeWhoIsNear 24 = .ok (.if_icmp .ge 47, 3) := by decide +kernel
theorem dX3_seeWhoIsNear_27 : decode cX3_seeWhoIsNear 27 = .ok (.aload_n 0, 1) := by decide +kernel
theorem dX3_seeWhoIsNear_28 : decode cX3_seeWhoIsNear 28 = .ok (.getfield 9, 3) := by decide +kernel
theorem dX3_seeWhoIsNear_31 : decode cX3_seeWhoIsNear 31 = .ok (.aload_n 0, 1) := by decide +kernel
theorem dX3_seeWhoIsNear_32 : decode cX3_seeWhoIsNear 32 = .ok (.getfield 18, 3) := by decide +kernel
theorem dX3_seeWhoIsNear_35 : decode cX3_seeWhoIsNear 35 = .ok (.aload_n 0, 1) := by decide +kernel
theorem dX3_seeWhoIsNear_36 : decode cX3_seeWhoIsNear 36 = .ok (.getfield 29, 3) := by decide +kernel
theorem dX3_seeWhoIsNear_39 : decode cX3_seeWhoIsNear 39 = .ok (.iload_n 1, 1) := by decide +kernel
theorem dX3_seeWhoIsNear_40 : decode cX3_seeWhoIsNear 40 = .ok (.iaload, 1) := by decide +kernel
theorem dX3_seeWhoIsNear_41 : decode cX3_seeWhoIsNear 41 = .ok (.aload_n 0, 1) := by decide +kernel
theorem dX3_seeWhoIsNear_42 : decode cX3_seeWhoIsNear 42 = .ok (.getfield 29, 3) := by decide +kernel
theorem dX3_seeWhoIsNear_45 : decode cX3_seeWhoIsNear 45 = .ok (.iload_n 2, 1) := by decide +kernel
theorem dX3_seeWhoIsNear_46 : decode cX3_seeWhoIsNear 46 = .ok (.iaload, 1) := by decide +kernel
theorem dX3_seeWhoIsNear_47 : decode cX3_seeWhoIsNear 47 = .ok (.invokevirtual 107, 3) := by decide +kernel
theorem dX3_seeWhoIsNear_50 : decode cX3_seeWhoIsNear 50 = .ok (.ifCond .eq 15, 3) := by decide +kernel
theorem dX3_seeWhoIsNear_53 : decode cX3_seeWhoIsNear 53 = .ok (.aload_n 0, 1) := by decide +kernel
theorem dX3_seeWhoIsNear_54 : decode cX3_seeWhoIsNear 54 = .ok (.getfield 33, 3) := by decide +kernel
theorem dX3_seeWhoIsNear_57 : decode cX3_seeWhoIsNear 57 = .ok (.iload_n 1, 1) := by decide +kernel
theorem dX3_seeWhoIsNear_58 : decode cX3_seeWhoIsNear 58 = .ok (.dup2, 1) := by decide +kernel
theorem dX3_seeWhoIsNear_59 : decode cX3_seeWhoIsNear 59 = .ok (.iaload, 1) := by decide +kernel
theorem dX3_seeWhoIsNear_60 : decode cX3_seeWhoIsNear 60 = .ok (.iconst 1, 1) := by decide +kernel
theorem dX3_seeWhoIsNear_61 : decode cX3_seeWhoIsNear 61 = .ok (.iload_n 2, 1) := by decide +kernel
theorem dX3_seeWhoIsNear_62 : decode cX3_seeWhoIsNear 62 = .ok (.ishl, 1) := by decide +kernel
theorem dX3_seeWhoIsNear_63 : decode cX3_seeWhoIsNear 63 = .ok (.ior, 1) := by decide +kernel
theorem dX3_seeWhoIsNear_64 : decode cX3_seeWhoIsNear 64 = .ok (.iastore, 1) := by decide +kernel
theorem dX3_seeWhoIsNear_65 : decode cX3_seeWhoIsNear 65 = .ok (.iinc 2 1, 3) := by decide +kernel
theorem dX3_seeWhoIsNear_68 : decode cX3_seeWhoIsNear 68 = .ok (.goto (-49), 3) := by decide +kernel
theorem dX3_seeWhoIsNear_71 : decode cX3_seeWhoIsNear 71 = .ok (.iinc 1 1, 3) := by decide +kernel
theorem dX3_seeWhoIsNear_74 : decode cX3_seeWhoIsNear 74 = .ok (.goto (-72), 3) := by decide +kernel
theorem dX3_seeWhoIsNear_77 : decode cX3_seeWhoIsNear 77 = .ok (.return_, 1) := by decide +kernel
theorem dX3_areOne_0 : decode cX3_areOne 0 = .ok (.iconst (-1), 1) := by decide +kernel
theorem dX3_areOne_1 : decode cX3_areOne 1 = .ok (.istore_n 2, 1) := by decide +kernel
theorem dX3_areOne_2 : decode cX3_areOne 2 = .ok (.iconst 0, 1) := by decide +kernel
theorem dX3_areOne_3 : decode cX3_areOne 3 = .ok (.istore_n 3, 1) := by decide +kernel
theorem dX3_areOne_4 : decode cX3_areOne 4 = .ok (.iload_n 3, 1) := by decide +kernel
theorem dX3_areOne_5 : decode cX3_areOne 5 = .ok (.aload_n 0, 1) := by decide +kernel
theorem dX3_areOne_6 : decode cX3_areOne 6 = .ok (.getfield 93, 3) := by decide +kernel
theorem dX3_areOne_9 : decode cX3_areOne 9 = .ok (.if_icmp .ge 49, 3) := by decide +kernel
theorem dX3_areOne_12 : decode cX3_areOne 12 = .ok (.iload_n 1, 1) := by decide +kernel
theorem dX3_areOne_13 : decode cX3_areOne 13 = .ok (.iconst 1, 1) := by decide +kernel
theorem dX3_areOne_14 : decode cX3_areOne 14 = .ok (.iload_n 3, 1) := by decide +kernel
theorem dX3_areOne_15 : decode cX3_areOne 15 = .ok (.ishl, 1) := by decide +kernel
theorem dX3_areOne_16 : decode cX3_areOne 16 = .ok (.iand, 1) := by decide +kernel
theorem dX3_areOne_17 : decode cX3_areOne 17 = .ok (.ifCond .eq 35, 3) := by decide +kernel
theorem dX3_areOne_20 : decode cX3_areOne 20 = .ok (.iload_n 1, 1) := by decide +kernel
theorem dX3_areOne_21 : decode cX3_areOne 21 = .ok (.aload_n 0, 1) := by decide +kernel
theorem dX3_areOne_22 : decode cX3_areOne 22 = .ok (.getfield 33, 3) := by decide +kernel
theorem dX3_areOne_25 : decode cX3_areOne 25 = .ok (.iload_n 3, 1) := by decide +kernel
theorem dX3_areOne_26 : decode cX3_areOne 26 = .ok (.iaload, 1) := by decide +kernel
theorem dX3_areOne_27 : decode cX3_areOne 27 = .ok (.iconst (-1), 1) := by decide +kernel
theorem dX3_areOne_28 : decode cX3_areOne 28 = .ok (.ixor, 1) := by decide +kernel
theorem dX3_areOne_29 : decode cX3_areOne 29 = .ok (.iand, 1) := by decide +kernel
theorem dX3_areOne_30 : decode cX3_areOne 30 = .ok (.ifCond .eq 5, 3) := by decide +kernel
theorem dX3_areOne_33 : decode cX3_areOne 33 = .ok (.iconst 0, 1) := by decide +kernel
theorem dX3_areOne_34 : decode cX3_areOne 34 = .ok (.ireturn, 1) := by decide +kernel
theorem dX3_areOne_35 : decode cX3_areOne 35 = .ok (.iload_n 2, 1) := by decide +kernel
theorem dX3_areOne_36 : decode cX3_areOne 36 = .ok (.aload_n 0, 1) := by decide +kernel
theorem dX3_areOne_37 : decode cX3_areOne 37 = .ok (.getfield 9, 3) := by decide +kernel
theorem dX3_areOne_40 : decode cX3_areOne 40 = .ok (.getfield 111, 3) := by decide +kernel
theorem dX3_areOne_43 : decode cX3_areOne 43 = .ok (.aload_n 0, 1) := by decide +kernel
theorem dX3_areOne_44 : decode cX3_areOne 44 = .ok (.getfield 29, 3) := by decide +kernel
theorem dX3_areOne_47 : decode cX3_areOne 47 = .ok (.iload_n 3, 1) := by decide +kernel
theorem dX3_areOne_48 : decode cX3_areOne 48 = .ok (.iaload, 1) := by decide +kernel
theorem dX3_areOne_49 : decode cX3_areOne 49 = .ok (.iaload, 1) := by decide +kernel
theorem dX3_areOne_50 : decode cX3_areOne 50 = .ok (.iand, 1) := by decide +kernel
theorem dX3_areOne_51 : decode cX3_areOne 51 = .ok (.istore_n 2, 1) := by decide +kernel
theorem dX3_areOne_52 : decode cX3_areOne 52 = .ok (.iinc 3 1, 3) := by decide +kernel
theorem dX3_areOne_55 : decode cX3_areOne 55 = .ok (.goto (-51), 3) := by decide +kernel
theorem dX3_areOne_58 : decode cX3_areOne 58 = .ok (.iload_n 2, 1) := by decide +kernel
theorem dX3_areOne_59 : decode cX3_areOne 59 = .ok (.ifCond .ne 13, 3) := by decide +kernel
theorem dX3_areOne_62 : decode cX3_areOne 62 = .ok (.aload_n 0, 1) := by decide +kernel
theorem dX3_areOne_63 : decode cX3_areOne 63 = .ok (.getfield 18, 3) := by decide +kernel
theorem dX3_areOne_66 : decode cX3_areOne 66 = .ok (.invokevirtual 114, 3) := by decide +kernel
theorem dX3_areOne_69 : decode cX3_areOne 69 = .ok (.ifCond .ne 7, 3) := by decide +kernel
theorem dX3_areOne_72 : decode cX3_areOne 72 = .ok (.iconst 1, 1) := by decide +kernel
theorem dX3_areOne_73 : decode cX3_areOne 73 = .ok (.goto 4, 3) := by decide +kernel
theorem dX3_areOne_76 : decode cX3_areOne 76 = .ok (.iconst 0, 1) := by decide +kernel
theorem dX3_areOne_77 : decode cX3_areOne 77 = .ok (.ireturn, 1) := by decide +kernel
theorem dX3_listHappenings_0 : decode cX3_listHappenings 0 = .ok (.aload_n 0, 1) := by decide +kernel
theorem dX3_listHappenings_1 : decode cX3_listHappenings 1 = .ok (.iconst 0, 1) := by decide +kernel
theorem dX3_listHappenings_2 : decode cX3_listHappenings 2 = .ok (.putfield 117, 3) := by decide +kernel
theorem dX3_listHappenings_5 : decode cX3_listHappenings 5 = .ok (.iconst 0, 1) := by decide +kernel
theorem dX3_listHappenings_6 : decode cX3_listHappenings 6 = .ok (.istore_n 1, 1) := by decide +kernel
theorem dX3_listHappenings_7 : decode cX3_listHappenings 7 = .ok (.iload_n 1, 1) := by decide +kernel
theorem dX3_listHappenings_8 : decode cX3_listHappenings 8 = .ok (.aload_n 0, 1) := by decide +kernel
theorem dX3_listHappenings_9 : decode cX3_listHappenings 9 = .ok (.getfield 93, 3) := by decide +kernel
theorem dX3_listHappenings_12 : decode cX3_listHappenings 12 = .ok (.if_icmp .ge 42, 3) := by decide +kernel
theorem dX3_listHappenings_15 : decode cX3_listHappenings 15 = .ok (.aload_n 0, 1) := by decide +kernel
theorem dX3_listHappenings_16 : decode cX3_listHappenings 16 = .ok (.getfield 39, 3) := by decide +kernel
theorem dX3_listHappenings_19 : decode cX3_listHappenings 19 = .ok (.iload_n 1, 1) := by decide +kernel
theorem dX3_listHappenings_20 : decode cX3_listHappenings 20 = .ok (.aload_n 0, 1) := by decide +kernel
theorem dX3_listHappenings_21 : decode cX3_listHappenings 21 = .ok (.getfield 117, 3) := by decide +kernel
theorem dX3_listHappenings_24 : decode cX3_listHappenings 24 = .ok (.iastore, 1) := by decide +kernel
theorem dX3_listHappenings_25 : decode cX3_listHappenings 25 = .ok (.aload_n 0, 1) := by decide +kernel
theorem dX3_listHappenings_26 : decode cX3_listHappenings 26 = .ok (.getfield 18, 3) := by decide +kernel
theorem dX3_listHappenings_29 : decode cX3_listHappenings 29 = .ok (.invokevirtual 42, 3) := by decide +kernel
theorem dX3_listHappenings_32 : decode cX3_listHappenings 32 = .ok (.ifCond .eq 11, 3) := by decide +kernel
theorem dX3_listHappenings_35 : decode cX3_listHappenings 35 = .ok (.aload_n 0, 1) := by decide +kernel
theorem dX3_listHappenings_36 : decode cX3_listHappenings 36 = .ok (.iload_n 1, 1) := by decide +kernel
theorem dX3_listHappenings_37 : decode cX3_listHappenings 37 = .ok (.invokevirtual 120, 3) := by decide +kernel
theorem dX3_listHappenings_40 : decode cX3_listHappenings 40 = .ok (.goto 8, 3) := by decide +kernel
theorem dX3_listHappenings_43 : decode cX3_listHappenings 43 = .ok (.aload_n 0, 1) := by decide +kernel
theorem dX3_listHappenings_44 : decode cX3_listHappenings 44 = .ok (.iload_n 1, 1) := by decide +kernel
theorem dX3_listHappenings_45 : decode cX3_listHappenings 45 = .ok (.invokevirtual 124, 3) := by decide +kernel
theorem dX3_listHappenings_48 : decode cX3_listHappenings 48 = .ok (.iinc 1 1, 3) := by decide +kernel
theorem dX3_listHappenings_51 : decode cX3_listHappenings 51 = .ok (.goto (-44), 3) := by decide +kernel
theorem dX3_listHappenings_54 : decode cX3_listHappenings 54 = .ok (.aload_n 0, 1) := by decide +kernel
theorem dX3_listHappenings_55 : decode cX3_listHappenings 55 = .ok (.getfield 39, 3) := by decide +kernel
theorem dX3_listHappenings_58 : decode cX3_listHappenings 58 = .ok (.aload_n 0, 1) := by decide +kernel
theorem dX3_listHappenings_59 : decode cX3_listHappenings 59 = .ok (.getfield 93, 3) := by decide +kernel
theorem dX3_listHappenings_62 : decode cX3_listHappenings 62 = .ok (.aload_n 0, 1) := by decide +kernel
theorem dX3_listHappenings_63 : decode cX3_listHappenings 63 = .ok (.getfield 117, 3) := by decide +kernel
theorem dX3_listHappenings_66 : decode cX3_listHappenings 66 = .ok (.iastore, 1) := by decide +kernel
theorem dX3_listHappenings_67 : decode cX3_listHappenings 67 = .ok (.return_, 1) := by decide +kernel
theorem dX3_listSetsFrom_0 : decode cX3_listSetsFrom 0 = .ok (.iconst 1, 1) := by decide +kernel
theorem dX3_listSetsFrom_1 : decode cX3_listSetsFrom 1 = .ok (.aload_n 0, 1) := by decide +kernel
theorem dX3_listSetsFrom_2 : decode cX3_listSetsFrom 2 = .ok (.getfield 93, 3) := by decide +kernel
theorem dX3_listSetsFrom_5 : decode cX3_listSetsFrom 5 = .ok (.iconst 1, 1) := by decide +kernel
theorem dX3_listSetsFrom_6 : decode cX3_listSetsFrom 6 = .ok (.isub, 1) := by decide +kernel
theorem dX3_listSetsFrom_7 : decode cX3_listSetsFrom 7 = .ok (.iload_n 1, 1) := by decide +kernel
theorem dX3_listSetsFrom_8 : decode cX3_listSetsFrom 8 = .ok (.isub, 1) := by decide +kernel
theorem dX3_listSetsFrom_9 : decode cX3_listSetsFrom 9 = .ok (.ishl, 1) := by decide +kernel
theorem dX3_listSetsFrom_10 : decode cX3_listSetsFrom 10 = .ok (.istore_n 2, 1) := by decide +kernel
theorem dX3_listSetsFrom_11 : decode cX3_listSetsFrom 11 = .ok (.iconst 0, 1) := by decide +kernel
theorem dX3_listSetsFrom_12 : decode cX3_listSetsFrom 12 = .ok (.istore_n 3, 1) := by decide +kernel
theorem dX3_listSetsFrom_13 : decode cX3_listSetsFrom 13 = .ok (.iload_n 3, 1) := by decide +kernel
theorem dX3_listSetsFrom_14 : decode cX3_listSetsFrom 14 = .ok (.iload_n 2, 1) := by decide +kernel
theorem dX3_listSetsFrom_15 : decode cX3_listSetsFrom 15 = .ok (.if_icmp .ge 33, 3) := by decide +kernel
theorem dX3_listSetsFrom_18 : decode cX3_listSetsFrom 18 = .ok (.iconst 2, 1) := by decide +kernel
theorem dX3_listSetsFrom_19 : decode cX3_listSetsFrom 19 = .ok (.iload_n 3, 1) := by decide +kernel
theorem dX3_listSetsFrom_20 : decode cX3_listSetsFrom 20 = .ok (.imul, 1) := by decide +kernel
theorem dX3_listSetsFrom_21 : decode cX3_listSetsFrom 21 = .ok (.iconst 1, 1) := by decide +kernel
theorem dX3_listSetsFrom_22 : decode cX3_listSetsFrom 22 = .ok (.iadd, 1) := by decide +kernel
theorem dX3_listSetsFrom_23 : decode cX3_listSetsFrom 23 = .ok (.iload_n 1, 1) := by decide +kernel
theorem dX3_listSetsFrom_24 : decode cX3_listSetsFrom 24 = .ok (.ishl, 1) := by decide +kernel
theorem dX3_listSetsFrom_25 : decode cX3_listSetsFrom 25 = .ok (.istore 4, 2) := by decide +kernel
theorem dX3_listSetsFrom_27 : decode cX3_listSetsFrom 27 = .ok (.aload_n 0, 1) := by decide +kernel
theorem dX3_listSetsFrom_28 : decode cX3_listSetsFrom 28 = .ok (.iload 4, 2) := by decide +kernel
theorem dX3_listSetsFrom_30 : decode cX3_listSetsFrom 30 = .ok (.invokevirtual 127, 3) := by decide +kernel
theorem dX3_listSetsFrom_33 : decode cX3_listSetsFrom 33 = .ok (.ifCond .eq 9, 3) := by decide +kernel
theorem dX3_listSetsFrom_36 : decode cX3_listSetsFrom 36 = .ok (.aload_n 0, 1) := by decide +kernel
theorem dX3_listSetsFrom_37 : decode cX3_listSetsFrom 37 = .ok (.iload 4, 2) := by decide +kernel
theorem dX3_listSetsFrom_39 : decode cX3_listSetsFrom 39 = .ok (.invokevirtual 130, 3) := by decide +kernel
theorem dX3_listSetsFrom_42 : decode cX3_listSetsFrom 42 = .ok (.iinc 3 1, 3) := by decide +kernel
theorem dX3_listSetsFrom_45 : decode cX3_listSetsFrom 45 = .ok (.goto (-32), 3) := by decide +kernel
theorem dX3_listSetsFrom_48 : decode cX3_listSetsFrom 48 = .ok (.return_, 1) := by decide +kernel
theorem dX3_listRunsFrom_0 : decode cX3_listRunsFrom 0 = .ok (.iconst 0, 1) := by decide +kernel
theorem dX3_listRunsFrom_1 : decode cX3_listRunsFrom 1 = .ok (.istore_n 2, 1) := by decide +kernel
theorem dX3_listRunsFrom_2 : decode cX3_listRunsFrom 2 = .ok (.iload_n 1, 1) := by decide +kernel
theorem dX3_listRunsFrom_3 : decode cX3_listRunsFrom 3 = .ok (.istore_n 3, 1) := by decide +kernel
theorem dX3_listRunsFrom_4 : decode cX3_listRunsFrom 4 = .ok (.iload_n 3, 1) := by decide +kernel
theorem dX3_listRunsFrom_5 : decode cX3_listRunsFrom 5 = .ok (.aload_n 0, 1) := by decide +kernel
theorem dX3_listRunsFrom_6 : decode cX3_listRunsFrom 6 = .ok (.getfield 93, 3) := by decide +kernel
theorem dX3_listRunsFrom_9 : decode cX3_listRunsFrom 9 = .ok (.if_icmp .ge 94, 3) := by decide +kernel
theorem dX3_listRunsFrom_12 : decode cX3_listRunsFrom 12 = .ok (.iload_n 2, 1) := by decide +kernel
theorem dX3_listRunsFrom_13 : decode cX3_listRunsFrom 13 = .ok (.iconst 1, 1) := by decide +kernel
theorem dX3_listRunsFrom_14 : decode cX3_listRunsFrom 14 = .ok (.iload_n 3, 1) := by decide +kernel
theorem dX3_listRunsFrom_15 : decode cX3_listRunsFrom 15 = .ok (.ishl, 1) := by decide +kernel
theorem dX3_listRunsFrom_16 : decode cX3_listRunsFrom 16 = .ok (.ior, 1) := by decide +kernel
theorem dX3_listRunsFrom_17 : decode cX3_listRunsFrom 17 = .ok (.istore_n 2, 1) := by decide +kernel
theorem dX3_listRunsFrom_18 : decode cX3_listRunsFrom 18 = .ok (.aload_n 0, 1) := by decide +kernel
theorem dX3_listRunsFrom_19 : decode cX3_listRunsFrom 19 = .ok (.iload_n 2, 1) := by decide +kernel
theorem dX3_listRunsFrom_20 : decode cX3_listRunsFrom 20 = .ok (.invokevirtual 127, 3) := by decide +kernel
theorem dX3_listRunsFrom_23 : decode cX3_listRunsFrom 23 = .ok (.ifCond .ne 4, 3) := by decide +kernel
theorem dX3_listRunsFrom_26 : decode cX3_listRunsFrom 26 = .ok (.return_, 1) := by decide +kernel
theorem dX3_listRunsFrom_27 : decode cX3_listRunsFrom 27 = .ok (.iload_n 3, 1) := by decide +kernel
theorem dX3_listRunsFrom_28 : decode cX3_listRunsFrom 28 = .ok (.iconst 1, 1) := by decide +kernel
theorem dX3_listRunsFrom_29 : decode cX3_listRunsFrom 29 = .ok (.iadd, 1) := by decide +kernel
theorem dX3_listRunsFrom_30 : decode cX3_listRunsFrom 30 = .ok (.aload_n 0, 1) := by decide +kernel
theorem dX3_listRunsFrom_31 : decode cX3_listRunsFrom 31 = .ok (.getfield 93, 3) := by decide +kernel
theorem dX3_listRunsFrom_34 : decode cX3_listRunsFrom 34 = .ok (.if_icmp .ne 7, 3) := by decide +kernel
theorem dX3_listRunsFrom_37 : decode cX3_listRunsFrom 37 = .ok (.iconst 1, 1) := by decide +kernel
theorem dX3_listRunsFrom_38 : decode cX3_listRunsFrom 38 = .ok (.goto 4, 3) := by decide +kernel
theorem dX3_listRunsFrom_41 : decode cX3_listRunsFrom 41 = .ok (.iconst 0, 1) := by decide +kernel
theorem dX3_listRunsFrom_42 : decode cX3_listRunsFrom 42 = .ok (.istore 4, 2) := by decide +kernel
theorem dX3_listRunsFrom_44 : decode cX3_listRunsFrom 44 = .ok (.iload 4, 2) := by decide +kernel
theorem dX3_listRunsFrom_46 : decode cX3_listRunsFrom 46 = .ok (.ifCond .ne 46, 3) := by decide +kernel
theorem dX3_listRunsFrom_49 : decode cX3_listRunsFrom 49 = .ok (.aload_n 0, 1) := by decide +kernel
theorem dX3_listRunsFrom_50 : decode cX3_listRunsFrom 50 = .ok (.getfield 9, 3) := by decide +kernel
theorem dX3_listRunsFrom_53 : decode cX3_listRunsFrom 53 = .ok (.getfield 133, 3) := by decide +kernel
theorem dX3_listRunsFrom_56 : decode cX3_listRunsFrom 56 = .ok (.aload_n 0, 1) := by decide +kernel
theorem dX3_listRunsFrom_57 : decode cX3_listRunsFrom 57 = .ok (.getfield 29, 3) := by decide +kernel
theorem dX3_listRunsFrom_60 : decode cX3_listRunsFrom 60 = .ok (.iload_n 3, 1) := by decide +kernel
theorem dX3_listRunsFrom_61 : decode cX3_listRunsFrom 61 = .ok (.iaload, 1) := by decide +kernel
theorem dX3_listRunsFrom_62 : decode cX3_listRunsFrom 62 = .ok (.iaload, 1) := by decide +kernel
theorem dX3_listRunsFrom_63 : decode cX3_listRunsFrom 63 = .ok (.aload_n 0, 1) := by decide +kernel
theorem dX3_listRunsFrom_64 : decode cX3_listRunsFrom 64 = .ok (.getfield 18, 3) := by decide +kernel
theorem dX3_listRunsFrom_67 : decode cX3_listRunsFrom 67 = .ok (.getfield 136, 3) := by decide +kernel
theorem dX3_listRunsFrom_70 : decode cX3_listRunsFrom 70 = .ok (.iconst 4, 1) := by decide +kernel
theorem dX3_listRunsFrom_71 : decode cX3_listRunsFrom 71 = .ok (.iaload, 1) := by decide +kernel
theorem dX3_listRunsFrom_72 : decode cX3_listRunsFrom 72 = .ok (.iadd, 1) := by decide +kernel
theorem dX3_listRunsFrom_73 : decode cX3_listRunsFrom 73 = .ok (.aload_n 0, 1) := by decide +kernel
theorem dX3_listRunsFrom_74 : decode cX3_listRunsFrom 74 = .ok (.getfield 9, 3) := by decide +kernel
theorem dX3_listRunsFrom_77 : decode cX3_listRunsFrom 77 = .ok (.getfield 133, 3) := by decide +kernel
theorem dX3_listRunsFrom_80 : decode cX3_listRunsFrom 80 = .ok (.aload_n 0, 1) := by decide +kernel
theorem dX3_listRunsFrom_81 : decode cX3_listRunsFrom 81 = .ok (.getfield 29, 3) := by decide +kernel
theorem dX3_listRunsFrom_84 : decode cX3_listRunsFrom 84 = .ok (.iload_n 3, 1) := by decide +kernel
theorem dX3_listRunsFrom_85 : decode cX3_listRunsFrom 85 = .ok (.iconst 1, 1) := by decide +kernel
theorem dX3_listRunsFrom_86 : decode cX3_listRunsFrom 86 = .ok (.iadd, 1) := by decide +kernel
theorem dX3_listRunsFrom_87 : decode cX3_listRunsFrom 87 = .ok (.iaload, 1) := by decide +kernel
theorem dX3_listRunsFrom_88 : decode cX3_listRunsFrom 88 = .ok (.iaload, 1) := by decide +kernel
theorem dX3_listRunsFrom_89 : decode cX3_listRunsFrom 89 = .ok (.if_icmp .ge 8, 3) := by decide +kernel
theorem dX3_listRunsFrom_92 : decode cX3_listRunsFrom 92 = .ok (.aload_n 0, 1) := by decide +kernel
theorem dX3_listRunsFrom_93 : decode cX3_listRunsFrom 93 = .ok (.iload_n 2, 1) := by decide +kernel
theorem dX3_listRunsFrom_94 : decode cX3_listRunsFrom 94 = .ok (.invokevirtual 130, 3) := by decide +kernel
theorem dX3_listRunsFrom_97 : decode cX3_listRunsFrom 97 = .ok (.iinc 3 1, 3) := by decide +kernel
theorem dX3_listRunsFrom_100 : decode cX3_listRunsFrom 100 = .ok (.goto (-96), 3) := by decide +kernel
theorem dX3_listRunsFrom_103 : decode cX3_listRunsFrom 103 = .ok (.return_, 1) := by decide +kernel
theorem dX3_list_0 : decode cX3_list 0 = .ok (.aload_n 0, 1) := by decide +kernel
theorem dX3_list_1 : decode cX3_list 1 = .ok (.getfield 117, 3) := by decide +kernel
theorem dX3_list_4 : decode cX3_list 4 = .ok (.sipush 256, 3) := by decide +kernel
theorem dX3_list_7 : decode cX3_list 7 = .ok (.if_icmp .lt 4, 3) := by decide +kernel
theorem dX3_list_10 : decode cX3_list 10 = .ok (.return_, 1) := by decide +kernel
theorem dX3_list_11 : decode cX3_list 11 = .ok (.iconst 0, 1) := by decide +kernel
theorem dX3_list_12 : decode cX3_list 12 = .ok (.istore_n 2, 1) := by decide +kernel
theorem dX3_list_13 : decode cX3_list 13 = .ok (.iconst 0, 1) := by decide +kernel
theorem dX3_list_14 : decode cX3_list 14 = .ok (.istore_n 3, 1) := by decide +kernel
theorem dX3_list_15 : decode cX3_list 15 = .ok (.iload_n 3, 1) := by decide +kernel
theorem dX3_list_16 : decode cX3_list 16 = .ok (.aload_n 0, 1) := by decide +kernel
theorem dX3_list_17 : decode cX3_list 17 = .ok (.getfield 93, 3) := by decide +kernel
theorem dX3_list_20 : decode cX3_list 20 = .ok (.if_icmp .ge 34, 3) := by decide +kernel
theorem dX3_list_23 : decode cX3_list 23 = .ok (.iload_n 1, 1) := by decide +kernel
theorem dX3_list_24 : decode cX3_list 24 = .ok (.iconst 1, 1) := by decide +kernel
theorem dX3_list_25 : decode cX3_list 25 = .ok (.iload_n 3, 1) := by decide +kernel
theorem dX3_list_26 : decode cX3_list 26 = .ok (.ishl, 1) := by decide +kernel
theorem dX3_list_27 : decode cX3_list 27 = .ok (.iand, 1) := by decide +kernel
theorem dX3_list_28 : decode cX3_list 28 = .ok (.ifCond .eq 20, 3) := by decide +kernel
theorem dX3_list_31 : decode cX3_list 31 = .ok (.iload_n 2, 1) := by decide +kernel
theorem dX3_list_32 : decode cX3_list 32 = .ok (.aload_n 0, 1) := by decide +kernel
theorem dX3_list_33 : decode cX3_list 33 = .ok (.getfield 9, 3) := by decide +kernel
theorem dX3_list_36 : decode cX3_list 36 = .ok (.getfield 139, 3) := by decide +kernel
theorem dX3_list_39 : decode cX3_list 39 = .ok (.aload_n 0, 1) := by decide +kernel
theorem dX3_list_40 : decode cX3_list 40 = .ok (.getfield 29, 3) := by decide +kernel
theorem dX3_list_43 : decode cX3_list 43 = .ok (.iload_n 3, 1) := by decide +kernel
theorem dX3_list_44 : decode cX3_list 44 = .ok (.iaload, 1) := by decide +kernel
theorem dX3_list_45 : decode cX3_list 45 = .ok (.iaload, 1) := by decide +kernel
theorem dX3_list_46 : decode cX3_list 46 = .ok (.iadd, 1) := by decide +kernel
theorem dX3_list_47 : decode cX3_list 47 = .ok (.istore_n 2, 1) := by decide +kernel
theorem dX3_list_48 : decode cX3_list 48 = .ok (.iinc 3 1, 3) := by decide +kernel
theorem dX3_list_51 : decode cX3_list 51 = .ok (.goto (-36), 3) := by decide +kernel
theorem dX3_list_54 : decode cX3_list 54 = .ok (.aload_n 0, 1) := by decide +kernel
theorem dX3_list_55 : decode cX3_list 55 = .ok (.getfield 36, 3) := by decide +kernel
theorem dX3_list_58 : decode cX3_list 58 = .ok (.aload_n 0, 1) := by decide +kernel
theorem dX3_list_59 : decode cX3_list 59 = .ok (.getfield 117, 3) := by decide +kernel
theorem dX3_list_62 : decode cX3_list 62 = .ok (.iload_n 1, 1) := by decide +kernel
theorem dX3_list_63 : decode cX3_list 63 = .ok (.iastore, 1) := by decide +kernel
theorem dX3_list_64 : decode cX3_list 64 = .ok (.aload_n 0, 1) := by decide +kernel
theorem dX3_list_65 : decode cX3_list 65 = .ok (.getfield 25, 3) := by decide +kernel
theorem dX3_list_68 : decode cX3_list 68 = .ok (.aload_n 0, 1) := by decide +kernel
theorem dX3_list_69 : decode cX3_list 69 = .ok (.getfield 117, 3) := by decide +kernel
theorem dX3_list_72 : decode cX3_list 72 = .ok (.iload_n 2, 1) := by decide +kernel
theorem dX3_list_73 : decode cX3_list 73 = .ok (.invokevirtual 142, 3) := by decide +kernel
theorem dX3_list_76 : decode cX3_list 76 = .ok (.aload_n 0, 1) := by decide +kernel
theorem dX3_list_77 : decode cX3_list 77 = .ok (.dup, 1) := by decide +kernel
theorem dX3_list_78 : decode cX3_list 78 = .ok (.getfield 117, 3) := by decide +kernel
theorem dX3_list_81 : decode cX3_list 81 = .ok (.iconst 1, 1) := by decide +kernel
theorem dX3_list_82 : decode cX3_list 82 = .ok (.iadd, 1) := by decide +kernel
theorem dX3_list_83 : decode cX3_list 83 = .ok (.putfield 117, 3) := by decide +kernel
theorem dX3_list_86 : decode cX3_list 86 = .ok (.return_, 1) := by decide +kernel
theorem dX3_part_0 : decode cX3_part 0 = .ok (.iload_n 1, 1) := by decide +kernel
theorem dX3_part_1 : decode cX3_part 1 = .ok (.ifCond .ne 10, 3) := by decide +kernel
theorem dX3_part_4 : decode cX3_part 4 = .ok (.aload_n 0, 1) := by decide +kernel
theorem dX3_part_5 : decode cX3_part 5 = .ok (.iload_n 3, 1) := by decide +kernel
theorem dX3_part_6 : decode cX3_part 6 = .ok (.iload_n 2, 1) := by decide +kernel
theorem dX3_part_7 : decode cX3_part 7 = .ok (.invokevirtual 146, 3) := by decide +kernel
theorem dX3_part_10 : decode cX3_part 10 = .ok (.return_, 1) := by decide +kernel
theorem dX3_part_11 : decode cX3_part 11 = .ok (.iload_n 1, 1) := by decide +kernel
theorem dX3_part_12 : decode cX3_part 12 = .ok (.invokestatic 149, 3) := by decide +kernel
theorem dX3_part_15 : decode cX3_part 15 = .ok (.istore 4, 2) := by decide +kernel
theorem dX3_part_17 : decode cX3_part 17 = .ok (.iload_n 2, 1) := by decide +kernel
theorem dX3_part_18 : decode cX3_part 18 = .ok (.bipush 12, 2) := by decide +kernel
theorem dX3_part_20 : decode cX3_part 20 = .ok (.if_icmp .ge 12, 3) := by decide +kernel
theorem dX3_part_23 : decode cX3_part 23 = .ok (.iload 4, 2) := by decide +kernel
theorem dX3_part_25 : decode cX3_part 25 = .ok (.aload_n 0, 1) := by decide +kernel
theorem dX3_part_26 : decode cX3_part 26 = .ok (.getfield 93, 3) := by decide +kernel
theorem dX3_part_29 : decode cX3_part 29 = .ok (.if_icmp .lt 4, 3) := by decide +kernel
theorem dX3_part_32 : decode cX3_part 32 = .ok (.return_, 1) := by decide +kernel
theorem dX3_part_33 : decode cX3_part 33 = .ok (.aload_n 0, 1) := by decide +kernel
theorem dX3_part_34 : decode cX3_part 34 = .ok (.getfield 39, 3) := by decide +kernel
theorem dX3_part_37 : decode cX3_part 37 = .ok (.iload 4, 2) := by decide +kernel
theorem dX3_part_39 : decode cX3_part 39 = .ok (.iconst 1, 1) := by decide +kernel
theorem dX3_part_40 : decode cX3_part 40 = .ok (.iadd, 1) := by decide +kernel
theorem dX3_part_41 : decode cX3_part 41 = .ok (.iaload, 1) := by decide +kernel
theorem dX3_part_42 : decode cX3_part 42 = .ok (.istore 5, 2) := by decide +kernel
theorem dX3_part_44 : decode cX3_part 44 = .ok (.aload_n 0, 1) := by decide +kernel
theorem dX3_part_45 : decode cX3_part 45 = .ok (.getfield 39, 3) := by decide +kernel
theorem dX3_part_48 : decode cX3_part 48 = .ok (.iload 4, 2) := by decide +kernel
theorem dX3_part_50 : decode cX3_part 50 = .ok (.iaload, 1) := by decide +kernel
theorem dX3_part_51 : decode cX3_part 51 = .ok (.istore 6, 2) := by decide +kernel
theorem dX3_part_53 : decode cX3_part 53 = .ok (.iload 6, 2) := by decide +kernel
theorem dX3_part_55 : decode cX3_part 55 = .ok (.iload 5, 2) := by decide +kernel
theorem dX3_part_57 : decode cX3_part 57 = .ok (.if_icmp .ge 50, 3) := by decide +kernel
theorem dX3_part_60 : decode cX3_part 60 = .ok (.aload_n 0, 1) := by decide +kernel
theorem dX3_part_61 : decode cX3_part 61 = .ok (.getfield 36, 3) := by decide +kernel
theorem dX3_part_64 : decode cX3_part 64 = .ok (.iload 6, 2) := by decide +kernel
theorem dX3_part_66 : decode cX3_part 66 = .ok (.iaload, 1) := by decide +kernel
theorem dX3_part_67 : decode cX3_part 67 = .ok (.istore 7, 2) := by decide +kernel
theorem dX3_part_69 : decode cX3_part 69 = .ok (.iload 7, 2) := by decide +kernel
theorem dX3_part_71 : decode cX3_part 71 = .ok (.iload_n 1, 1) := by decide +kernel
theorem dX3_part_72 : decode cX3_part 72 = .ok (.iconst (-1), 1) := by decide +kernel
theorem dX3_part_73 : decode cX3_part 73 = .ok (.ixor, 1) := by decide +kernel
theorem dX3_part_74 : decode cX3_part 74 = .ok (.iand, 1) := by decide +kernel
theorem dX3_part_75 : decode cX3_part 75 = .ok (.ifCond .ne 26, 3) := by decide +kernel
theorem dX3_part_78 : decode cX3_part 78 = .ok (.aload_n 0, 1) := by decide +kernel
theorem dX3_part_79 : decode cX3_part 79 = .ok (.iload_n 1, 1) := by decide +kernel
theorem dX3_part_80 : decode cX3_part 80 = .ok (.iload 7, 2) := by decide +kernel
theorem dX3_part_82 : decode cX3_part 82 = .ok (.ixor, 1) := by decide +kernel
theorem dX3_part_83 : decode cX3_part 83 = .ok (.iload_n 2, 1) := by decide +kernel
theorem dX3_part_84 : decode cX3_part 84 = .ok (.iconst 1, 1) := by decide +kernel
theorem dX3_part_85 : decode cX3_part 85 = .ok (.iadd, 1) := by decide +kernel
theorem dX3_part_86 : decode cX3_part 86 = .ok (.iload_n 3, 1) := by decide +kernel
theorem dX3_part_87 : decode cX3_part 87 = .ok (.aload_n 0, 1) := by decide +kernel
theorem dX3_part_88 : decode cX3_part 88 = .ok (.getfield 25, 3) := by decide +kernel
theorem dX3_part_91 : decode cX3_part 91 = .ok (.iload 6, 2) := by decide +kernel
theorem dX3_part_93 : decode cX3_part 93 = .ok (.iload_n 2, 1) := by decide +kernel
theorem dX3_part_94 : decode cX3_part 94 = .ok (.invokevirtual 152, 3) := by decide +kernel
theorem dX3_part_97 : decode cX3_part 97 = .ok (.iadd, 1) := by decide +kernel
theorem dX3_part_98 : decode cX3_part 98 = .ok (.invokevirtual 103, 3) := by decide +kernel
theorem dX3_part_101 : decode cX3_part 101 = .ok (.iinc 6 1, 3) := by decide +kernel
theorem dX3_part_104 : decode cX3_part 104 = .ok (.goto (-51), 3) := by decide +kernel
theorem dX3_part_107 : decode cX3_part 107 = .ok (.return_, 1) := by decide +kernel
theorem dX3_note_0 : decode cX3_note 0 = .ok (.aload_n 0, 1) := by decide +kernel
theorem dX3_note_1 : decode cX3_note 1 = .ok (.getfield 76, 3) := by decide +kernel
theorem dX3_note_4 : decode cX3_note 4 = .ok (.ifCond .eq 27, 3) := by decide +kernel
theorem dX3_note_7 : decode cX3_note 7 = .ok (.iload_n 1, 1) := by decide +kernel
theorem dX3_note_8 : decode cX3_note 8 = .ok (.aload_n 0, 1) := by decide +kernel
theorem dX3_note_9 : decode cX3_note 9 = .ok (.getfield 156, 3) := by decide +kernel
theorem dX3_note_12 : decode cX3_note 12 = .ok (.if_icmp .gt 19, 3) := by decide +kernel
theorem dX3_note_15 : decode cX3_note 15 = .ok (.iload_n 1, 1) := by decide +kernel
theorem dX3_note_16 : decode cX3_note 16 = .ok (.aload_n 0, 1) := by decide +kernel
theorem dX3_note_17 : decode cX3_note 17 = .ok (.getfield 156, 3) := by decide +kernel
theorem dX3_note_20 : decode cX3_note 20 = .ok (.if_icmp .ne 21, 3) := by decide +kernel
theorem dX3_note_23 : decode cX3_note 23 = .ok (.iload_n 2, 1) := by decide +kernel
theorem dX3_note_24 : decode cX3_note 24 = .ok (.aload_n 0, 1) := by decide +kernel
theorem dX3_note_25 : decode cX3_note 25 = .ok (.getfield 159, 3) := by decide +kernel
theorem dX3_note_28 : decode cX3_note 28 = .ok (.if_icmp .ge 13, 3) := by decide +kernel
theorem dX3_note_31 : decode cX3_note 31 = .ok (.aload_n 0, 1) := by decide +kernel
theorem dX3_note_32 : decode cX3_note 32 = .ok (.iload_n 1, 1) := by decide +kernel
theorem dX3_note_33 : decode cX3_note 33 = .ok (.putfield 156, 3) := by decide +kernel
theorem dX3_note_36 : decode cX3_note 36 = .ok (.aload_n 0, 1) := by decide +kernel
theorem dX3_note_37 : decode cX3_note 37 = .ok (.iload_n 2, 1) := by decide +kernel
theorem dX3_note_38 : decode cX3_note 38 = .ok (.putfield 159, 3) := by decide +kernel
theorem dX3_note_41 : decode cX3_note 41 = .ok (.aload_n 0, 1) := by decide +kernel
theorem dX3_note_42 : decode cX3_note 42 = .ok (.getfield 76, 3) := by decide +kernel
theorem dX3_note_45 : decode cX3_note 45 = .ok (.ifCond .eq 27, 3) := by decide +kernel
theorem dX3_note_48 : decode cX3_note 48 = .ok (.iload_n 1, 1) := by decide +kernel
theorem dX3_note_49 : decode cX3_note 49 = .ok (.aload_n 0, 1) := by decide +kernel
theorem dX3_note_50 : decode cX3_note 50 = .ok (.getfield 162, 3) := by decide +kernel
theorem dX3_note_53 : decode cX3_note 53 = .ok (.if_icmp .lt 19, 3) := by decide +kernel
theorem dX3_note_56 : decode cX3_note 56 = .ok (.iload_n 1, 1) := by decide +kernel
theorem dX3_note_57 : decode cX3_note 57 = .ok (.aload_n 0, 1) := by decide +kernel
theorem dX3_note_58 : decode cX3_note 58 = .ok (.getfield 162, 3) := by decide +kernel
theorem dX3_note_61 : decode cX3_note 61 = .ok (.if_icmp .ne 21, 3) := by decide +kernel
theorem dX3_note_64 : decode cX3_note 64 = .ok (.iload_n 2, 1) := by decide +kernel
theorem dX3_note_65 : decode cX3_note 65 = .ok (.aload_n 0, 1) := by decide +kernel
theorem dX3_note_66 : decode cX3_note 66 = .ok (.getfield 165, 3) := by decide +kernel
theorem dX3_note_69 : decode cX3_note 69 = .ok (.if_icmp .ge 13, 3) := by decide +kernel
theorem dX3_note_72 : decode cX3_note 72 = .ok (.aload_n 0, 1) := by decide +kernel
theorem dX3_note_73 : decode cX3_note 73 = .ok (.iload_n 1, 1) := by decide +kernel
theorem dX3_note_74 : decode cX3_note 74 = .ok (.putfield 162, 3) := by decide +kernel
theorem dX3_note_77 : decode cX3_note 77 = .ok (.aload_n 0, 1) := by decide +kernel
theorem dX3_note_78 : decode cX3_note 78 = .ok (.iload_n 2, 1) := by decide +kernel
theorem dX3_note_79 : decode cX3_note 79 = .ok (.putfield 165, 3) := by decide +kernel
theorem dX3_note_82 : decode cX3_note 82 = .ok (.aload_n 0, 1) := by decide +kernel
theorem dX3_note_83 : decode cX3_note 83 = .ok (.iconst 1, 1) := by decide +kernel
theorem dX3_note_84 : decode cX3_note 84 = .ok (.putfield 76, 3) := by decide +kernel
theorem dX3_note_87 : decode cX3_note 87 = .ok (.return_, 1) := by decide +kernel
theorem dX4_init_0 : decode cX4_init 0 = .ok (.aload_n 0, 1) := by decide +kernel
theorem dX4_init_1 : decode cX4_init 1 = .ok (.invokespecial 3, 3) := by decide +kernel
theorem dX4_init_4 : decode cX4_init 4 = .ok (.aload_n 0, 1) := by decide +kernel
theorem dX4_init_5 : decode cX4_init 5 = .ok (.bipush 120, 2) := by decide +kernel
theorem dX4_init_7 : decode cX4_init 7 = .ok (.newarray .int, 2) := by decide +kernel
theorem dX4_init_9 : decode cX4_init 9 = .ok (.putfield 11, 3) := by decide +kernel
theorem dX4_init_12 : decode cX4_init 12 = .ok (.aload_n 0, 1) := by decide +kernel
theorem dX4_init_13 : decode cX4_init 13 = .ok (.iconst 0, 1) := by decide +kernel
theorem dX4_init_14 : decode cX4_init 14 = .ok (.putfield 15, 3) := by decide +kernel
theorem dX4_init_17 : decode cX4_init 17 = .ok (.return_, 1) := by decide +kernel
theorem dX4_bytesIn_0 : decode cX4_bytesIn 0 = .ok (.iconst 0, 1) := by decide +kernel
theorem dX4_bytesIn_1 : decode cX4_bytesIn 1 = .ok (.istore_n 1, 1) := by decide +kernel
theorem dX4_bytesIn_2 : decode cX4_bytesIn 2 = .ok (.bipush 24, 2) := by decide +kernel
theorem dX4_bytesIn_4 : decode cX4_bytesIn 4 = .ok (.istore_n 2, 1) := by decide +kernel
theorem dX4_bytesIn_5 : decode cX4_bytesIn 5 = .ok (.iload_n 2, 1) := by decide +kernel
theorem dX4_bytesIn_6 : decode cX4_bytesIn 6 = .ok (.ifCond .lt 22, 3) := by decide +kernel
theorem dX4_bytesIn_9 : decode cX4_bytesIn 9 = .ok (.iload_n 0, 1) := by decide +kernel
theorem dX4_bytesIn_10 : decode cX4_bytesIn 10 = .ok (.iload_n 2, 1) := by decide +kernel
theorem dX4_bytesIn_11 : decode cX4_bytesIn 11 = .ok (.iushr, 1) := by decide +kernel
theorem dX4_bytesIn_12 : decode cX4_bytesIn 12 = .ok (.sipush 255, 3) := by decide +kernel
theorem dX4_bytesIn_15 : decode cX4_bytesIn 15 = .ok (.iand, 1) := by decide +kernel
theorem dX4_bytesIn_16 : decode cX4_bytesIn 16 = .ok (.ifCond .eq 6, 3) := by decide +kernel
theorem dX4_bytesIn_19 : decode cX4_bytesIn 19 = .ok (.iinc 1 1, 3) := by decide +kernel
theorem dX4_bytesIn_22 : decode cX4_bytesIn 22 = .ok (.iinc 2 (-8), 3) := by decide +kernel
theorem dX4_bytesIn_25 : decode cX4_bytesIn 25 = .ok (.goto (-20), 3) := by decide +kernel
theorem dX4_bytesIn_28 : decode cX4_bytesIn 28 = .ok (.iload_n 1, 1) := by decide +kernel
theorem dX4_bytesIn_29 : decode cX4_bytesIn 29 = .ok (.ireturn, 1) := by decide +kernel
theorem dX4_append_0 : decode cX4_append 0 = .ok (.bipush 24, 2) := by decide +kernel
theorem dX4_append_2 : decode cX4_append 2 = .ok (.istore_n 2, 1) := by decide +kernel
theorem dX4_append_3 : decode cX4_append 3 = .ok (.iload_n 2, 1) := by decide +kernel
theorem dX4_append_4 : decode cX4_append 4 = .ok (.ifCond .lt 50, 3) := by decide +kernel
theorem dX4_append_7 : decode cX4_append 7 = .ok (.iload_n 1, 1) := by decide +kernel
theorem dX4_append_8 : decode cX4_append 8 = .ok (.iload_n 2, 1) := by decide +kernel
theorem dX4_append_9 : decode cX4_append 9 = .ok (.iushr, 1) := by decide +kernel
theorem dX4_append_10 : decode cX4_append 10 = .ok (.sipush 255, 3) := by decide +kernel
theorem dX4_append_13 : decode cX4_append 13 = .ok (.iand, 1) := by decide +kernel
theorem dX4_append_14 : decode cX4_append 14 = .ok (.istore_n 3, 1) := by decide +kernel
theorem dX4_append_15 : decode cX4_append 15 = .ok (.iload_n 3, 1) := by decide +kernel
theorem dX4_append_16 : decode cX4_append 16 = .ok (.ifCond .eq 32, 3) := by decide +kernel
theorem dX4_append_19 : decode cX4_append 19 = .ok (.aload_n 0, 1) := by decide +kernel
theorem dX4_append_20 : decode cX4_append 20 = .ok (.getfield 15, 3) := by decide +kernel
theorem dX4_append_23 : decode cX4_append 23 = .ok (.bipush 120, 2) := by decide +kernel
theorem dX4_append_25 : decode cX4_append 25 = .ok (.if_icmp .ge 23, 3) := by decide +kernel
theorem dX4_append_28 : decode cX4_append 28 = .ok (.aload_n 0, 1) := by decide +kernel
theorem dX4_append_29 : decode cX4_append 29 = .ok (.getfield 11, 3) := by decide +kernel
theorem dX4_append_32 : decode cX4_append 32 = .ok (.aload_n 0, 1) := by decide +kernel
theorem dX4_append_33 : decode cX4_append 33 = .ok (.getfield 15, 3) := by decide +kernel
theorem dX4_append_36 : decode cX4_append 36 = .ok (.iload_n 3, 1) := by decide +kernel
theorem dX4_append_37 : decode cX4_append 37 = .ok (.iastore, 1) := by decide +kernel
theorem dX4_append_38 : decode cX4_append 38 = .ok (.aload_n 0, 1) := by decide +kernel
theorem dX4_append_39 : decode cX4_append 39 = .ok (.dup, 1) := by decide +kernel
theorem dX4_append_40 : decode cX4_append 40 = .ok (.getfield 15, 3) := by decide +kernel
theorem dX4_append_43 : decode cX4_append 43 = .ok (.iconst 1, 1) := by decide +kernel
theorem dX4_append_44 : decode cX4_append 44 = .ok (.iadd, 1) := by decide +kernel
theorem dX4_append_45 : decode cX4_append 45 = .ok (.putfield 15, 3) := by decide +kernel
theorem dX4_append_48 : decode cX4_append 48 = .ok (.iinc 2 (-8), 3) := by decide +kernel
theorem dX4_append_51 : decode cX4_append 51 = .ok (.goto (-48), 3) := by decide +kernel
theorem dX4_append_54 : decode cX4_append 54 = .ok (.return_, 1) := by decide +kernel
theorem dX4_readInto_0 : decode cX4_readInto 0 = .ok (.aload_n 1, 1) := by decide +kernel
theorem dX4_readInto_1 : decode cX4_readInto 1 = .ok (.invokevirtual 19, 3) := by decide +kernel
theorem dX4_readInto_4 : decode cX4_readInto 4 = .ok (.iconst 0, 1) := by decide +kernel
theorem dX4_readInto_5 : decode cX4_readInto 5 = .ok (.istore_n 2, 1) := by decide +kernel
theorem dX4_readInto_6 : decode cX4_readInto 6 = .ok (.iconst 0, 1) := by decide +kernel
theorem dX4_readInto_7 : decode cX4_readInto 7 = .ok (.istore_n 3, 1) := by decide +kernel
theorem dX4_readInto_8 : decode cX4_readInto 8 = .ok (.iload_n 3, 1) := by decide +kernel
theorem dX4_readInto_9 : decode cX4_readInto 9 = .ok (.bipush 120, 2) := by decide +kernel
theorem dX4_readInto_11 : decode cX4_readInto 11 = .ok (.if_icmp .gt 174, 3) := by decide +kernel
theorem dX4_readInto_14 : decode cX4_readInto 14 = .ok (.aload_n 0, 1) := by decide +kernel
theorem dX4_readInto_15 : decode cX4_readInto 15 = .ok (.iload_n 2, 1) := by decide +kernel
theorem dX4_readInto_16 : decode cX4_readInto 16 = .ok (.invokevirtual 24, 3) := by decide +kernel
theorem dX4_readInto_19 : decode cX4_readInto 19 = .ok (.istore_n 2, 1) := by decide +kernel
theorem dX4_readInto_20 : decode cX4_readInto 20 = .ok (.iload_n 2, 1) := by decide +kernel
theorem dX4_readInto_21 : decode cX4_readInto 21 = .ok (.aload_n 0, 1) := by decide +kernel
theorem dX4_readInto_22 : decode cX4_readInto 22 = .ok (.getfield 15, 3) := by decide +kernel
theorem dX4_readInto_25 : decode cX4_readInto 25 = .ok (.if_icmp .ge 15, 3) := by decide +kernel
theorem dX4_readInto_28 : decode cX4_readInto 28 = .ok (.aload_n 0, 1) := by decide +kernel
theorem dX4_readInto_29 : decode cX4_readInto 29 = .ok (.getfield 11, 3) := by decide +kernel
theorem dX4_readInto_32 : decode cX4_readInto 32 = .ok (.iload_n 2, 1) := by decide +kernel
theorem dX4_readInto_33 : decode cX4_readInto 33 = .ok (.iaload, 1) := by decide +kernel
theorem dX4_readInto_34 : decode cX4_readInto 34 = .ok (.invokestatic 28, 3) := by decide +kernel
theorem dX4_readInto_37 : decode cX4_readInto 37 = .ok (.goto 4, 3) := by decide +kernel
theorem dX4_readInto_40 : decode cX4_readInto 40 = .ok (.iconst (-1), 1) := by decide +kernel
theorem dX4_readInto_41 : decode cX4_readInto 41 = .ok (.istore 4, 2) := by decide +kernel
theorem dX4_readInto_43 : decode cX4_readInto 43 = .ok (.iload 4, 2) := by decide +kernel
theorem dX4_readInto_45 : decode cX4_readInto 45 = .ok (.iconst (-1), 1) := by decide +kernel
theorem dX4_readInto_46 : decode cX4_readInto 46 = .ok (.if_icmp .eq 25, 3) := by decide +kernel
theorem dX4_readInto_49 : decode cX4_readInto 49 = .ok (.iload 4, 2) := by decide +kernel
theorem dX4_readInto_51 : decode cX4_readInto 51 = .ok (.ifCond .ne 7, 3) := by decide +kernel
theorem dX4_readInto_54 : decode cX4_readInto 54 = .ok (.iconst 1, 1) := by decide +kernel
theorem dX4_readInto_55 : decode cX4_readInto 55 = .ok (.goto 4, 3) := by decide +kernel
theorem dX4_readInto_58 : decode cX4_readInto 58 = .ok (.iconst 0, 1) := by decide +kernel
theorem dX4_readInto_59 : decode cX4_readInto 59 = .ok (.iload_n 3, 1) := by decide +kernel
theorem dX4_readInto_60 : decode cX4_readInto 60 = .ok (.ifCond .ne 7, 3) := by decide +kernel
theorem dX4_readInto_63 : decode cX4_readInto 63 = .ok (.iconst 1, 1) := by decide +kernel
theorem dX4_readInto_64 : decode cX4_readInto 64 = .ok (.goto 4, 3) := by decide +kernel
theorem dX4_readInto_67 : decode cX4_readInto 67 = .ok (.iconst 0, 1) := by decide +kernel
theorem dX4_readInto_68 : decode cX4_readInto 68 = .ok (.if_icmp .eq 5, 3) := by decide +kernel
theorem dX4_readInto_71 : decode cX4_readInto 71 = .ok (.iload_n 2, 1) := by decide +kernel
theorem dX4_readInto_72 : decode cX4_readInto 72 = .ok (.ireturn, 1) := by decide +kernel
theorem dX4_readInto_73 : decode cX4_readInto 73 = .ok (.aload_n 0, 1) := by decide +kernel
theorem dX4_readInto_74 : decode cX4_readInto 74 = .ok (.iload_n 2, 1) := by decide +kernel
theorem dX4_readInto_75 : decode cX4_readInto 75 = .ok (.iconst 1, 1) := by decide +kernel
theorem dX4_readInto_76 : decode cX4_readInto 76 = .ok (.iadd, 1) := by decide +kernel
theorem dX4_readInto_77 : decode cX4_readInto 77 = .ok (.invokevirtual 24, 3) := by decide +kernel
theorem dX4_readInto_80 : decode cX4_readInto 80 = .ok (.istore 5, 2) := by decide +kernel
theorem dX4_readInto_82 : decode cX4_readInto 82 = .ok (.iload 5, 2) := by decide +kernel
theorem dX4_readInto_84 : decode cX4_readInto 84 = .ok (.iload_n 2, 1) := by decide +kernel
theorem dX4_readInto_85 : decode cX4_readInto 85 = .ok (.iconst 1, 1) := by decide +kernel
theorem dX4_readInto_86 : decode cX4_readInto 86 = .ok (.iadd, 1) := by decide +kernel
theorem dX4_readInto_87 : decode cX4_readInto 87 = .ok (.if_icmp .eq 12, 3) := by decide +kernel
theorem dX4_readInto_90 : decode cX4_readInto 90 = .ok (.aload_n 0, 1) := by decide +kernel
theorem dX4_readInto_91 : decode cX4_readInto 91 = .ok (.iload 5, 2) := by decide +kernel
theorem dX4_readInto_93 : decode cX4_readInto 93 = .ok (.invokevirtual 31, 3) := by decide +kernel
theorem dX4_readInto_96 : decode cX4_readInto 96 = .ok (.ifCond .ne 6, 3) := by decide +kernel
theorem dX4_readInto_99 : decode cX4_readInto 99 = .ok (.iload 5, 2) := by decide +kernel
theorem dX4_readInto_101 : decode cX4_readInto 101 = .ok (.ireturn, 1) := by decide +kernel
theorem dX4_readInto_102 : decode cX4_readInto 102 = .ok (.aload_n 0, 1) := by decide +kernel
theorem dX4_readInto_103 : decode cX4_readInto 103 = .ok (.iload 5, 2) := by decide +kernel
theorem dX4_readInto_105 : decode cX4_readInto 105 = .ok (.iconst 1, 1) := by decide +kernel
theorem dX4_readInto_106 : decode cX4_readInto 106 = .ok (.iadd, 1) := by decide +kernel
theorem dX4_readInto_107 : decode cX4_readInto 107 = .ok (.invokevirtual 31, 3) := by decide +kernel
theorem dX4_readInto_110 : decode cX4_readInto 110 = .ok (.ifCond .eq 10, 3) := by decide +kernel
theorem dX4_readInto_113 : decode cX4_readInto 113 = .ok (.iload 5, 2) := by decide +kernel
theorem dX4_readInto_115 : decode cX4_readInto 115 = .ok (.iconst 1, 1) := by decide +kernel
theorem dX4_readInto_116 : decode cX4_readInto 116 = .ok (.iadd, 1) := by decide +kernel
theorem dX4_readInto_117 : decode cX4_readInto 117 = .ok (.goto 5, 3) := by decide +kernel
theorem dX4_readInto_120 : decode cX4_readInto 120 = .ok (.iload 5, 2) := by decide +kernel
theorem dX4_readInto_122 : decode cX4_readInto 122 = .ok (.istore 6, 2) := by decide +kernel
theorem dX4_readInto_124 : decode cX4_readInto 124 = .ok (.aload_n 1, 1) := by decide +kernel
theorem dX4_readInto_125 : decode cX4_readInto 125 = .ok (.iload 4, 2) := by decide +kernel
theorem dX4_readInto_127 : decode cX4_readInto 127 = .ok (.aload_n 0, 1) := by decide +kernel
theorem dX4_readInto_128 : decode cX4_readInto 128 = .ok (.iload 5, 2) := by decide +kernel
theorem dX4_readInto_130 : decode cX4_readInto 130 = .ok (.iload 6, 2) := by decide +kernel
theorem dX4_readInto_132 : decode cX4_readInto 132 = .ok (.invokevirtual 35, 3) := by decide +kernel
theorem dX4_readInto_135 : decode cX4_readInto 135 = .ok (.invokevirtual 39, 3) := by decide +kernel
theorem dX4_readInto_138 : decode cX4_readInto 138 = .ok (.ifCond .ne 6, 3) := by decide +kernel
theorem dX4_readInto_141 : decode cX4_readInto 141 = .ok (.iload 6, 2) := by decide +kernel
theorem dX4_readInto_143 : decode cX4_readInto 143 = .ok (.ireturn, 1) := by decide +kernel
theorem dX4_readInto_144 : decode cX4_readInto 144 = .ok (.aload_n 0, 1) := by decide +kernel
theorem dX4_readInto_145 : decode cX4_readInto 145 = .ok (.iload 6, 2) := by decide +kernel
theorem dX4_readInto_147 : decode cX4_readInto 147 = .ok (.iconst 1, 1) := by decide +kernel
theorem dX4_readInto_148 : decode cX4_readInto 148 = .ok (.iadd, 1) := by decide +kernel
theorem dX4_readInto_149 : decode cX4_readInto 149 = .ok (.invokevirtual 24, 3) := by decide +kernel
theorem dX4_readInto_152 : decode cX4_readInto 152 = .ok (.istore_n 2, 1) := by decide +kernel
theorem dX4_readInto_153 : decode cX4_readInto 153 = .ok (.iload_n 2, 1) := by decide +kernel
theorem dX4_readInto_154 : decode cX4_readInto 154 = .ok (.aload_n 0, 1) := by decide +kernel
theorem dX4_readInto_155 : decode cX4_readInto 155 = .ok (.getfield 15, 3) := by decide +kernel
theorem dX4_readInto_158 : decode cX4_readInto 158 = .ok (.if_icmp .lt 5, 3) := by decide +kernel
theorem dX4_readInto_161 : decode cX4_readInto 161 = .ok (.iconst (-1), 1) := by decide +kernel
theorem dX4_readInto_162 : decode cX4_readInto 162 = .ok (.ireturn, 1) := by decide +kernel
theorem dX4_readInto_163 : decode cX4_readInto 163 = .ok (.aload_n 0, 1) := by decide +kernel
theorem dX4_readInto_164 : decode cX4_readInto 164 = .ok (.getfield 11, 3) := by decide +kernel
theorem dX4_readInto_167 : decode cX4_readInto 167 = .ok (.iload_n 2, 1) := by decide +kernel
theorem dX4_readInto_168 : decode cX4_readInto 168 = .ok (.iaload, 1) := by decide +kernel
theorem dX4_readInto_169 : decode cX4_readInto 169 = .ok (.bipush 59, 2) := by decide +kernel
theorem dX4_readInto_171 : decode cX4_readInto 171 = .ok (.if_icmp .eq 5, 3) := by decide +kernel
theorem dX4_readInto_174 : decode cX4_readInto 174 = .ok (.iload_n 2, 1) := by decide +kernel
theorem dX4_readInto_175 : decode cX4_readInto 175 = .ok (.ireturn, 1) := by decide +kernel
theorem dX4_readInto_176 : decode cX4_readInto 176 = .ok (.iinc 2 1, 3) := by decide +kernel
theorem dX4_readInto_179 : decode cX4_readInto 179 = .ok (.iinc 3 1, 3) := by decide +kernel
theorem dX4_readInto_182 : decode cX4_readInto 182 = .ok (.goto (-174), 3) := by decide +kernel
theorem dX4_readInto_185 : decode cX4_readInto 185 = .ok (.iload_n 2, 1) := by decide +kernel
theorem dX4_readInto_186 : decode cX4_readInto 186 = .ok (.ireturn, 1) := by decide +kernel
theorem dX4_pastBlanks_0 : decode cX4_pastBlanks 0 = .ok (.iload_n 1, 1) := by decide +kernel
theorem dX4_pastBlanks_1 : decode cX4_pastBlanks 1 = .ok (.istore_n 2, 1) := by decide +kernel
theorem dX4_pastBlanks_2 : decode cX4_pastBlanks 2 = .ok (.iload_n 2, 1) := by decide +kernel
theorem dX4_pastBlanks_3 : decode cX4_pastBlanks 3 = .ok (.aload_n 0, 1) := by decide +kernel
theorem dX4_pastBlanks_4 : decode cX4_pastBlanks 4 = .ok (.getfield 15, 3) := by decide +kernel
theorem dX4_pastBlanks_7 : decode cX4_pastBlanks 7 = .ok (.if_icmp .ge 20, 3) := by decide +kernel
theorem dX4_pastBlanks_10 : decode cX4_pastBlanks 10 = .ok (.aload_n 0, 1) := by decide +kernel
theorem dX4_pastBlanks_11 : decode cX4_pastBlanks 11 = .ok (.getfield 11, 3) := by decide +kernel
theorem dX4_pastBlanks_14 : decode cX4_pastBlanks 14 = .ok (.iload_n 2, 1) := by decide +kernel
theorem dX4_pastBlanks_15 : decode cX4_pastBlanks 15 = .ok (.iaload, 1) := by decide +kernel
theorem dX4_pastBlanks_16 : decode cX4_pastBlanks 16 = .ok (.bipush 32, 2) := by decide +kernel
theorem dX4_pastBlanks_18 : decode cX4_pastBlanks 18 = .ok (.if_icmp .ne 9, 3) := by decide +kernel
theorem dX4_pastBlanks_21 : decode cX4_pastBlanks 21 = .ok (.iinc 2 1, 3) := by decide +kernel
theorem dX4_pastBlanks_24 : decode cX4_pastBlanks 24 = .ok (.goto (-22), 3) := by decide +kernel
theorem dX4_pastBlanks_27 : decode cX4_pastBlanks 27 = .ok (.iload_n 2, 1) := by decide +kernel
theorem dX4_pastBlanks_28 : decode cX4_pastBlanks 28 = .ok (.ireturn, 1) := by decide +kernel
theorem dX4_isDigit_0 : decode cX4_isDigit 0 = .ok (.iload_n 1, 1) := by decide +kernel
theorem dX4_isDigit_1 : decode cX4_isDigit 1 = .ok (.aload_n 0, 1) := by decide +kernel
theorem dX4_isDigit_2 : decode cX4_isDigit 2 = .ok (.getfield 15, 3) := by decide +kernel
theorem dX4_isDigit_5 : decode cX4_isDigit 5 = .ok (.if_icmp .ge 29, 3) := by decide +kernel
theorem dX4_isDigit_8 : decode cX4_isDigit 8 = .ok (.aload_n 0, 1) := by decide +kernel
theorem dX4_isDigit_9 : decode cX4_isDigit 9 = .ok (.getfield 11, 3) := by decide +kernel
theorem dX4_isDigit_12 : decode cX4_isDigit 12 = .ok (.iload_n 1, 1) := by decide +kernel
theorem dX4_isDigit_13 : decode cX4_isDigit 13 = .ok (.iaload, 1) := by decide +kernel
theorem dX4_isDigit_14 : decode cX4_isDigit 14 = .ok (.bipush 48, 2) := by decide +kernel
theorem dX4_isDigit_16 : decode cX4_isDigit 16 = .ok (.if_icmp .lt 18, 3) := by decide +kernel
theorem dX4_isDigit_19 : decode cX4_isDigit 19 = .ok (.aload_n 0, 1) := by decide +kernel
theorem dX4_isDigit_20 : decode cX4_isDigit 20 = .ok (.getfield 11, 3) := by decide +kernel
theorem dX4_isDigit_23 : decode cX4_isDigit 23 = .ok (.iload_n 1, 1) := by decide +kernel
theorem dX4_isDigit_24 : decode cX4_isDigit 24 = .ok (.iaload, 1) := by decide +kernel
theorem dX4_isDigit_25 : decode cX4_isDigit 25 = .ok (.bipush 57, 2) := by decide +kernel
theorem dX4_isDigit_27 : decode cX4_isDigit 27 = .ok (.if_icmp .gt 7, 3) := by decide +kernel
theorem dX4_isDigit_30 : decode cX4_isDigit 30 = .ok (.iconst 1, 1) := by decide +kernel
theorem dX4_isDigit_31 : decode cX4_isDigit 31 = .ok (.goto 4, 3) := by decide +kernel
theorem dX4_isDigit_34 : decode cX4_isDigit 34 = .ok (.iconst 0, 1) := by decide +kernel
theorem dX4_isDigit_35 : decode cX4_isDigit 35 = .ok (.ireturn, 1) := by decide +kernel
theorem dX4_valueOf_0 : decode cX4_valueOf 0 = .ok (.iconst 0, 1) := by decide +kernel
theorem dX4_valueOf_1 : decode cX4_valueOf 1 = .ok (.istore_n 3, 1) := by decide +kernel
theorem dX4_valueOf_2 : decode cX4_valueOf 2 = .ok (.iload_n 1, 1) := by decide +kernel
theorem dX4_valueOf_3 : decode cX4_valueOf 3 = .ok (.istore 4, 2) := by decide +kernel
theorem dX4_valueOf_5 : decode cX4_valueOf 5 = .ok (.iload 4, 2) := by decide +kernel
theorem dX4_valueOf_7 : decode cX4_valueOf 7 = .ok (.iload_n 2, 1) := by decide +kernel
theorem dX4_valueOf_8 : decode cX4_valueOf 8 = .ok (.if_icmp .gt 34, 3) := by decide +kernel
theorem dX4_valueOf_11 : decode cX4_valueOf 11 = .ok (.iload 4, 2) := by decide +kernel
theorem dX4_valueOf_13 : decode cX4_valueOf 13 = .ok (.aload_n 0, 1) := by decide +kernel
theorem dX4_valueOf_14 : decode cX4_valueOf 14 = .ok (.getfield 15, 3) := by decide +kernel
theorem dX4_valueOf_17 : decode cX4_valueOf 17 = .ok (.if_icmp .ge 25, 3) := by decide +kernel
theorem dX4_valueOf_20 : decode cX4_valueOf 20 = .ok (.bipush 10, 2) := by decide +kernel
theorem dX4_valueOf_22 : decode cX4_valueOf 22 = .ok (.iload_n 3, 1) := by decide +kernel
theorem dX4_valueOf_23 : decode cX4_valueOf 23 = .ok (.imul, 1) := by decide +kernel
theorem dX4_valueOf_24 : decode cX4_valueOf 24 = .ok (.aload_n 0, 1) := by decide +kernel
theorem dX4_valueOf_25 : decode cX4_valueOf 25 = .ok (.getfield 11, 3) := by decide +kernel
theorem dX4_valueOf_28 : decode cX4_valueOf 28 = .ok (.iload 4, 2) := by decide +kernel
theorem dX4_valueOf_30 : decode cX4_valueOf 30 = .ok (.iaload, 1) := by decide +kernel
theorem dX4_valueOf_31 : decode cX4_valueOf 31 = .ok (.iadd, 1) := by decide +kernel
theorem dX4_valueOf_32 : decode cX4_valueOf 32 = .ok (.bipush 48, 2) := by decide +kernel
theorem dX4_valueOf_34 : decode cX4_valueOf 34 = .ok (.isub, 1) := by decide +kernel
theorem dX4_valueOf_35 : decode cX4_valueOf 35 = .ok (.istore_n 3, 1) := by decide +kernel
theorem dX4_valueOf_36 : decode cX4_valueOf 36 = .ok (.iinc 4 1, 3) := by decide +kernel
theorem dX4_valueOf_39 : decode cX4_valueOf 39 = .ok (.goto (-34), 3) := by decide +kernel
theorem dX4_valueOf_42 : decode cX4_valueOf 42 = .ok (.iload_n 3, 1) := by decide +kernel
theorem dX4_valueOf_43 : decode cX4_valueOf 43 = .ok (.ireturn, 1) := by decide +kernel
theorem dX5_init_0 : decode cX5_init 0 = .ok (.aload_n 0, 1) := by decide +kernel
theorem dX5_init_1 : decode cX5_init 1 = .ok (.invokespecial 3, 3) := by decide +kernel
theorem dX5_init_4 : decode cX5_init 4 = .ok (.aload_n 0, 1) := by decide +kernel
theorem dX5_init_5 : decode cX5_init 5 = .ok (.aload_n 1, 1) := by decide +kernel
theorem dX5_init_6 : decode cX5_init 6 = .ok (.putfield 9, 3) := by decide +kernel
theorem dX5_init_9 : decode cX5_init 9 = .ok (.aload_n 0, 1) := by decide +kernel
theorem dX5_init_10 : decode cX5_init 10 = .ok (.bipush 12, 2) := by decide +kernel
theorem dX5_init_12 : decode cX5_init 12 = .ok (.newarray .int, 2) := by decide +kernel
theorem dX5_init_14 : decode cX5_init 14 = .ok (.putfield 15, 3) := by decide +kernel
theorem dX5_init_17 : decode cX5_init 17 = .ok (.aload_n 0, 1) := by decide +kernel
theorem dX5_init_18 : decode cX5_init 18 = .ok (.bipush 12, 2) := by decide +kernel
theorem dX5_init_20 : decode cX5_init 20 = .ok (.newarray .int, 2) := by decide +kernel
theorem dX5_init_22 : decode cX5_init 22 = .ok (.putfield 19, 3) := by decide +kernel
theorem dX5_init_25 : decode cX5_init 25 = .ok (.return_, 1) := by decide +kernel
theorem dX5_happeningOf_0 : decode cX5_happeningOf 0 = .ok (.iconst 0, 1) := by decide +kernel
theorem dX5_happeningOf_1 : decode cX5_happeningOf 1 = .ok (.istore_n 2, 1) := by decide +kernel
theorem dX5_happeningOf_2 : decode cX5_happeningOf 2 = .ok (.iconst 0, 1) := by decide +kernel
theorem dX5_happeningOf_3 : decode cX5_happeningOf 3 = .ok (.istore_n 3, 1) := by decide +kernel
theorem dX5_happeningOf_4 : decode cX5_happeningOf 4 = .ok (.iload_n 3, 1) := by decide +kernel
theorem dX5_happeningOf_5 : decode cX5_happeningOf 5 = .ok (.aload_n 0, 1) := by decide +kernel
theorem dX5_happeningOf_6 : decode cX5_happeningOf 6 = .ok (.getfield 9, 3) := by decide +kernel
theorem dX5_happeningOf_9 : decode cX5_happeningOf 9 = .ok (.getfield 22, 3) := by decide +kernel
theorem dX5_happeningOf_12 : decode cX5_happeningOf 12 = .ok (.if_icmp .ge 30, 3) := by decide +kernel
theorem dX5_happeningOf_15 : decode cX5_happeningOf 15 = .ok (.aload_n 0, 1) := by decide +kernel
theorem dX5_happeningOf_16 : decode cX5_happeningOf 16 = .ok (.getfield 15, 3) := by decide +kernel
theorem dX5_happeningOf_19 : decode cX5_happeningOf 19 = .ok (.iload_n 3, 1) := by decide +kernel
theorem dX5_happeningOf_20 : decode cX5_happeningOf 20 = .ok (.iaload, 1) := by decide +kernel
theorem dX5_happeningOf_21 : decode cX5_happeningOf 21 = .ok (.aload_n 0, 1) := by decide +kernel
theorem dX5_happeningOf_22 : decode cX5_happeningOf 22 = .ok (.getfield 15, 3) := by decide +kernel
theorem dX5_happeningOf_25 : decode cX5_happeningOf 25 = .ok (.iload_n 1, 1) := by decide +kernel
theorem dX5_happeningOf_26 : decode cX5_happeningOf 26 = .ok (.iaload, 1) := by decide +kernel
theorem dX5_happeningOf_27 : decode cX5_happeningOf 27 = .ok (.if_icmp .ne 9, 3) := by decide +kernel
theorem dX5_happeningOf_30 : decode cX5_happeningOf 30 = .ok (.iload_n 2, 1) := by decide +kernel
theorem dX5_happeningOf_31 : decode cX5_happeningOf 31 = .ok (.iconst 1, 1) := by decide +kernel
theorem dX5_happeningOf_32 : decode cX5_happeningOf 32 = .ok (.iload_n 3, 1) := by decide +kernel
theorem dX5_happeningOf_33 : decode cX5_happeningOf 33 = .ok (.ishl, 1) := by decide +kernel
theorem dX5_happeningOf_34 : decode cX5_happeningOf 34 = .ok (.ior, 1) := by decide +kernel
theorem dX5_happeningOf_35 : decode cX5_happeningOf 35 = .ok (.istore_n 2, 1) := by decide +kernel
theorem dX5_happeningOf_36 : decode cX5_happeningOf 36 = .ok (.iinc 3 1, 3) := by decide +kernel
theorem dX5_happeningOf_39 : decode cX5_happeningOf 39 = .ok (.goto (-35), 3) := by decide +kernel
theorem dX5_happeningOf_42 : decode cX5_happeningOf 42 = .ok (.iload_n 2, 1) := by decide +kernel
theorem dX5_happeningOf_43 : decode cX5_happeningOf 43 = .ok (.ireturn, 1) := by decide +kernel
theorem dX5_firstBar_0 : decode cX5_firstBar 0 = .ok (.iconst 0, 1) := by decide +kernel
theorem dX5_firstBar_1 : decode cX5_firstBar 1 = .ok (.istore_n 2, 1) := by decide +kernel
theorem dX5_firstBar_2 : decode cX5_firstBar 2 = .ok (.iload_n 2, 1) := by decide +kernel
theorem dX5_firstBar_3 : decode cX5_firstBar 3 = .ok (.aload_n 0, 1) := by decide +kernel
theorem dX5_firstBar_4 : decode cX5_firstBar 4 = .ok (.getfield 9, 3) := by decide +kernel
theorem dX5_firstBar_7 : decode cX5_firstBar 7 = .ok (.getfield 22, 3) := by decide +kernel
theorem dX5_firstBar_10 : decode cX5_firstBar 10 = .ok (.if_icmp .ge 47, 3) := by decide +kernel
theorem dX5_firstBar_13 : decode cX5_firstBar 13 = .ok (.iload_n 2, 1) := by decide +kernel
theorem dX5_firstBar_14 : decode cX5_firstBar 14 = .ok (.iconst 1, 1) := by decide +kernel
theorem dX5_firstBar_15 : decode cX5_firstBar 15 = .ok (.iadd, 1) := by decide +kernel
theorem dX5_firstBar_16 : decode cX5_firstBar 16 = .ok (.istore_n 3, 1) := by decide +kernel
theorem dX5_firstBar_17 : decode cX5_firstBar 17 = .ok (.iload_n 3, 1) := by decide +kernel
theorem dX5_firstBar_18 : decode cX5_firstBar 18 = .ok (.aload_n 0, 1) := by decide +kernel
theorem dX5_firstBar_19 : decode cX5_firstBar 19 = .ok (.getfield 9, 3) := by decide +kernel
theorem dX5_firstBar_22 : decode cX5_firstBar 22 = .ok (.getfield 22, 3) := by decide +kernel
theorem dX5_firstBar_25 : decode cX5_firstBar 25 = .ok (.if_icmp .ge 26, 3) := by decide +kernel
theorem dX5_firstBar_28 : decode cX5_firstBar 28 = .ok (.aload_n 0, 1) := by decide +kernel
theorem dX5_firstBar_29 : decode cX5_firstBar 29 = .ok (.aload_n 1, 1) := by decide +kernel
theorem dX5_firstBar_30 : decode cX5_firstBar 30 = .ok (.iload_n 2, 1) := by decide +kernel
theorem dX5_firstBar_31 : decode cX5_firstBar 31 = .ok (.iload_n 3, 1) := by decide +kernel
theorem dX5_firstBar_32 : decode cX5_firstBar 32 = .ok (.invokevirtual 28, 3) := by decide +kernel
theorem dX5_firstBar_35 : decode cX5_firstBar 35 = .ok (.ifCond .eq 10, 3) := by decide +kernel
theorem dX5_firstBar_38 : decode cX5_firstBar 38 = .ok (.bipush 16, 2) := by decide +kernel
theorem dX5_firstBar_40 : decode cX5_firstBar 40 = .ok (.iload_n 2, 1) := by decide +kernel
theorem dX5_firstBar_41 : decode cX5_firstBar 41 = .ok (.imul, 1) := by decide +kernel
theorem dX5_firstBar_42 : decode cX5_firstBar 42 = .ok (.iload_n 3, 1) := by decide +kernel
theorem dX5_firstBar_43 : decode cX5_firstBar 43 = .ok (.iadd, 1) := by decide +kernel
theorem dX5_firstBar_44 : decode cX5_firstBar 44 = .ok (.ireturn, 1) := by decide +kernel
theorem dX5_firstBar_45 : decode cX5_firstBar 45 = .ok (.iinc 3 1, 3) := by decide +kernel
theorem dX5_firstBar_48 : decode cX5_firstBar 48 = .ok (.goto (-31), 3) := by decide +kernel
theorem dX5_firstBar_51 : decode cX5_firstBar 51 = .ok (.iinc 2 1, 3) := by decide +kernel
theorem dX5_firstBar_54 : decode cX5_firstBar 54 = .ok (.goto (-52), 3) := by decide +kernel
theorem dX5_firstBar_57 : decode cX5_firstBar 57 = .ok (.iconst 0, 1) := by decide +kernel
theorem dX5_firstBar_58 : decode cX5_firstBar 58 = .ok (.istore_n 2, 1) := by decide +kernel
theorem dX5_firstBar_59 : decode cX5_firstBar 59 = .ok (.iload_n 2, 1) := by decide +kernel
theorem dX5_firstBar_60 : decode cX5_firstBar 60 = .ok (.aload_n 0, 1) := by decide +kernel
theorem dX5_firstBar_61 : decode cX5_firstBar 61 = .ok (.getfield 9, 3) := by decide +kernel
theorem dX5_firstBar_64 : decode cX5_firstBar 64 = .ok (.getfield 22, 3) := by decide +kernel
theorem dX5_firstBar_67 : decode cX5_firstBar 67 = .ok (.if_icmp .ge 43, 3) := by decide +kernel
theorem dX5_firstBar_70 : decode cX5_firstBar 70 = .ok (.aload_n 0, 1) := by decide +kernel
theorem dX5_firstBar_71 : decode cX5_firstBar 71 = .ok (.iload_n 2, 1) := by decide +kernel
theorem dX5_firstBar_72 : decode cX5_firstBar 72 = .ok (.invokevirtual 32, 3) := by decide +kernel
theorem dX5_firstBar_75 : decode cX5_firstBar 75 = .ok (.istore_n 3, 1) := by decide +kernel
theorem dX5_firstBar_76 : decode cX5_firstBar 76 = .ok (.aload_n 0, 1) := by decide +kernel
theorem dX5_firstBar_77 : decode cX5_firstBar 77 = .ok (.getfield 9, 3) := by decide +kernel
theorem dX5_firstBar_80 : decode cX5_firstBar 80 = .ok (.aload_n 1, 1) := by decide +kernel
theorem dX5_firstBar_81 : decode cX5_firstBar 81 = .ok (.iload_n 3, 1) := by decide +kernel
theorem dX5_firstBar_82 : decode cX5_firstBar 82 = .ok (.invokevirtual 36, 3) := by decide +kernel
theorem dX5_firstBar_85 : decode cX5_firstBar 85 = .ok (.ifCond .ne 19, 3) := by decide +kernel
theorem dX5_firstBar_88 : decode cX5_firstBar 88 = .ok (.bipush 16, 2) := by decide +kernel
theorem dX5_firstBar_90 : decode cX5_firstBar 90 = .ok (.iload_n 2, 1) := by decide +kernel
theorem dX5_firstBar_91 : decode cX5_firstBar 91 = .ok (.imul, 1) := by decide +kernel
theorem dX5_firstBar_92 : decode cX5_firstBar 92 = .ok (.iload_n 3, 1) := by decide +kernel
theorem dX5_firstBar_93 : decode cX5_firstBar 93 = .ok (.iconst 1, 1) := by decide +kernel
theorem dX5_firstBar_94 : decode cX5_firstBar 94 = .ok (.iload_n 2, 1) := by decide +kernel
theorem dX5_firstBar_95 : decode cX5_firstBar 95 = .ok (.ishl, 1) := by decide +kernel
theorem dX5_firstBar_96 : decode cX5_firstBar 96 = .ok (.iconst (-1), 1) := by decide +kernel
theorem dX5_firstBar_97 : decode cX5_firstBar 97 = .ok (.ixor, 1) := by decide +kernel
theorem dX5_firstBar_98 : decode cX5_firstBar 98 = .ok (.iand, 1) := by decide +kernel
theorem dX5_firstBar_99 : decode cX5_firstBar 99 = .ok (.invokestatic 40, 3) := by decide +kernel
theorem dX5_firstBar_102 : decode cX5_firstBar 102 = .ok (.iadd, 1) := by decide +kernel
theorem dX5_firstBar_103 : decode cX5_firstBar 103 = .ok (.ireturn, 1) := by decide +kernel
theorem dX5_firstBar_104 : decode cX5_firstBar 104 = .ok (.iinc 2 1, 3) := by decide +kernel
theorem dX5_firstBar_107 : decode cX5_firstBar 107 = .ok (.goto (-48), 3) := by decide +kernel
theorem dX5_firstBar_110 : decode cX5_firstBar 110 = .ok (.iconst (-1), 1) := by decide +kernel
theorem dX5_firstBar_111 : decode cX5_firstBar 111 = .ok (.ireturn, 1) := by decide +kernel
theorem dX5_bar_0 : decode cX5_bar 0 = .ok (.aload_n 0, 1) := by decide +kernel
theorem dX5_bar_1 : decode cX5_bar 1 = .ok (.getfield 15, 3) := by decide +kernel
theorem dX5_bar_4 : decode cX5_bar 4 = .ok (.iload_n 2, 1) := by decide +kernel
theorem dX5_bar_5 : decode cX5_bar 5 = .ok (.iaload, 1) := by decide +kernel
theorem dX5_bar_6 : decode cX5_bar 6 = .ok (.aload_n 0, 1) := by decide +kernel
theorem dX5_bar_7 : decode cX5_bar 7 = .ok (.getfield 15, 3) := by decide +kernel
theorem dX5_bar_10 : decode cX5_bar 10 = .ok (.iload_n 3, 1) := by decide +kernel
theorem dX5_bar_11 : decode cX5_bar 11 = .ok (.iaload, 1) := by decide +kernel
theorem dX5_bar_12 : decode cX5_bar 12 = .ok (.if_icmp .ne 27, 3) := by decide +kernel
theorem dX5_bar_15 : decode cX5_bar 15 = .ok (.aload_n 0, 1) := by decide +kernel
theorem dX5_bar_16 : decode cX5_bar 16 = .ok (.getfield 9, 3) := by decide +kernel
theorem dX5_bar_19 : decode cX5_bar 19 = .ok (.aload_n 1, 1) := by decide +kernel
theorem dX5_bar_20 : decode cX5_bar 20 = .ok (.iconst 1, 1) := by decide +kernel
theorem dX5_bar_21 : decode cX5_bar 21 = .ok (.iload_n 2, 1) := by decide +kernel
theorem dX5_bar_22 : decode cX5_bar 22 = .ok (.ishl, 1) := by decide +kernel
theorem dX5_bar_23 : decode cX5_bar 23 = .ok (.iconst 1, 1) := by decide +kernel
theorem dX5_bar_24 : decode cX5_bar 24 = .ok (.iload_n 3, 1) := by decide +kernel
theorem dX5_bar_25 : decode cX5_bar 25 = .ok (.ishl, 1) := by decide +kernel
end
section
theorem dX5_bar_26 : decode cX5_bar 26 = .ok (.ior, 1) := by decide +kernel
theorem dX5_bar_27 : decode cX5_bar 27 = .ok (.invokevirtual 36, 3) := by decide +kernel
theorem dX5_bar_30 : decode cX5_bar 30 = .ok (.ifCond .ne 7, 3) := by decide +kernel
theorem dX5_bar_33 : decode cX5_bar 33 = .ok (.iconst 1, 1) := by decide +kernel
theorem dX5_bar_34 : decode cX5_bar 34 = .ok (.goto 4, 3) := by decide +kernel
theorem dX5_bar_37 : decode cX5_bar 37 = .ok (.iconst 0, 1) := by decide +kernel
theorem dX5_bar_38 : decode cX5_bar 38 = .ok (.ireturn, 1) := by decide +kernel
theorem dX5_bar_39 : decode cX5_bar 39 = .ok (.aload_n 1, 1) := by decide +kernel
theorem dX5_bar_40 : decode cX5_bar 40 = .ok (.invokevirtual 45, 3) := by decide +kernel
theorem dX5_bar_43 : decode cX5_bar 43 = .ok (.ifCond .ne 30, 3) := by decide +kernel
theorem dX5_bar_46 : decode cX5_bar 46 = .ok (.aload_n 0, 1) := by decide +kernel
theorem dX5_bar_47 : decode cX5_bar 47 = .ok (.aload_n 0, 1) := by decide +kernel
theorem dX5_bar_48 : decode cX5_bar 48 = .ok (.iload_n 2, 1) := by decide +kernel
theorem dX5_bar_49 : decode cX5_bar 49 = .ok (.invokevirtual 32, 3) := by decide +kernel
theorem dX5_bar_52 : decode cX5_bar 52 = .ok (.aload_n 0, 1) := by decide +kernel
theorem dX5_bar_53 : decode cX5_bar 53 = .ok (.iload_n 3, 1) := by decide +kernel
theorem dX5_bar_54 : decode cX5_bar 54 = .ok (.invokevirtual 32, 3) := by decide +kernel
theorem dX5_bar_57 : decode cX5_bar 57 = .ok (.aload_n 1, 1) := by decide +kernel
theorem dX5_bar_58 : decode cX5_bar 58 = .ok (.getfield 51, 3) := by decide +kernel
theorem dX5_bar_61 : decode cX5_bar 61 = .ok (.iconst 4, 1) := by decide +kernel
theorem dX5_bar_62 : decode cX5_bar 62 = .ok (.iaload, 1) := by decide +kernel
theorem dX5_bar_63 : decode cX5_bar 63 = .ok (.invokevirtual 54, 3) := by decide +kernel
theorem dX5_bar_66 : decode cX5_bar 66 = .ok (.ifCond .eq 7, 3) := by decide +kernel
theorem dX5_bar_69 : decode cX5_bar 69 = .ok (.iconst 1, 1) := by decide +kernel
theorem dX5_bar_70 : decode cX5_bar 70 = .ok (.goto 4, 3) := by decide +kernel
theorem dX5_bar_73 : decode cX5_bar 73 = .ok (.iconst 0, 1) := by decide +kernel
theorem dX5_bar_74 : decode cX5_bar 74 = .ok (.ireturn, 1) := by decide +kernel
theorem dX5_areTooNear_0 : decode cX5_areTooNear 0 = .ok (.aload_n 0, 1) := by decide +kernel
theorem dX5_areTooNear_1 : decode cX5_areTooNear 1 = .ok (.getfield 9, 3) := by decide +kernel
theorem dX5_areTooNear_4 : decode cX5_areTooNear 4 = .ok (.iload_n 1, 1) := by decide +kernel
theorem dX5_areTooNear_5 : decode cX5_areTooNear 5 = .ok (.invokevirtual 58, 3) := by decide +kernel
theorem dX5_areTooNear_8 : decode cX5_areTooNear 8 = .ok (.iload_n 3, 1) := by decide +kernel
theorem dX5_areTooNear_9 : decode cX5_areTooNear 9 = .ok (.iadd, 1) := by decide +kernel
theorem dX5_areTooNear_10 : decode cX5_areTooNear 10 = .ok (.aload_n 0, 1) := by decide +kernel
theorem dX5_areTooNear_11 : decode cX5_areTooNear 11 = .ok (.getfield 9, 3) := by decide +kernel
theorem dX5_areTooNear_14 : decode cX5_areTooNear 14 = .ok (.iload_n 2, 1) := by decide +kernel
theorem dX5_areTooNear_15 : decode cX5_areTooNear 15 = .ok (.invokevirtual 61, 3) := by decide +kernel
theorem dX5_areTooNear_18 : decode cX5_areTooNear 18 = .ok (.if_icmp .ge 7, 3) := by decide +kernel
theorem dX5_areTooNear_21 : decode cX5_areTooNear 21 = .ok (.iconst 1, 1) := by decide +kernel
theorem dX5_areTooNear_22 : decode cX5_areTooNear 22 = .ok (.goto 4, 3) := by decide +kernel
theorem dX5_areTooNear_25 : decode cX5_areTooNear 25 = .ok (.iconst 0, 1) := by decide +kernel
theorem dX5_areTooNear_26 : decode cX5_areTooNear 26 = .ok (.istore 4, 2) := by decide +kernel
theorem dX5_areTooNear_28 : decode cX5_areTooNear 28 = .ok (.aload_n 0, 1) := by decide +kernel
theorem dX5_areTooNear_29 : decode cX5_areTooNear 29 = .ok (.getfield 9, 3) := by decide +kernel
theorem dX5_areTooNear_32 : decode cX5_areTooNear 32 = .ok (.iload_n 2, 1) := by decide +kernel
theorem dX5_areTooNear_33 : decode cX5_areTooNear 33 = .ok (.invokevirtual 58, 3) := by decide +kernel
theorem dX5_areTooNear_36 : decode cX5_areTooNear 36 = .ok (.iload_n 3, 1) := by decide +kernel
theorem dX5_areTooNear_37 : decode cX5_areTooNear 37 = .ok (.iadd, 1) := by decide +kernel
theorem dX5_areTooNear_38 : decode cX5_areTooNear 38 = .ok (.aload_n 0, 1) := by decide +kernel
theorem dX5_areTooNear_39 : decode cX5_areTooNear 39 = .ok (.getfield 9, 3) := by decide +kernel
theorem dX5_areTooNear_42 : decode cX5_areTooNear 42 = .ok (.iload_n 1, 1) := by decide +kernel
theorem dX5_areTooNear_43 : decode cX5_areTooNear 43 = .ok (.invokevirtual 61, 3) := by decide +kernel
theorem dX5_areTooNear_46 : decode cX5_areTooNear 46 = .ok (.if_icmp .ge 7, 3) := by decide +kernel
theorem dX5_areTooNear_49 : decode cX5_areTooNear 49 = .ok (.iconst 1, 1) := by decide +kernel
theorem dX5_areTooNear_50 : decode cX5_areTooNear 50 = .ok (.goto 4, 3) := by decide +kernel
theorem dX5_areTooNear_53 : decode cX5_areTooNear 53 = .ok (.iconst 0, 1) := by decide +kernel
theorem dX5_areTooNear_54 : decode cX5_areTooNear 54 = .ok (.istore 5, 2) := by decide +kernel
theorem dX5_areTooNear_56 : decode cX5_areTooNear 56 = .ok (.iload 4, 2) := by decide +kernel
theorem dX5_areTooNear_58 : decode cX5_areTooNear 58 = .ok (.ifCond .ne 12, 3) := by decide +kernel
theorem dX5_areTooNear_61 : decode cX5_areTooNear 61 = .ok (.iload 5, 2) := by decide +kernel
theorem dX5_areTooNear_63 : decode cX5_areTooNear 63 = .ok (.ifCond .ne 7, 3) := by decide +kernel
theorem dX5_areTooNear_66 : decode cX5_areTooNear 66 = .ok (.iconst 1, 1) := by decide +kernel
theorem dX5_areTooNear_67 : decode cX5_areTooNear 67 = .ok (.goto 4, 3) := by decide +kernel
theorem dX5_areTooNear_70 : decode cX5_areTooNear 70 = .ok (.iconst 0, 1) := by decide +kernel
theorem dX5_areTooNear_71 : decode cX5_areTooNear 71 = .ok (.ireturn, 1) := by decide +kernel
theorem dX5_reckon_0 : decode cX5_reckon 0 = .ok (.aload_n 0, 1) := by decide +kernel
theorem dX5_reckon_1 : decode cX5_reckon 1 = .ok (.getfield 9, 3) := by decide +kernel
theorem dX5_reckon_4 : decode cX5_reckon 4 = .ok (.aload_n 0, 1) := by decide +kernel
theorem dX5_reckon_5 : decode cX5_reckon 5 = .ok (.getfield 9, 3) := by decide +kernel
theorem dX5_reckon_8 : decode cX5_reckon 8 = .ok (.invokevirtual 64, 3) := by decide +kernel
theorem dX5_reckon_11 : decode cX5_reckon 11 = .ok (.aload_n 0, 1) := by decide +kernel
theorem dX5_reckon_12 : decode cX5_reckon 12 = .ok (.getfield 19, 3) := by decide +kernel
theorem dX5_reckon_15 : decode cX5_reckon 15 = .ok (.invokevirtual 68, 3) := by decide +kernel
theorem dX5_reckon_18 : decode cX5_reckon 18 = .ok (.istore_n 2, 1) := by decide +kernel
theorem dX5_reckon_19 : decode cX5_reckon 19 = .ok (.iconst 0, 1) := by decide +kernel
theorem dX5_reckon_20 : decode cX5_reckon 20 = .ok (.istore_n 3, 1) := by decide +kernel
theorem dX5_reckon_21 : decode cX5_reckon 21 = .ok (.aload_n 0, 1) := by decide +kernel
theorem dX5_reckon_22 : decode cX5_reckon 22 = .ok (.iconst 0, 1) := by decide +kernel
theorem dX5_reckon_23 : decode cX5_reckon 23 = .ok (.putfield 72, 3) := by decide +kernel
theorem dX5_reckon_26 : decode cX5_reckon 26 = .ok (.aload_n 0, 1) := by decide +kernel
theorem dX5_reckon_27 : decode cX5_reckon 27 = .ok (.iconst 0, 1) := by decide +kernel
theorem dX5_reckon_28 : decode cX5_reckon 28 = .ok (.putfield 75, 3) := by decide +kernel
theorem dX5_reckon_31 : decode cX5_reckon 31 = .ok (.aload_n 0, 1) := by decide +kernel
theorem dX5_reckon_32 : decode cX5_reckon 32 = .ok (.iconst 0, 1) := by decide +kernel
theorem dX5_reckon_33 : decode cX5_reckon 33 = .ok (.putfield 78, 3) := by decide +kernel
theorem dX5_reckon_36 : decode cX5_reckon 36 = .ok (.iconst 0, 1) := by decide +kernel
theorem dX5_reckon_37 : decode cX5_reckon 37 = .ok (.istore 4, 2) := by decide +kernel
theorem dX5_reckon_39 : decode cX5_reckon 39 = .ok (.iload 4, 2) := by decide +kernel
theorem dX5_reckon_41 : decode cX5_reckon 41 = .ok (.iload_n 2, 1) := by decide +kernel
theorem dX5_reckon_42 : decode cX5_reckon 42 = .ok (.if_icmp .ge 109, 3) := by decide +kernel
theorem dX5_reckon_45 : decode cX5_reckon 45 = .ok (.aload_n 0, 1) := by decide +kernel
theorem dX5_reckon_46 : decode cX5_reckon 46 = .ok (.getfield 19, 3) := by decide +kernel
theorem dX5_reckon_49 : decode cX5_reckon 49 = .ok (.iload 4, 2) := by decide +kernel
theorem dX5_reckon_51 : decode cX5_reckon 51 = .ok (.iaload, 1) := by decide +kernel
theorem dX5_reckon_52 : decode cX5_reckon 52 = .ok (.iload_n 3, 1) := by decide +kernel
theorem dX5_reckon_53 : decode cX5_reckon 53 = .ok (.invokestatic 81, 3) := by decide +kernel
theorem dX5_reckon_56 : decode cX5_reckon 56 = .ok (.ifCond .eq 6, 3) := by decide +kernel
theorem dX5_reckon_59 : decode cX5_reckon 59 = .ok (.goto 86, 3) := by decide +kernel
theorem dX5_reckon_62 : decode cX5_reckon 62 = .ok (.aload_n 0, 1) := by decide +kernel
theorem dX5_reckon_63 : decode cX5_reckon 63 = .ok (.aload_n 0, 1) := by decide +kernel
theorem dX5_reckon_64 : decode cX5_reckon 64 = .ok (.getfield 19, 3) := by decide +kernel
theorem dX5_reckon_67 : decode cX5_reckon 67 = .ok (.iload 4, 2) := by decide +kernel
theorem dX5_reckon_69 : decode cX5_reckon 69 = .ok (.iaload, 1) := by decide +kernel
theorem dX5_reckon_70 : decode cX5_reckon 70 = .ok (.invokevirtual 32, 3) := by decide +kernel
theorem dX5_reckon_73 : decode cX5_reckon 73 = .ok (.istore 5, 2) := by decide +kernel
theorem dX5_reckon_75 : decode cX5_reckon 75 = .ok (.iload_n 3, 1) := by decide +kernel
theorem dX5_reckon_76 : decode cX5_reckon 76 = .ok (.iload 5, 2) := by decide +kernel
theorem dX5_reckon_78 : decode cX5_reckon 78 = .ok (.ior, 1) := by decide +kernel
theorem dX5_reckon_79 : decode cX5_reckon 79 = .ok (.istore_n 3, 1) := by decide +kernel
theorem dX5_reckon_80 : decode cX5_reckon 80 = .ok (.aload_n 0, 1) := by decide +kernel
theorem dX5_reckon_81 : decode cX5_reckon 81 = .ok (.dup, 1) := by decide +kernel
theorem dX5_reckon_82 : decode cX5_reckon 82 = .ok (.getfield 72, 3) := by decide +kernel
theorem dX5_reckon_85 : decode cX5_reckon 85 = .ok (.iconst 1, 1) := by decide +kernel
theorem dX5_reckon_86 : decode cX5_reckon 86 = .ok (.iadd, 1) := by decide +kernel
theorem dX5_reckon_87 : decode cX5_reckon 87 = .ok (.putfield 72, 3) := by decide +kernel
theorem dX5_reckon_90 : decode cX5_reckon 90 = .ok (.aload_n 1, 1) := by decide +kernel
theorem dX5_reckon_91 : decode cX5_reckon 91 = .ok (.aload_n 0, 1) := by decide +kernel
theorem dX5_reckon_92 : decode cX5_reckon 92 = .ok (.getfield 9, 3) := by decide +kernel
theorem dX5_reckon_95 : decode cX5_reckon 95 = .ok (.iload 5, 2) := by decide +kernel
theorem dX5_reckon_97 : decode cX5_reckon 97 = .ok (.invokevirtual 85, 3) := by decide +kernel
theorem dX5_reckon_100 : decode cX5_reckon 100 = .ok (.invokevirtual 88, 3) := by decide +kernel
theorem dX5_reckon_103 : decode cX5_reckon 103 = .ok (.istore 6, 2) := by decide +kernel
theorem dX5_reckon_105 : decode cX5_reckon 105 = .ok (.iload 6, 2) := by decide +kernel
theorem dX5_reckon_107 : decode cX5_reckon 107 = .ok (.ifCond .le 38, 3) := by decide +kernel
theorem dX5_reckon_110 : decode cX5_reckon 110 = .ok (.aload_n 0, 1) := by decide +kernel
theorem dX5_reckon_111 : decode cX5_reckon 111 = .ok (.getfield 75, 3) := by decide +kernel
theorem dX5_reckon_114 : decode cX5_reckon 114 = .ok (.aload_n 1, 1) := by decide +kernel
theorem dX5_reckon_115 : decode cX5_reckon 115 = .ok (.getfield 51, 3) := by decide +kernel
theorem dX5_reckon_118 : decode cX5_reckon 118 = .ok (.bipush 7, 2) := by decide +kernel
theorem dX5_reckon_120 : decode cX5_reckon 120 = .ok (.iaload, 1) := by decide +kernel
theorem dX5_reckon_121 : decode cX5_reckon 121 = .ok (.if_icmp .ge 24, 3) := by decide +kernel
theorem dX5_reckon_124 : decode cX5_reckon 124 = .ok (.aload_n 0, 1) := by decide +kernel
theorem dX5_reckon_125 : decode cX5_reckon 125 = .ok (.dup, 1) := by decide +kernel
theorem dX5_reckon_126 : decode cX5_reckon 126 = .ok (.getfield 75, 3) := by decide +kernel
theorem dX5_reckon_129 : decode cX5_reckon 129 = .ok (.iconst 1, 1) := by decide +kernel
theorem dX5_reckon_130 : decode cX5_reckon 130 = .ok (.iadd, 1) := by decide +kernel
theorem dX5_reckon_131 : decode cX5_reckon 131 = .ok (.putfield 75, 3) := by decide +kernel
theorem dX5_reckon_134 : decode cX5_reckon 134 = .ok (.aload_n 0, 1) := by decide +kernel
theorem dX5_reckon_135 : decode cX5_reckon 135 = .ok (.dup, 1) := by decide +kernel
theorem dX5_reckon_136 : decode cX5_reckon 136 = .ok (.getfield 78, 3) := by decide +kernel
theorem dX5_reckon_139 : decode cX5_reckon 139 = .ok (.iload 6, 2) := by decide +kernel
theorem dX5_reckon_141 : decode cX5_reckon 141 = .ok (.iadd, 1) := by decide +kernel
theorem dX5_reckon_142 : decode cX5_reckon 142 = .ok (.putfield 78, 3) := by decide +kernel
theorem dX5_reckon_145 : decode cX5_reckon 145 = .ok (.iinc 4 1, 3) := by decide +kernel
theorem dX5_reckon_148 : decode cX5_reckon 148 = .ok (.goto (-109), 3) := by decide +kernel
theorem dX5_reckon_151 : decode cX5_reckon 151 = .ok (.return_, 1) := by decide +kernel
theorem dX6_init_0 : decode cX6_init 0 = .ok (.aload_n 0, 1) := by decide +kernel
theorem dX6_init_1 : decode cX6_init 1 = .ok (.invokespecial 1, 3) := by decide +kernel
theorem dX6_init_4 : decode cX6_init 4 = .ok (.aload_n 0, 1) := by decide +kernel
theorem dX6_init_5 : decode cX6_init 5 = .ok (.new 7, 3) := by decide +kernel
theorem dX6_init_8 : decode cX6_init 8 = .ok (.dup, 1) := by decide +kernel
theorem dX6_init_9 : decode cX6_init 9 = .ok (.invokespecial 9, 3) := by decide +kernel
theorem dX6_init_12 : decode cX6_init 12 = .ok (.putfield 10, 3) := by decide +kernel
theorem dX6_init_15 : decode cX6_init 15 = .ok (.aload_n 0, 1) := by decide +kernel
theorem dX6_init_16 : decode cX6_init 16 = .ok (.bipush 6, 2) := by decide +kernel
theorem dX6_init_18 : decode cX6_init 18 = .ok (.anewarray 16, 3) := by decide +kernel
theorem dX6_init_21 : decode cX6_init 21 = .ok (.putfield 18, 3) := by decide +kernel
theorem dX6_init_24 : decode cX6_init 24 = .ok (.iconst 0, 1) := by decide +kernel
theorem dX6_init_25 : decode cX6_init 25 = .ok (.istore_n 1, 1) := by decide +kernel
theorem dX6_init_26 : decode cX6_init 26 = .ok (.iload_n 1, 1) := by decide +kernel
theorem dX6_init_27 : decode cX6_init 27 = .ok (.bipush 6, 2) := by decide +kernel
theorem dX6_init_29 : decode cX6_init 29 = .ok (.if_icmp .ge 22, 3) := by decide +kernel
theorem dX6_init_32 : decode cX6_init 32 = .ok (.aload_n 0, 1) := by decide +kernel
theorem dX6_init_33 : decode cX6_init 33 = .ok (.getfield 18, 3) := by decide +kernel
theorem dX6_init_36 : decode cX6_init 36 = .ok (.iload_n 1, 1) := by decide +kernel
theorem dX6_init_37 : decode cX6_init 37 = .ok (.new 16, 3) := by decide +kernel
theorem dX6_init_40 : decode cX6_init 40 = .ok (.dup, 1) := by decide +kernel
theorem dX6_init_41 : decode cX6_init 41 = .ok (.invokespecial 22, 3) := by decide +kernel
theorem dX6_init_44 : decode cX6_init 44 = .ok (.aastore, 1) := by decide +kernel
theorem dX6_init_45 : decode cX6_init 45 = .ok (.iinc 1 1, 3) := by decide +kernel
theorem dX6_init_48 : decode cX6_init 48 = .ok (.goto (-22), 3) := by decide +kernel
theorem dX6_init_51 : decode cX6_init 51 = .ok (.aload_n 0, 1) := by decide +kernel
theorem dX6_init_52 : decode cX6_init 52 = .ok (.new 16, 3) := by decide +kernel
theorem dX6_init_55 : decode cX6_init 55 = .ok (.dup, 1) := by decide +kernel
theorem dX6_init_56 : decode cX6_init 56 = .ok (.invokespecial 22, 3) := by decide +kernel
theorem dX6_init_59 : decode cX6_init 59 = .ok (.putfield 23, 3) := by decide +kernel
theorem dX6_init_62 : decode cX6_init 62 = .ok (.aload_n 0, 1) := by decide +kernel
theorem dX6_init_63 : decode cX6_init 63 = .ok (.new 27, 3) := by decide +kernel
theorem dX6_init_66 : decode cX6_init 66 = .ok (.dup, 1) := by decide +kernel
theorem dX6_init_67 : decode cX6_init 67 = .ok (.invokespecial 29, 3) := by decide +kernel
theorem dX6_init_70 : decode cX6_init 70 = .ok (.putfield 30, 3) := by decide +kernel
theorem dX6_init_73 : decode cX6_init 73 = .ok (.aload_n 0, 1) := by decide +kernel
theorem dX6_init_74 : decode cX6_init 74 = .ok (.new 34, 3) := by decide +kernel
theorem dX6_init_77 : decode cX6_init 77 = .ok (.dup, 1) := by decide +kernel
theorem dX6_init_78 : decode cX6_init 78 = .ok (.aload_n 0, 1) := by decide +kernel
theorem dX6_init_79 : decode cX6_init 79 = .ok (.getfield 30, 3) := by decide +kernel
theorem dX6_init_82 : decode cX6_init 82 = .ok (.invokespecial 36, 3) := by decide +kernel
theorem dX6_init_85 : decode cX6_init 85 = .ok (.putfield 39, 3) := by decide +kernel
theorem dX6_init_88 : decode cX6_init 88 = .ok (.aload_n 0, 1) := by decide +kernel
theorem dX6_init_89 : decode cX6_init 89 = .ok (.new 43, 3) := by decide +kernel
theorem dX6_init_92 : decode cX6_init 92 = .ok (.dup, 1) := by decide +kernel
theorem dX6_init_93 : decode cX6_init 93 = .ok (.aload_n 0, 1) := by decide +kernel
theorem dX6_init_94 : decode cX6_init 94 = .ok (.getfield 30, 3) := by decide +kernel
theorem dX6_init_97 : decode cX6_init 97 = .ok (.invokespecial 45, 3) := by decide +kernel
theorem dX6_init_100 : decode cX6_init 100 = .ok (.putfield 46, 3) := by decide +kernel
theorem dX6_init_103 : decode cX6_init 103 = .ok (.aload_n 0, 1) := by decide +kernel
theorem dX6_init_104 : decode cX6_init 104 = .ok (.bipush 12, 2) := by decide +kernel
theorem dX6_init_106 : decode cX6_init 106 = .ok (.newarray .int, 2) := by decide +kernel
theorem dX6_init_108 : decode cX6_init 108 = .ok (.putfield 50, 3) := by decide +kernel
theorem dX6_init_111 : decode cX6_init 111 = .ok (.aload_n 0, 1) := by decide +kernel
theorem dX6_init_112 : decode cX6_init 112 = .ok (.bipush 12, 2) := by decide +kernel
theorem dX6_init_114 : decode cX6_init 114 = .ok (.newarray .int, 2) := by decide +kernel
theorem dX6_init_116 : decode cX6_init 116 = .ok (.putfield 54, 3) := by decide +kernel
theorem dX6_init_119 : decode cX6_init 119 = .ok (.aload_n 0, 1) := by decide +kernel
theorem dX6_init_120 : decode cX6_init 120 = .ok (.iconst 0, 1) := by decide +kernel
theorem dX6_init_121 : decode cX6_init 121 = .ok (.putfield 57, 3) := by decide +kernel
theorem dX6_init_124 : decode cX6_init 124 = .ok (.aload_n 0, 1) := by decide +kernel
theorem dX6_init_125 : decode cX6_init 125 = .ok (.iconst 0, 1) := by decide +kernel
theorem dX6_init_126 : decode cX6_init 126 = .ok (.putfield 61, 3) := by decide +kernel
theorem dX6_init_129 : decode cX6_init 129 = .ok (.return_, 1) := by decide +kernel
theorem dX6_feed_0 : decode cX6_feed 0 = .ok (.iload_n 1, 1) := by decide +kernel
theorem dX6_feed_1 : decode cX6_feed 1 = .ok (.invokestatic 64, 3) := by decide +kernel
theorem dX6_feed_4 : decode cX6_feed 4 = .ok (.iload_n 2, 1) := by decide +kernel
theorem dX6_feed_5 : decode cX6_feed 5 = .ok (.invokestatic 64, 3) := by decide +kernel
theorem dX6_feed_8 : decode cX6_feed 8 = .ok (.iadd, 1) := by decide +kernel
theorem dX6_feed_9 : decode cX6_feed 9 = .ok (.iload_n 3, 1) := by decide +kernel
theorem dX6_feed_10 : decode cX6_feed 10 = .ok (.invokestatic 64, 3) := by decide +kernel
theorem dX6_feed_13 : decode cX6_feed 13 = .ok (.iadd, 1) := by decide +kernel
theorem dX6_feed_14 : decode cX6_feed 14 = .ok (.iload 4, 2) := by decide +kernel
theorem dX6_feed_16 : decode cX6_feed 16 = .ok (.invokestatic 64, 3) := by decide +kernel
theorem dX6_feed_19 : decode cX6_feed 19 = .ok (.iadd, 1) := by decide +kernel
theorem dX6_feed_20 : decode cX6_feed 20 = .ok (.iload 5, 2) := by decide +kernel
theorem dX6_feed_22 : decode cX6_feed 22 = .ok (.invokestatic 64, 3) := by decide +kernel
theorem dX6_feed_25 : decode cX6_feed 25 = .ok (.iadd, 1) := by decide +kernel
theorem dX6_feed_26 : decode cX6_feed 26 = .ok (.istore 6, 2) := by decide +kernel
theorem dX6_feed_28 : decode cX6_feed 28 = .ok (.aload_n 0, 1) := by decide +kernel
theorem dX6_feed_29 : decode cX6_feed 29 = .ok (.getfield 10, 3) := by decide +kernel
theorem dX6_feed_32 : decode cX6_feed 32 = .ok (.getfield 68, 3) := by decide +kernel
theorem dX6_feed_35 : decode cX6_feed 35 = .ok (.iload 6, 2) := by decide +kernel
theorem dX6_feed_37 : decode cX6_feed 37 = .ok (.iadd, 1) := by decide +kernel
theorem dX6_feed_38 : decode cX6_feed 38 = .ok (.bipush 120, 2) := by decide +kernel
theorem dX6_feed_40 : decode cX6_feed 40 = .ok (.if_icmp .le 5, 3) := by decide +kernel
theorem dX6_feed_43 : decode cX6_feed 43 = .ok (.iconst (-1), 1) := by decide +kernel
theorem dX6_feed_44 : decode cX6_feed 44 = .ok (.ireturn, 1) := by decide +kernel
theorem dX6_feed_45 : decode cX6_feed 45 = .ok (.aload_n 0, 1) := by decide +kernel
theorem dX6_feed_46 : decode cX6_feed 46 = .ok (.getfield 10, 3) := by decide +kernel
theorem dX6_feed_49 : decode cX6_feed 49 = .ok (.iload_n 1, 1) := by decide +kernel
theorem dX6_feed_50 : decode cX6_feed 50 = .ok (.invokevirtual 71, 3) := by decide +kernel
theorem dX6_feed_53 : decode cX6_feed 53 = .ok (.aload_n 0, 1) := by decide +kernel
theorem dX6_feed_54 : decode cX6_feed 54 = .ok (.getfield 10, 3) := by decide +kernel
theorem dX6_feed_57 : decode cX6_feed 57 = .ok (.iload_n 2, 1) := by decide +kernel
theorem dX6_feed_58 : decode cX6_feed 58 = .ok (.invokevirtual 71, 3) := by decide +kernel
theorem dX6_feed_61 : decode cX6_feed 61 = .ok (.aload_n 0, 1) := by decide +kernel
theorem dX6_feed_62 : decode cX6_feed 62 = .ok (.getfield 10, 3) := by decide +kernel
theorem dX6_feed_65 : decode cX6_feed 65 = .ok (.iload_n 3, 1) := by decide +kernel
theorem dX6_feed_66 : decode cX6_feed 66 = .ok (.invokevirtual 71, 3) := by decide +kernel
theorem dX6_feed_69 : decode cX6_feed 69 = .ok (.aload_n 0, 1) := by decide +kernel
theorem dX6_feed_70 : decode cX6_feed 70 = .ok (.getfield 10, 3) := by decide +kernel
theorem dX6_feed_73 : decode cX6_feed 73 = .ok (.iload 4, 2) := by decide +kernel
theorem dX6_feed_75 : decode cX6_feed 75 = .ok (.invokevirtual 71, 3) := by decide +kernel
theorem dX6_feed_78 : decode cX6_feed 78 = .ok (.aload_n 0, 1) := by decide +kernel
theorem dX6_feed_79 : decode cX6_feed 79 = .ok (.getfield 10, 3) := by decide +kernel
theorem dX6_feed_82 : decode cX6_feed 82 = .ok (.iload 5, 2) := by decide +kernel
theorem dX6_feed_84 : decode cX6_feed 84 = .ok (.invokevirtual 71, 3) := by decide +kernel
theorem dX6_feed_87 : decode cX6_feed 87 = .ok (.aload_n 0, 1) := by decide +kernel
theorem dX6_feed_88 : decode cX6_feed 88 = .ok (.getfield 10, 3) := by decide +kernel
theorem dX6_feed_91 : decode cX6_feed 91 = .ok (.getfield 68, 3) := by decide +kernel
theorem dX6_feed_94 : decode cX6_feed 94 = .ok (.ireturn, 1) := by decide +kernel
theorem dX6_end_0 : decode cX6_end 0 = .ok (.iload_n 1, 1) := by decide +kernel
theorem dX6_end_1 : decode cX6_end 1 = .ok (.ifCond .lt 14, 3) := by decide +kernel
theorem dX6_end_4 : decode cX6_end 4 = .ok (.iload_n 1, 1) := by decide +kernel
theorem dX6_end_5 : decode cX6_end 5 = .ok (.aload_n 0, 1) := by decide +kernel
theorem dX6_end_6 : decode cX6_end 6 = .ok (.getfield 10, 3) := by decide +kernel
theorem dX6_end_9 : decode cX6_end 9 = .ok (.getfield 68, 3) := by decide +kernel
theorem dX6_end_12 : decode cX6_end 12 = .ok (.if_icmp .le 5, 3) := by decide +kernel
theorem dX6_end_15 : decode cX6_end 15 = .ok (.iconst 0, 1) := by decide +kernel
theorem dX6_end_16 : decode cX6_end 16 = .ok (.ireturn, 1) := by decide +kernel
theorem dX6_end_17 : decode cX6_end 17 = .ok (.aload_n 0, 1) := by decide +kernel
theorem dX6_end_18 : decode cX6_end 18 = .ok (.getfield 10, 3) := by decide +kernel
theorem dX6_end_21 : decode cX6_end 21 = .ok (.iload_n 1, 1) := by decide +kernel
theorem dX6_end_22 : decode cX6_end 22 = .ok (.putfield 68, 3) := by decide +kernel
theorem dX6_end_25 : decode cX6_end 25 = .ok (.iconst 1, 1) := by decide +kernel
theorem dX6_end_26 : decode cX6_end 26 = .ok (.ireturn, 1) := by decide +kernel
theorem dX6_fault_0 : decode cX6_fault 0 = .ok (.aload_n 0, 1) := by decide +kernel
theorem dX6_fault_1 : decode cX6_fault 1 = .ok (.getfield 10, 3) := by decide +kernel
theorem dX6_fault_4 : decode cX6_fault 4 = .ok (.aload_n 0, 1) := by decide +kernel
theorem dX6_fault_5 : decode cX6_fault 5 = .ok (.getfield 23, 3) := by decide +kernel
theorem dX6_fault_8 : decode cX6_fault 8 = .ok (.invokevirtual 75, 3) := by decide +kernel
theorem dX6_fault_11 : decode cX6_fault 11 = .ok (.ireturn, 1) := by decide +kernel
theorem dX6_cover_0 : decode cX6_cover 0 = .ok (.aload_n 0, 1) := by decide +kernel
theorem dX6_cover_1 : decode cX6_cover 1 = .ok (.getfield 57, 3) := by decide +kernel
theorem dX6_cover_4 : decode cX6_cover 4 = .ok (.bipush 6, 2) := by decide +kernel
theorem dX6_cover_6 : decode cX6_cover 6 = .ok (.if_icmp .ge 18, 3) := by decide +kernel
theorem dX6_cover_9 : decode cX6_cover 9 = .ok (.aload_n 0, 1) := by decide +kernel
theorem dX6_cover_10 : decode cX6_cover 10 = .ok (.getfield 10, 3) := by decide +kernel
theorem dX6_cover_13 : decode cX6_cover 13 = .ok (.aload_n 0, 1) := by decide +kernel
theorem dX6_cover_14 : decode cX6_cover 14 = .ok (.getfield 23, 3) := by decide +kernel
theorem dX6_cover_17 : decode cX6_cover 17 = .ok (.invokevirtual 75, 3) := by decide +kernel
theorem dX6_cover_20 : decode cX6_cover 20 = .ok (.iconst (-1), 1) := by decide +kernel
theorem dX6_cover_21 : decode cX6_cover 21 = .ok (.if_icmp .eq 5, 3) := by decide +kernel
theorem dX6_cover_24 : decode cX6_cover 24 = .ok (.iconst (-1), 1) := by decide +kernel
theorem dX6_cover_25 : decode cX6_cover 25 = .ok (.ireturn, 1) := by decide +kernel
theorem dX6_cover_26 : decode cX6_cover 26 = .ok (.aload_n 0, 1) := by decide +kernel
theorem dX6_cover_27 : decode cX6_cover 27 = .ok (.getfield 18, 3) := by decide +kernel
theorem dX6_cover_30 : decode cX6_cover 30 = .ok (.aload_n 0, 1) := by decide +kernel
theorem dX6_cover_31 : decode cX6_cover 31 = .ok (.getfield 57, 3) := by decide +kernel
theorem dX6_cover_34 : decode cX6_cover 34 = .ok (.aaload, 1) := by decide +kernel
theorem dX6_cover_35 : decode cX6_cover 35 = .ok (.astore_n 1, 1) := by decide +kernel
theorem dX6_cover_36 : decode cX6_cover 36 = .ok (.aload_n 1, 1) := by decide +kernel
theorem dX6_cover_37 : decode cX6_cover 37 = .ok (.ifnonnull 5, 3) := by decide +kernel
theorem dX6_cover_40 : decode cX6_cover 40 = .ok (.iconst (-1), 1) := by decide +kernel
theorem dX6_cover_41 : decode cX6_cover 41 = .ok (.ireturn, 1) := by decide +kernel
theorem dX6_cover_42 : decode cX6_cover 42 = .ok (.aload_n 1, 1) := by decide +kernel
theorem dX6_cover_43 : decode cX6_cover 43 = .ok (.aload_n 0, 1) := by decide +kernel
theorem dX6_cover_44 : decode cX6_cover 44 = .ok (.getfield 23, 3) := by decide +kernel
theorem dX6_cover_47 : decode cX6_cover 47 = .ok (.invokevirtual 79, 3) := by decide +kernel
theorem dX6_cover_50 : decode cX6_cover 50 = .ok (.aload_n 0, 1) := by decide +kernel
theorem dX6_cover_51 : decode cX6_cover 51 = .ok (.getfield 10, 3) := by decide +kernel
theorem dX6_cover_54 : decode cX6_cover 54 = .ok (.iconst 0, 1) := by decide +kernel
theorem dX6_cover_55 : decode cX6_cover 55 = .ok (.putfield 68, 3) := by decide +kernel
theorem dX6_cover_58 : decode cX6_cover 58 = .ok (.aload_n 0, 1) := by decide +kernel
theorem dX6_cover_59 : decode cX6_cover 59 = .ok (.dup, 1) := by decide +kernel
theorem dX6_cover_60 : decode cX6_cover 60 = .ok (.getfield 57, 3) := by decide +kernel
theorem dX6_cover_63 : decode cX6_cover 63 = .ok (.iconst 1, 1) := by decide +kernel
theorem dX6_cover_64 : decode cX6_cover 64 = .ok (.iadd, 1) := by decide +kernel
theorem dX6_cover_65 : decode cX6_cover 65 = .ok (.putfield 57, 3) := by decide +kernel
theorem dX6_cover_68 : decode cX6_cover 68 = .ok (.aload_n 0, 1) := by decide +kernel
theorem dX6_cover_69 : decode cX6_cover 69 = .ok (.getfield 57, 3) := by decide +kernel
theorem dX6_cover_72 : decode cX6_cover 72 = .ok (.iconst 1, 1) := by decide +kernel
theorem dX6_cover_73 : decode cX6_cover 73 = .ok (.isub, 1) := by decide +kernel
theorem dX6_cover_74 : decode cX6_cover 74 = .ok (.ireturn, 1) := by decide +kernel
theorem dX6_word_0 : decode cX6_word 0 = .ok (.aload_n 0, 1) := by decide +kernel
theorem dX6_word_1 : decode cX6_word 1 = .ok (.iload_n 1, 1) := by decide +kernel
theorem dX6_word_2 : decode cX6_word 2 = .ok (.invokevirtual 83, 3) := by decide +kernel
theorem dX6_word_5 : decode cX6_word 5 = .ok (.astore_n 3, 1) := by decide +kernel
theorem dX6_word_6 : decode cX6_word 6 = .ok (.aload_n 3, 1) := by decide +kernel
theorem dX6_word_7 : decode cX6_word 7 = .ok (.ifnull 13, 3) := by decide +kernel
theorem dX6_word_10 : decode cX6_word 10 = .ok (.iload_n 2, 1) := by decide +kernel
theorem dX6_word_11 : decode cX6_word 11 = .ok (.iconst 0, 1) := by decide +kernel
theorem dX6_word_12 : decode cX6_word 12 = .ok (.bipush 9, 2) := by decide +kernel
theorem dX6_word_14 : decode cX6_word 14 = .ok (.invokestatic 87, 3) := by decide +kernel
theorem dX6_word_17 : decode cX6_word 17 = .ok (.ifCond .ne 11, 3) := by decide +kernel
theorem dX6_word_20 : decode cX6_word 20 = .ok (.new 91, 3) := by decide +kernel
theorem dX6_word_23 : decode cX6_word 23 = .ok (.dup, 1) := by decide +kernel
theorem dX6_word_24 : decode cX6_word 24 = .ok (.invokespecial 93, 3) := by decide +kernel
theorem dX6_word_27 : decode cX6_word 27 = .ok (.athrow, 1) := by decide +kernel
theorem dX6_word_28 : decode cX6_word 28 = .ok (.aload_n 3, 1) := by decide +kernel
theorem dX6_word_29 : decode cX6_word 29 = .ok (.getfield 94, 3) := by decide +kernel
theorem dX6_word_32 : decode cX6_word 32 = .ok (.iload_n 2, 1) := by decide +kernel
theorem dX6_word_33 : decode cX6_word 33 = .ok (.iaload, 1) := by decide +kernel
theorem dX6_word_34 : decode cX6_word 34 = .ok (.ireturn, 1) := by decide +kernel
theorem dX6_loss_0 : decode cX6_loss 0 = .ok (.iload_n 2, 1) := by decide +kernel
theorem dX6_loss_1 : decode cX6_loss 1 = .ok (.iconst 0, 1) := by decide +kernel
theorem dX6_loss_2 : decode cX6_loss 2 = .ok (.sipush 999, 3) := by decide +kernel
theorem dX6_loss_5 : decode cX6_loss 5 = .ok (.invokestatic 87, 3) := by decide +kernel
theorem dX6_loss_8 : decode cX6_loss 8 = .ok (.ifCond .eq 26, 3) := by decide +kernel
theorem dX6_loss_11 : decode cX6_loss 11 = .ok (.iload_n 3, 1) := by decide +kernel
theorem dX6_loss_12 : decode cX6_loss 12 = .ok (.iconst 0, 1) := by decide +kernel
theorem dX6_loss_13 : decode cX6_loss 13 = .ok (.bipush 99, 2) := by decide +kernel
theorem dX6_loss_15 : decode cX6_loss 15 = .ok (.invokestatic 87, 3) := by decide +kernel
theorem dX6_loss_18 : decode cX6_loss 18 = .ok (.ifCond .eq 16, 3) := by decide +kernel
theorem dX6_loss_21 : decode cX6_loss 21 = .ok (.iload_n 2, 1) := by decide +kernel
theorem dX6_loss_22 : decode cX6_loss 22 = .ok (.iload_n 3, 1) := by decide +kernel
theorem dX6_loss_23 : decode cX6_loss 23 = .ok (.iadd, 1) := by decide +kernel
theorem dX6_loss_24 : decode cX6_loss 24 = .ok (.sipush 999, 3) := by decide +kernel
theorem dX6_loss_27 : decode cX6_loss 27 = .ok (.if_icmp .gt 7, 3) := by decide +kernel
theorem dX6_loss_30 : decode cX6_loss 30 = .ok (.iconst 1, 1) := by decide +kernel
theorem dX6_loss_31 : decode cX6_loss 31 = .ok (.goto 4, 3) := by decide +kernel
theorem dX6_loss_34 : decode cX6_loss 34 = .ok (.iconst 0, 1) := by decide +kernel
theorem dX6_loss_35 : decode cX6_loss 35 = .ok (.istore 7, 2) := by decide +kernel
theorem dX6_loss_37 : decode cX6_loss 37 = .ok (.iload 4, 2) := by decide +kernel
theorem dX6_loss_39 : decode cX6_loss 39 = .ok (.iconst 0, 1) := by decide +kernel
theorem dX6_loss_40 : decode cX6_loss 40 = .ok (.bipush 99, 2) := by decide +kernel
theorem dX6_loss_42 : decode cX6_loss 42 = .ok (.invokestatic 87, 3) := by decide +kernel
theorem dX6_loss_45 : decode cX6_loss 45 = .ok (.ifCond .eq 18, 3) := by decide +kernel
theorem dX6_loss_48 : decode cX6_loss 48 = .ok (.iload 5, 2) := by decide +kernel
theorem dX6_loss_50 : decode cX6_loss 50 = .ok (.iconst 0, 1) := by decide +kernel
theorem dX6_loss_51 : decode cX6_loss 51 = .ok (.bipush 99, 2) := by decide +kernel
theorem dX6_loss_53 : decode cX6_loss 53 = .ok (.invokestatic 87, 3) := by decide +kernel
theorem dX6_loss_56 : decode cX6_loss 56 = .ok (.ifCond .eq 7, 3) := by decide +kernel
theorem dX6_loss_59 : decode cX6_loss 59 = .ok (.iconst 1, 1) := by decide +kernel
theorem dX6_loss_60 : decode cX6_loss 60 = .ok (.goto 4, 3) := by decide +kernel
theorem dX6_loss_63 : decode cX6_loss 63 = .ok (.iconst 0, 1) := by decide +kernel
theorem dX6_loss_64 : decode cX6_loss 64 = .ok (.istore 8, 2) := by decide +kernel
theorem dX6_loss_66 : decode cX6_loss 66 = .ok (.iload 6, 2) := by decide +kernel
theorem dX6_loss_68 : decode cX6_loss 68 = .ok (.iconst 1, 1) := by decide +kernel
theorem dX6_loss_69 : decode cX6_loss 69 = .ok (.bipush 63, 2) := by decide +kernel
theorem dX6_loss_71 : decode cX6_loss 71 = .ok (.invokestatic 87, 3) := by decide +kernel
theorem dX6_loss_74 : decode cX6_loss 74 = .ok (.istore 9, 2) := by decide +kernel
theorem dX6_loss_76 : decode cX6_loss 76 = .ok (.aload_n 0, 1) := by decide +kernel
theorem dX6_loss_77 : decode cX6_loss 77 = .ok (.getfield 30, 3) := by decide +kernel
theorem dX6_loss_80 : decode cX6_loss 80 = .ok (.getfield 97, 3) := by decide +kernel
theorem dX6_loss_83 : decode cX6_loss 83 = .ok (.bipush 12, 2) := by decide +kernel
theorem dX6_loss_85 : decode cX6_loss 85 = .ok (.if_icmp .ge 28, 3) := by decide +kernel
theorem dX6_loss_88 : decode cX6_loss 88 = .ok (.iload_n 1, 1) := by decide +kernel
theorem dX6_loss_89 : decode cX6_loss 89 = .ok (.iconst 1, 1) := by decide +kernel
theorem dX6_loss_90 : decode cX6_loss 90 = .ok (.bipush 99, 2) := by decide +kernel
theorem dX6_loss_92 : decode cX6_loss 92 = .ok (.invokestatic 87, 3) := by decide +kernel
theorem dX6_loss_95 : decode cX6_loss 95 = .ok (.ifCond .eq 18, 3) := by decide +kernel
theorem dX6_loss_98 : decode cX6_loss 98 = .ok (.iload 7, 2) := by decide +kernel
theorem dX6_loss_100 : decode cX6_loss 100 = .ok (.ifCond .eq 13, 3) := by decide +kernel
theorem dX6_loss_103 : decode cX6_loss 103 = .ok (.iload 8, 2) := by decide +kernel
theorem dX6_loss_105 : decode cX6_loss 105 = .ok (.ifCond .eq 8, 3) := by decide +kernel
theorem dX6_loss_108 : decode cX6_loss 108 = .ok (.iload 9, 2) := by decide +kernel
theorem dX6_loss_110 : decode cX6_loss 110 = .ok (.ifCond .ne 5, 3) := by decide +kernel
theorem dX6_loss_113 : decode cX6_loss 113 = .ok (.iconst (-1), 1) := by decide +kernel
theorem dX6_loss_114 : decode cX6_loss 114 = .ok (.ireturn, 1) := by decide +kernel
theorem dX6_loss_115 : decode cX6_loss 115 = .ok (.aload_n 0, 1) := by decide +kernel
theorem dX6_loss_116 : decode cX6_loss 116 = .ok (.getfield 30, 3) := by decide +kernel
theorem dX6_loss_119 : decode cX6_loss 119 = .ok (.getfield 97, 3) := by decide +kernel
theorem dX6_loss_122 : decode cX6_loss 122 = .ok (.istore 10, 2) := by decide +kernel
theorem dX6_loss_124 : decode cX6_loss 124 = .ok (.aload_n 0, 1) := by decide +kernel
theorem dX6_loss_125 : decode cX6_loss 125 = .ok (.getfield 30, 3) := by decide +kernel
theorem dX6_loss_128 : decode cX6_loss 128 = .ok (.getfield 100, 3) := by decide +kernel
theorem dX6_loss_131 : decode cX6_loss 131 = .ok (.iload 10, 2) := by decide +kernel
theorem dX6_loss_133 : decode cX6_loss 133 = .ok (.iload_n 1, 1) := by decide +kernel
theorem dX6_loss_134 : decode cX6_loss 134 = .ok (.iastore, 1) := by decide +kernel
theorem dX6_loss_135 : decode cX6_loss 135 = .ok (.aload_n 0, 1) := by decide +kernel
theorem dX6_loss_136 : decode cX6_loss 136 = .ok (.getfield 30, 3) := by decide +kernel
theorem dX6_loss_139 : decode cX6_loss 139 = .ok (.getfield 103, 3) := by decide +kernel
theorem dX6_loss_142 : decode cX6_loss 142 = .ok (.iload 10, 2) := by decide +kernel
theorem dX6_loss_144 : decode cX6_loss 144 = .ok (.iload_n 2, 1) := by decide +kernel
theorem dX6_loss_145 : decode cX6_loss 145 = .ok (.iastore, 1) := by decide +kernel
theorem dX6_loss_146 : decode cX6_loss 146 = .ok (.aload_n 0, 1) := by decide +kernel
theorem dX6_loss_147 : decode cX6_loss 147 = .ok (.getfield 30, 3) := by decide +kernel
theorem dX6_loss_150 : decode cX6_loss 150 = .ok (.getfield 106, 3) := by decide +kernel
theorem dX6_loss_153 : decode cX6_loss 153 = .ok (.iload 10, 2) := by decide +kernel
theorem dX6_loss_155 : decode cX6_loss 155 = .ok (.iload_n 2, 1) := by decide +kernel
theorem dX6_loss_156 : decode cX6_loss 156 = .ok (.iload_n 3, 1) := by decide +kernel
theorem dX6_loss_157 : decode cX6_loss 157 = .ok (.iadd, 1) := by decide +kernel
theorem dX6_loss_158 : decode cX6_loss 158 = .ok (.iastore, 1) := by decide +kernel
theorem dX6_loss_159 : decode cX6_loss 159 = .ok (.aload_n 0, 1) := by decide +kernel
theorem dX6_loss_160 : decode cX6_loss 160 = .ok (.getfield 30, 3) := by decide +kernel
theorem dX6_loss_163 : decode cX6_loss 163 = .ok (.getfield 109, 3) := by decide +kernel
theorem dX6_loss_166 : decode cX6_loss 166 = .ok (.iload 10, 2) := by decide +kernel
theorem dX6_loss_168 : decode cX6_loss 168 = .ok (.iload 4, 2) := by decide +kernel
theorem dX6_loss_170 : decode cX6_loss 170 = .ok (.iastore, 1) := by decide +kernel
theorem dX6_loss_171 : decode cX6_loss 171 = .ok (.aload_n 0, 1) := by decide +kernel
theorem dX6_loss_172 : decode cX6_loss 172 = .ok (.getfield 30, 3) := by decide +kernel
theorem dX6_loss_175 : decode cX6_loss 175 = .ok (.getfield 112, 3) := by decide +kernel
theorem dX6_loss_178 : decode cX6_loss 178 = .ok (.iload 10, 2) := by decide +kernel
theorem dX6_loss_180 : decode cX6_loss 180 = .ok (.iload 5, 2) := by decide +kernel
theorem dX6_loss_182 : decode cX6_loss 182 = .ok (.iastore, 1) := by decide +kernel
theorem dX6_loss_183 : decode cX6_loss 183 = .ok (.aload_n 0, 1) := by decide +kernel
theorem dX6_loss_184 : decode cX6_loss 184 = .ok (.getfield 30, 3) := by decide +kernel
theorem dX6_loss_187 : decode cX6_loss 187 = .ok (.getfield 115, 3) := by decide +kernel
theorem dX6_loss_190 : decode cX6_loss 190 = .ok (.iload 10, 2) := by decide +kernel
theorem dX6_loss_192 : decode cX6_loss 192 = .ok (.iload 6, 2) := by decide +kernel
theorem dX6_loss_194 : decode cX6_loss 194 = .ok (.iastore, 1) := by decide +kernel
theorem dX6_loss_195 : decode cX6_loss 195 = .ok (.aload_n 0, 1) := by decide +kernel
theorem dX6_loss_196 : decode cX6_loss 196 = .ok (.getfield 30, 3) := by decide +kernel
theorem dX6_loss_199 : decode cX6_loss 199 = .ok (.iload 10, 2) := by decide +kernel
theorem dX6_loss_201 : decode cX6_loss 201 = .ok (.iconst 1, 1) := by decide +kernel
theorem dX6_loss_202 : decode cX6_loss 202 = .ok (.iadd, 1) := by decide +kernel
theorem dX6_loss_203 : decode cX6_loss 203 = .ok (.putfield 97, 3) := by decide +kernel
theorem dX6_loss_206 : decode cX6_loss 206 = .ok (.iload 10, 2) := by decide +kernel
theorem dX6_loss_208 : decode cX6_loss 208 = .ok (.ireturn, 1) := by decide +kernel
theorem dX6_may_0 : decode cX6_may 0 = .ok (.aload_n 0, 1) := by decide +kernel
theorem dX6_may_1 : decode cX6_may 1 = .ok (.iload_n 1, 1) := by decide +kernel
theorem dX6_may_2 : decode cX6_may 2 = .ok (.invokevirtual 83, 3) := by decide +kernel
theorem dX6_may_5 : decode cX6_may 5 = .ok (.astore_n 3, 1) := by decide +kernel
theorem dX6_may_6 : decode cX6_may 6 = .ok (.aload_n 3, 1) := by decide +kernel
theorem dX6_may_7 : decode cX6_may 7 = .ok (.ifnull 18, 3) := by decide +kernel
theorem dX6_may_10 : decode cX6_may 10 = .ok (.iload_n 2, 1) := by decide +kernel
theorem dX6_may_11 : decode cX6_may 11 = .ok (.ifCond .eq 14, 3) := by decide +kernel
theorem dX6_may_14 : decode cX6_may 14 = .ok (.aload_n 0, 1) := by decide +kernel
theorem dX6_may_15 : decode cX6_may 15 = .ok (.getfield 30, 3) := by decide +kernel
theorem dX6_may_18 : decode cX6_may 18 = .ok (.iload_n 2, 1) := by decide +kernel
theorem dX6_may_19 : decode cX6_may 19 = .ok (.invokevirtual 118, 3) := by decide +kernel
theorem dX6_may_22 : decode cX6_may 22 = .ok (.ifCond .ne 5, 3) := by decide +kernel
theorem dX6_may_25 : decode cX6_may 25 = .ok (.iconst (-1), 1) := by decide +kernel
theorem dX6_may_26 : decode cX6_may 26 = .ok (.ireturn, 1) := by decide +kernel
theorem dX6_may_27 : decode cX6_may 27 = .ok (.aload_n 0, 1) := by decide +kernel
theorem dX6_may_28 : decode cX6_may 28 = .ok (.getfield 30, 3) := by decide +kernel
theorem dX6_may_31 : decode cX6_may 31 = .ok (.aload_n 3, 1) := by decide +kernel
theorem dX6_may_32 : decode cX6_may 32 = .ok (.iload_n 2, 1) := by decide +kernel
theorem dX6_may_33 : decode cX6_may 33 = .ok (.invokevirtual 122, 3) := by decide +kernel
theorem dX6_may_36 : decode cX6_may 36 = .ok (.ifCond .eq 7, 3) := by decide +kernel
theorem dX6_may_39 : decode cX6_may 39 = .ok (.iconst 1, 1) := by decide +kernel
theorem dX6_may_40 : decode cX6_may 40 = .ok (.goto 4, 3) := by decide +kernel
theorem dX6_may_43 : decode cX6_may 43 = .ok (.iconst 0, 1) := by decide +kernel
theorem dX6_may_44 : decode cX6_may 44 = .ok (.ireturn, 1) := by decide +kernel
theorem dX6_paid_0 : decode cX6_paid 0 = .ok (.aload_n 0, 1) := by decide +kernel
theorem dX6_paid_1 : decode cX6_paid 1 = .ok (.iload_n 1, 1) := by decide +kernel
theorem dX6_paid_2 : decode cX6_paid 2 = .ok (.invokevirtual 83, 3) := by decide +kernel
theorem dX6_paid_5 : decode cX6_paid 5 = .ok (.astore_n 3, 1) := by decide +kernel
theorem dX6_paid_6 : decode cX6_paid 6 = .ok (.aload_n 3, 1) := by decide +kernel
theorem dX6_paid_7 : decode cX6_paid 7 = .ok (.ifnull 18, 3) := by decide +kernel
theorem dX6_paid_10 : decode cX6_paid 10 = .ok (.iload_n 2, 1) := by decide +kernel
theorem dX6_paid_11 : decode cX6_paid 11 = .ok (.ifCond .eq 14, 3) := by decide +kernel
theorem dX6_paid_14 : decode cX6_paid 14 = .ok (.aload_n 0, 1) := by decide +kernel
theorem dX6_paid_15 : decode cX6_paid 15 = .ok (.getfield 30, 3) := by decide +kernel
theorem dX6_paid_18 : decode cX6_paid 18 = .ok (.iload_n 2, 1) := by decide +kernel
theorem dX6_paid_19 : decode cX6_paid 19 = .ok (.invokevirtual 118, 3) := by decide +kernel
theorem dX6_paid_22 : decode cX6_paid 22 = .ok (.ifCond .ne 5, 3) := by decide +kernel
theorem dX6_paid_25 : decode cX6_paid 25 = .ok (.iconst (-1), 1) := by decide +kernel
theorem dX6_paid_26 : decode cX6_paid 26 = .ok (.ireturn, 1) := by decide +kernel
theorem dX6_paid_27 : decode cX6_paid 27 = .ok (.aload_n 3, 1) := by decide +kernel
theorem dX6_paid_28 : decode cX6_paid 28 = .ok (.aload_n 0, 1) := by decide +kernel
theorem dX6_paid_29 : decode cX6_paid 29 = .ok (.getfield 30, 3) := by decide +kernel
theorem dX6_paid_32 : decode cX6_paid 32 = .ok (.iload_n 2, 1) := by decide +kernel
theorem dX6_paid_33 : decode cX6_paid 33 = .ok (.invokevirtual 126, 3) := by decide +kernel
theorem dX6_paid_36 : decode cX6_paid 36 = .ok (.invokevirtual 129, 3) := by decide +kernel
theorem dX6_paid_39 : decode cX6_paid 39 = .ok (.ireturn, 1) := by decide +kernel
theorem dX6_put_0 : decode cX6_put 0 = .ok (.aload_n 0, 1) := by decide +kernel
theorem dX6_put_1 : decode cX6_put 1 = .ok (.getfield 30, 3) := by decide +kernel
theorem dX6_put_4 : decode cX6_put 4 = .ok (.iload_n 1, 1) := by decide +kernel
theorem dX6_put_5 : decode cX6_put 5 = .ok (.invokevirtual 132, 3) := by decide +kernel
theorem dX6_put_8 : decode cX6_put 8 = .ok (.ifCond .eq 13, 3) := by decide +kernel
theorem dX6_put_11 : decode cX6_put 11 = .ok (.iload_n 2, 1) := by decide +kernel
theorem dX6_put_12 : decode cX6_put 12 = .ok (.iconst 0, 1) := by decide +kernel
theorem dX6_put_13 : decode cX6_put 13 = .ok (.bipush 15, 2) := by decide +kernel
theorem dX6_put_15 : decode cX6_put 15 = .ok (.invokestatic 87, 3) := by decide +kernel
theorem dX6_put_18 : decode cX6_put 18 = .ok (.ifCond .ne 5, 3) := by decide +kernel
theorem dX6_put_21 : decode cX6_put 21 = .ok (.iconst 0, 1) := by decide +kernel
theorem dX6_put_22 : decode cX6_put 22 = .ok (.ireturn, 1) := by decide +kernel
theorem dX6_put_23 : decode cX6_put 23 = .ok (.aload_n 0, 1) := by decide +kernel
theorem dX6_put_24 : decode cX6_put 24 = .ok (.getfield 39, 3) := by decide +kernel
theorem dX6_put_27 : decode cX6_put 27 = .ok (.getfield 135, 3) := by decide +kernel
theorem dX6_put_30 : decode cX6_put 30 = .ok (.iload_n 1, 1) := by decide +kernel
theorem dX6_put_31 : decode cX6_put 31 = .ok (.iload_n 2, 1) := by decide +kernel
theorem dX6_put_32 : decode cX6_put 32 = .ok (.iastore, 1) := by decide +kernel
theorem dX6_put_33 : decode cX6_put 33 = .ok (.iconst 1, 1) := by decide +kernel
theorem dX6_put_34 : decode cX6_put 34 = .ok (.ireturn, 1) := by decide +kernel
theorem dX6_judge_0 : decode cX6_judge 0 = .ok (.aload_n 0, 1) := by decide +kernel
theorem dX6_judge_1 : decode cX6_judge 1 = .ok (.iload_n 1, 1) := by decide +kernel
theorem dX6_judge_2 : decode cX6_judge 2 = .ok (.invokevirtual 83, 3) := by decide +kernel
theorem dX6_judge_5 : decode cX6_judge 5 = .ok (.astore_n 2, 1) := by decide +kernel
theorem dX6_judge_6 : decode cX6_judge 6 = .ok (.aload_n 2, 1) := by decide +kernel
theorem dX6_judge_7 : decode cX6_judge 7 = .ok (.ifnonnull 7, 3) := by decide +kernel
theorem dX6_judge_10 : decode cX6_judge 10 = .ok (.iconst (-1), 1) := by decide +kernel
theorem dX6_judge_11 : decode cX6_judge 11 = .ok (.goto 11, 3) := by decide +kernel
theorem dX6_judge_14 : decode cX6_judge 14 = .ok (.aload_n 0, 1) := by decide +kernel
theorem dX6_judge_15 : decode cX6_judge 15 = .ok (.getfield 39, 3) := by decide +kernel
theorem dX6_judge_18 : decode cX6_judge 18 = .ok (.aload_n 2, 1) := by decide +kernel
theorem dX6_judge_19 : decode cX6_judge 19 = .ok (.invokevirtual 138, 3) := by decide +kernel
theorem dX6_judge_22 : decode cX6_judge 22 = .ok (.ireturn, 1) := by decide +kernel
theorem dX6_brings_0 : decode cX6_brings 0 = .ok (.aload_n 0, 1) := by decide +kernel
theorem dX6_brings_1 : decode cX6_brings 1 = .ok (.iload_n 1, 1) := by decide +kernel
theorem dX6_brings_2 : decode cX6_brings 2 = .ok (.invokevirtual 83, 3) := by decide +kernel
theorem dX6_brings_5 : decode cX6_brings 5 = .ok (.astore_n 3, 1) := by decide +kernel
theorem dX6_brings_6 : decode cX6_brings 6 = .ok (.aload_n 3, 1) := by decide +kernel
theorem dX6_brings_7 : decode cX6_brings 7 = .ok (.ifnull 24, 3) := by decide +kernel
theorem dX6_brings_10 : decode cX6_brings 10 = .ok (.iload_n 2, 1) := by decide +kernel
theorem dX6_brings_11 : decode cX6_brings 11 = .ok (.iconst 0, 1) := by decide +kernel
theorem dX6_brings_12 : decode cX6_brings 12 = .ok (.iconst 3, 1) := by decide +kernel
theorem dX6_brings_13 : decode cX6_brings 13 = .ok (.invokestatic 87, 3) := by decide +kernel
theorem dX6_brings_16 : decode cX6_brings 16 = .ok (.ifCond .eq 15, 3) := by decide +kernel
theorem dX6_brings_19 : decode cX6_brings 19 = .ok (.aload_n 0, 1) := by decide +kernel
theorem dX6_brings_20 : decode cX6_brings 20 = .ok (.getfield 39, 3) := by decide +kernel
theorem dX6_brings_23 : decode cX6_brings 23 = .ok (.aload_n 3, 1) := by decide +kernel
theorem dX6_brings_24 : decode cX6_brings 24 = .ok (.invokevirtual 138, 3) := by decide +kernel
theorem dX6_brings_27 : decode cX6_brings 27 = .ok (.iconst (-1), 1) := by decide +kernel
theorem dX6_brings_28 : decode cX6_brings 28 = .ok (.if_icmp .eq 6, 3) := by decide +kernel
theorem dX6_brings_31 : decode cX6_brings 31 = .ok (.ldc 141, 2) := by decide +kernel
theorem dX6_brings_33 : decode cX6_brings 33 = .ok (.ireturn, 1) := by decide +kernel
theorem dX6_brings_34 : decode cX6_brings 34 = .ok (.aload_n 0, 1) := by decide +kernel
theorem dX6_brings_35 : decode cX6_brings 35 = .ok (.getfield 39, 3) := by decide +kernel
theorem dX6_brings_38 : decode cX6_brings 38 = .ok (.aload_n 3, 1) := by decide +kernel
theorem dX6_brings_39 : decode cX6_brings 39 = .ok (.invokevirtual 142, 3) := by decide +kernel
theorem dX6_brings_42 : decode cX6_brings 42 = .ok (.iload_n 2, 1) := by decide +kernel
theorem dX6_brings_43 : decode cX6_brings 43 = .ok (.iconst 2, 1) := by decide +kernel
theorem dX6_brings_44 : decode cX6_brings 44 = .ok (.if_icmp .ne 11, 3) := by decide +kernel
theorem dX6_brings_47 : decode cX6_brings 47 = .ok (.aload_n 0, 1) := by decide +kernel
theorem dX6_brings_48 : decode cX6_brings 48 = .ok (.getfield 39, 3) := by decide +kernel
theorem dX6_brings_51 : decode cX6_brings 51 = .ok (.getfield 145, 3) := by decide +kernel
theorem dX6_brings_54 : decode cX6_brings 54 = .ok (.ireturn, 1) := by decide +kernel
theorem dX6_brings_55 : decode cX6_brings 55 = .ok (.iload_n 2, 1) := by decide +kernel
theorem dX6_brings_56 : decode cX6_brings 56 = .ok (.iconst 3, 1) := by decide +kernel
theorem dX6_brings_57 : decode cX6_brings 57 = .ok (.if_icmp .ne 11, 3) := by decide +kernel
theorem dX6_brings_60 : decode cX6_brings 60 = .ok (.aload_n 0, 1) := by decide +kernel
theorem dX6_brings_61 : decode cX6_brings 61 = .ok (.getfield 39, 3) := by decide +kernel
theorem dX6_brings_64 : decode cX6_brings 64 = .ok (.getfield 148, 3) := by decide +kernel
theorem dX6_brings_67 : decode cX6_brings 67 = .ok (.ireturn, 1) := by decide +kernel
theorem dX6_brings_68 : decode cX6_brings 68 = .ok (.aload_n 3, 1) := by decide +kernel
theorem dX6_brings_69 : decode cX6_brings 69 = .ok (.aload_n 0, 1) := by decide +kernel
theorem dX6_brings_70 : decode cX6_brings 70 = .ok (.getfield 39, 3) := by decide +kernel
theorem dX6_brings_73 : decode cX6_brings 73 = .ok (.getfield 151, 3) := by decide +kernel
theorem dX6_brings_76 : decode cX6_brings 76 = .ok (.invokevirtual 154, 3) := by decide +kernel
theorem dX6_brings_79 : decode cX6_brings 79 = .ok (.istore 4, 2) := by decide +kernel
theorem dX6_brings_81 : decode cX6_brings 81 = .ok (.iload_n 2, 1) := by decide +kernel
theorem dX6_brings_82 : decode cX6_brings 82 = .ok (.ifCond .ne 8, 3) := by decide +kernel
theorem dX6_brings_85 : decode cX6_brings 85 = .ok (.iload 4, 2) := by decide +kernel
theorem dX6_brings_87 : decode cX6_brings 87 = .ok (.goto 9, 3) := by decide +kernel
theorem dX6_brings_90 : decode cX6_brings 90 = .ok (.aload_n 3, 1) := by decide +kernel
theorem dX6_brings_91 : decode cX6_brings 91 = .ok (.iload 4, 2) := by decide +kernel
theorem dX6_brings_93 : decode cX6_brings 93 = .ok (.invokevirtual 157, 3) := by decide +kernel
theorem dX6_brings_96 : decode cX6_brings 96 = .ok (.ireturn, 1) := by decide +kernel
theorem dX6_year_0 : decode cX6_year 0 = .ok (.aload_n 0, 1) := by decide +kernel
theorem dX6_year_1 : decode cX6_year 1 = .ok (.getfield 30, 3) := by decide +kernel
theorem dX6_year_4 : decode cX6_year 4 = .ok (.iload_n 1, 1) := by decide +kernel
theorem dX6_year_5 : decode cX6_year 5 = .ok (.invokevirtual 132, 3) := by decide +kernel
theorem dX6_year_8 : decode cX6_year 8 = .ok (.ifCond .eq 14, 3) := by decide +kernel
theorem dX6_year_11 : decode cX6_year 11 = .ok (.iload_n 2, 1) := by decide +kernel
theorem dX6_year_12 : decode cX6_year 12 = .ok (.iconst 0, 1) := by decide +kernel
theorem dX6_year_13 : decode cX6_year 13 = .ok (.sipush 999, 3) := by decide +kernel
theorem dX6_year_16 : decode cX6_year 16 = .ok (.invokestatic 87, 3) := by decide +kernel
theorem dX6_year_19 : decode cX6_year 19 = .ok (.ifCond .ne 5, 3) := by decide +kernel
theorem dX6_year_22 : decode cX6_year 22 = .ok (.iconst (-1), 1) := by decide +kernel
theorem dX6_year_23 : decode cX6_year 23 = .ok (.ireturn, 1) := by decide +kernel
theorem dX6_year_24 : decode cX6_year 24 = .ok (.aload_n 0, 1) := by decide +kernel
theorem dX6_year_25 : decode cX6_year 25 = .ok (.getfield 39, 3) := by decide +kernel
theorem dX6_year_28 : decode cX6_year 28 = .ok (.iload_n 1, 1) := by decide +kernel
theorem dX6_year_29 : decode cX6_year 29 = .ok (.invokevirtual 160, 3) := by decide +kernel
theorem dX6_year_32 : decode cX6_year 32 = .ok (.istore 4, 2) := by decide +kernel
theorem dX6_year_34 : decode cX6_year 34 = .ok (.iload_n 3, 1) := by decide +kernel
theorem dX6_year_35 : decode cX6_year 35 = .ok (.ifCond .ne 22, 3) := by decide +kernel
theorem dX6_year_38 : decode cX6_year 38 = .ok (.aload_n 0, 1) := by decide +kernel
theorem dX6_year_39 : decode cX6_year 39 = .ok (.getfield 30, 3) := by decide +kernel
theorem dX6_year_42 : decode cX6_year 42 = .ok (.iload 4, 2) := by decide +kernel
theorem dX6_year_44 : decode cX6_year 44 = .ok (.invokevirtual 163, 3) := by decide +kernel
theorem dX6_year_47 : decode cX6_year 47 = .ok (.iload_n 2, 1) := by decide +kernel
theorem dX6_year_48 : decode cX6_year 48 = .ok (.if_icmp .ge 7, 3) := by decide +kernel
theorem dX6_year_51 : decode cX6_year 51 = .ok (.iconst 0, 1) := by decide +kernel
theorem dX6_year_52 : decode cX6_year 52 = .ok (.goto 4, 3) := by decide +kernel
theorem dX6_year_55 : decode cX6_year 55 = .ok (.iconst 1, 1) := by decide +kernel
theorem dX6_year_56 : decode cX6_year 56 = .ok (.ireturn, 1) := by decide +kernel
theorem dX6_year_57 : decode cX6_year 57 = .ok (.aload_n 0, 1) := by decide +kernel
theorem dX6_year_58 : decode cX6_year 58 = .ok (.getfield 30, 3) := by decide +kernel
theorem dX6_year_61 : decode cX6_year 61 = .ok (.iload 4, 2) := by decide +kernel
theorem dX6_year_63 : decode cX6_year 63 = .ok (.iload_n 2, 1) := by decide +kernel
theorem dX6_year_64 : decode cX6_year 64 = .ok (.invokevirtual 166, 3) := by decide +kernel
theorem dX6_year_67 : decode cX6_year 67 = .ok (.istore 5, 2) := by decide +kernel
theorem dX6_year_69 : decode cX6_year 69 = .ok (.iload 5, 2) := by decide +kernel
theorem dX6_year_71 : decode cX6_year 71 = .ok (.aload_n 0, 1) := by decide +kernel
theorem dX6_year_72 : decode cX6_year 72 = .ok (.getfield 30, 3) := by decide +kernel
theorem dX6_year_75 : decode cX6_year 75 = .ok (.iload 4, 2) := by decide +kernel
theorem dX6_year_77 : decode cX6_year 77 = .ok (.invokevirtual 126, 3) := by decide +kernel
theorem dX6_year_80 : decode cX6_year 80 = .ok (.iload 5, 2) := by decide +kernel
theorem dX6_year_82 : decode cX6_year 82 = .ok (.isub, 1) := by decide +kernel
theorem dX6_year_83 : decode cX6_year 83 = .ok (.if_icmp .lt 7, 3) := by decide +kernel
theorem dX6_year_86 : decode cX6_year 86 = .ok (.iconst 0, 1) := by decide +kernel
theorem dX6_year_87 : decode cX6_year 87 = .ok (.goto 4, 3) := by decide +kernel
theorem dX6_year_90 : decode cX6_year 90 = .ok (.iconst 1, 1) := by decide +kernel
theorem dX6_year_91 : decode cX6_year 91 = .ok (.ireturn, 1) := by decide +kernel
theorem dX6_most_0 : decode cX6_most 0 = .ok (.aload_n 0, 1) := by decide +kernel
theorem dX6_most_1 : decode cX6_most 1 = .ok (.iload_n 1, 1) := by decide +kernel
theorem dX6_most_2 : decode cX6_most 2 = .ok (.invokevirtual 83, 3) := by decide +kernel
theorem dX6_most_5 : decode cX6_most 5 = .ok (.astore 4, 2) := by decide +kernel
theorem dX6_most_7 : decode cX6_most 7 = .ok (.aload 4, 2) := by decide +kernel
theorem dX6_most_9 : decode cX6_most 9 = .ok (.ifnull 25, 3) := by decide +kernel
theorem dX6_most_12 : decode cX6_most 12 = .ok (.iload_n 3, 1) := by decide +kernel
theorem dX6_most_13 : decode cX6_most 13 = .ok (.iconst 0, 1) := by decide +kernel
theorem dX6_most_14 : decode cX6_most 14 = .ok (.iconst 3, 1) := by decide +kernel
theorem dX6_most_15 : decode cX6_most 15 = .ok (.invokestatic 87, 3) := by decide +kernel
theorem dX6_most_18 : decode cX6_most 18 = .ok (.ifCond .eq 16, 3) := by decide +kernel
theorem dX6_most_21 : decode cX6_most 21 = .ok (.aload_n 0, 1) := by decide +kernel
theorem dX6_most_22 : decode cX6_most 22 = .ok (.getfield 46, 3) := by decide +kernel
theorem dX6_most_25 : decode cX6_most 25 = .ok (.aload 4, 2) := by decide +kernel
theorem dX6_most_27 : decode cX6_most 27 = .ok (.iload_n 2, 1) := by decide +kernel
theorem dX6_most_28 : decode cX6_most 28 = .ok (.invokevirtual 170, 3) := by decide +kernel
theorem dX6_most_31 : decode cX6_most 31 = .ok (.ifCond .ne 6, 3) := by decide +kernel
theorem dX6_most_34 : decode cX6_most 34 = .ok (.ldc 141, 2) := by decide +kernel
theorem dX6_most_36 : decode cX6_most 36 = .ok (.ireturn, 1) := by decide +kernel
theorem dX6_most_37 : decode cX6_most 37 = .ok (.iload_n 3, 1) := by decide +kernel
theorem dX6_most_38 : decode cX6_most 38 = .ok (.ifCond .ne 11, 3) := by decide +kernel
theorem dX6_most_41 : decode cX6_most 41 = .ok (.aload_n 0, 1) := by decide +kernel
theorem dX6_most_42 : decode cX6_most 42 = .ok (.getfield 46, 3) := by decide +kernel
theorem dX6_most_45 : decode cX6_most 45 = .ok (.getfield 173, 3) := by decide +kernel
theorem dX6_most_48 : decode cX6_most 48 = .ok (.ireturn, 1) := by decide +kernel
theorem dX6_most_49 : decode cX6_most 49 = .ok (.iload_n 3, 1) := by decide +kernel
theorem dX6_most_50 : decode cX6_most 50 = .ok (.iconst 1, 1) := by decide +kernel
theorem dX6_most_51 : decode cX6_most 51 = .ok (.if_icmp .ne 11, 3) := by decide +kernel
theorem dX6_most_54 : decode cX6_most 54 = .ok (.aload_n 0, 1) := by decide +kernel
theorem dX6_most_55 : decode cX6_most 55 = .ok (.getfield 46, 3) := by decide +kernel
theorem dX6_most_58 : decode cX6_most 58 = .ok (.getfield 176, 3) := by decide +kernel
theorem dX6_most_61 : decode cX6_most 61 = .ok (.ireturn, 1) := by decide +kernel
theorem dX6_most_62 : decode cX6_most 62 = .ok (.iload_n 3, 1) := by decide +kernel
theorem dX6_most_63 : decode cX6_most 63 = .ok (.iconst 2, 1) := by decide +kernel
theorem dX6_most_64 : decode cX6_most 64 = .ok (.if_icmp .ne 13, 3) := by decide +kernel
theorem dX6_most_67 : decode cX6_most 67 = .ok (.aload_n 0, 1) := by decide +kernel
theorem dX6_most_68 : decode cX6_most 68 = .ok (.getfield 46, 3) := by decide +kernel
theorem dX6_most_71 : decode cX6_most 71 = .ok (.getfield 179, 3) := by decide +kernel
theorem dX6_most_74 : decode cX6_most 74 = .ok (.goto 10, 3) := by decide +kernel
theorem dX6_most_77 : decode cX6_most 77 = .ok (.aload_n 0, 1) := by decide +kernel
theorem dX6_most_78 : decode cX6_most 78 = .ok (.getfield 46, 3) := by decide +kernel
theorem dX6_most_81 : decode cX6_most 81 = .ok (.getfield 182, 3) := by decide +kernel
theorem dX6_most_84 : decode cX6_most 84 = .ok (.ireturn, 1) := by decide +kernel
theorem dX6_net_0 : decode cX6_net 0 = .ok (.aload_n 0, 1) := by decide +kernel
theorem dX6_net_1 : decode cX6_net 1 = .ok (.iload_n 1, 1) := by decide +kernel
theorem dX6_net_2 : decode cX6_net 2 = .ok (.invokevirtual 83, 3) := by decide +kernel
theorem dX6_net_5 : decode cX6_net 5 = .ok (.astore 4, 2) := by decide +kernel
theorem dX6_net_7 : decode cX6_net 7 = .ok (.aload 4, 2) := by decide +kernel
theorem dX6_net_9 : decode cX6_net 9 = .ok (.ifnull 25, 3) := by decide +kernel
theorem dX6_net_12 : decode cX6_net 12 = .ok (.iload_n 3, 1) := by decide +kernel
theorem dX6_net_13 : decode cX6_net 13 = .ok (.iconst 0, 1) := by decide +kernel
theorem dX6_net_14 : decode cX6_net 14 = .ok (.iconst 1, 1) := by decide +kernel
theorem dX6_net_15 : decode cX6_net 15 = .ok (.invokestatic 87, 3) := by decide +kernel
theorem dX6_net_18 : decode cX6_net 18 = .ok (.ifCond .eq 16, 3) := by decide +kernel
theorem dX6_net_21 : decode cX6_net 21 = .ok (.aload_n 0, 1) := by decide +kernel
theorem dX6_net_22 : decode cX6_net 22 = .ok (.getfield 46, 3) := by decide +kernel
theorem dX6_net_25 : decode cX6_net 25 = .ok (.aload 4, 2) := by decide +kernel
theorem dX6_net_27 : decode cX6_net 27 = .ok (.iload_n 2, 1) := by decide +kernel
theorem dX6_net_28 : decode cX6_net 28 = .ok (.invokevirtual 170, 3) := by decide +kernel
theorem dX6_net_31 : decode cX6_net 31 = .ok (.ifCond .ne 6, 3) := by decide +kernel
theorem dX6_net_34 : decode cX6_net 34 = .ok (.ldc 141, 2) := by decide +kernel
theorem dX6_net_36 : decode cX6_net 36 = .ok (.ireturn, 1) := by decide +kernel
theorem dX6_net_37 : decode cX6_net 37 = .ok (.aload 4, 2) := by decide +kernel
theorem dX6_net_39 : decode cX6_net 39 = .ok (.aload_n 0, 1) := by decide +kernel
theorem dX6_net_40 : decode cX6_net 40 = .ok (.getfield 46, 3) := by decide +kernel
theorem dX6_net_43 : decode cX6_net 43 = .ok (.getfield 173, 3) := by decide +kernel
theorem dX6_net_46 : decode cX6_net 46 = .ok (.invokevirtual 157, 3) := by decide +kernel
theorem dX6_net_49 : decode cX6_net 49 = .ok (.istore 5, 2) := by decide +kernel
theorem dX6_net_51 : decode cX6_net 51 = .ok (.aload 4, 2) := by decide +kernel
theorem dX6_net_53 : decode cX6_net 53 = .ok (.aload_n 0, 1) := by decide +kernel
theorem dX6_net_54 : decode cX6_net 54 = .ok (.getfield 46, 3) := by decide +kernel
theorem dX6_net_57 : decode cX6_net 57 = .ok (.getfield 176, 3) := by decide +kernel
theorem dX6_net_60 : decode cX6_net 60 = .ok (.invokevirtual 157, 3) := by decide +kernel
theorem dX6_net_63 : decode cX6_net 63 = .ok (.istore 6, 2) := by decide +kernel
theorem dX6_net_65 : decode cX6_net 65 = .ok (.iload 6, 2) := by decide +kernel
theorem dX6_net_67 : decode cX6_net 67 = .ok (.iload 5, 2) := by decide +kernel
theorem dX6_net_69 : decode cX6_net 69 = .ok (.if_icmp .le 20, 3) := by decide +kernel
theorem dX6_net_72 : decode cX6_net 72 = .ok (.iload_n 3, 1) := by decide +kernel
theorem dX6_net_73 : decode cX6_net 73 = .ok (.ifCond .ne 8, 3) := by decide +kernel
theorem dX6_net_76 : decode cX6_net 76 = .ok (.iload 6, 2) := by decide +kernel
theorem dX6_net_78 : decode cX6_net 78 = .ok (.goto 10, 3) := by decide +kernel
theorem dX6_net_81 : decode cX6_net 81 = .ok (.aload_n 0, 1) := by decide +kernel
theorem dX6_net_82 : decode cX6_net 82 = .ok (.getfield 46, 3) := by decide +kernel
theorem dX6_net_85 : decode cX6_net 85 = .ok (.getfield 176, 3) := by decide +kernel
theorem dX6_net_88 : decode cX6_net 88 = .ok (.ireturn, 1) := by decide +kernel
theorem dX6_net_89 : decode cX6_net 89 = .ok (.iload_n 3, 1) := by decide +kernel
theorem dX6_net_90 : decode cX6_net 90 = .ok (.ifCond .ne 8, 3) := by decide +kernel
theorem dX6_net_93 : decode cX6_net 93 = .ok (.iload 5, 2) := by decide +kernel
theorem dX6_net_95 : decode cX6_net 95 = .ok (.goto 10, 3) := by decide +kernel
theorem dX6_net_98 : decode cX6_net 98 = .ok (.aload_n 0, 1) := by decide +kernel
theorem dX6_net_99 : decode cX6_net 99 = .ok (.getfield 46, 3) := by decide +kernel
theorem dX6_net_102 : decode cX6_net 102 = .ok (.getfield 173, 3) := by decide +kernel
theorem dX6_net_105 : decode cX6_net 105 = .ok (.ireturn, 1) := by decide +kernel
theorem dX6_ends_0 : decode cX6_ends 0 = .ok (.aload_n 0, 1) := by decide +kernel
theorem dX6_ends_1 : decode cX6_ends 1 = .ok (.iload_n 1, 1) := by decide +kernel
theorem dX6_ends_2 : decode cX6_ends 2 = .ok (.invokevirtual 83, 3) := by decide +kernel
theorem dX6_ends_5 : decode cX6_ends 5 = .ok (.astore 4, 2) := by decide +kernel
theorem dX6_ends_7 : decode cX6_ends 7 = .ok (.aload 4, 2) := by decide +kernel
theorem dX6_ends_9 : decode cX6_ends 9 = .ok (.ifnull 23, 3) := by decide +kernel
theorem dX6_ends_12 : decode cX6_ends 12 = .ok (.aload_n 0, 1) := by decide +kernel
theorem dX6_ends_13 : decode cX6_ends 13 = .ok (.getfield 30, 3) := by decide +kernel
theorem dX6_ends_16 : decode cX6_ends 16 = .ok (.iload_n 2, 1) := by decide +kernel
theorem dX6_ends_17 : decode cX6_ends 17 = .ok (.invokevirtual 132, 3) := by decide +kernel
theorem dX6_ends_20 : decode cX6_ends 20 = .ok (.ifCond .eq 12, 3) := by decide +kernel
theorem dX6_ends_23 : decode cX6_ends 23 = .ok (.iload_n 3, 1) := by decide +kernel
theorem dX6_ends_24 : decode cX6_ends 24 = .ok (.iconst 0, 1) := by decide +kernel
theorem dX6_ends_25 : decode cX6_ends 25 = .ok (.iconst 1, 1) := by decide +kernel
theorem dX6_ends_26 : decode cX6_ends 26 = .ok (.invokestatic 87, 3) := by decide +kernel
theorem dX6_ends_29 : decode cX6_ends 29 = .ok (.ifCond .ne 6, 3) := by decide +kernel
theorem dX6_ends_32 : decode cX6_ends 32 = .ok (.ldc 141, 2) := by decide +kernel
theorem dX6_ends_34 : decode cX6_ends 34 = .ok (.ireturn, 1) := by decide +kernel
theorem dX6_ends_35 : decode cX6_ends 35 = .ok (.aload_n 0, 1) := by decide +kernel
theorem dX6_ends_36 : decode cX6_ends 36 = .ok (.getfield 30, 3) := by decide +kernel
theorem dX6_ends_39 : decode cX6_ends 39 = .ok (.getfield 103, 3) := by decide +kernel
theorem dX6_ends_42 : decode cX6_ends 42 = .ok (.iload_n 2, 1) := by decide +kernel
theorem dX6_ends_43 : decode cX6_ends 43 = .ok (.iaload, 1) := by decide +kernel
theorem dX6_ends_44 : decode cX6_ends 44 = .ok (.istore 5, 2) := by decide +kernel
theorem dX6_ends_46 : decode cX6_ends 46 = .ok (.aload_n 0, 1) := by decide +kernel
theorem dX6_ends_47 : decode cX6_ends 47 = .ok (.getfield 30, 3) := by decide +kernel
theorem dX6_ends_50 : decode cX6_ends 50 = .ok (.getfield 106, 3) := by decide +kernel
theorem dX6_ends_53 : decode cX6_ends 53 = .ok (.iload_n 2, 1) := by decide +kernel
theorem dX6_ends_54 : decode cX6_ends 54 = .ok (.iaload, 1) := by decide +kernel
theorem dX6_ends_55 : decode cX6_ends 55 = .ok (.istore 6, 2) := by decide +kernel
theorem dX6_ends_57 : decode cX6_ends 57 = .ok (.ldc 141, 2) := by decide +kernel
theorem dX6_ends_59 : decode cX6_ends 59 = .ok (.istore 7, 2) := by decide +kernel
theorem dX6_ends_61 : decode cX6_ends 61 = .ok (.iload 5, 2) := by decide +kernel
theorem dX6_ends_63 : decode cX6_ends 63 = .ok (.istore 8, 2) := by decide +kernel
theorem dX6_ends_65 : decode cX6_ends 65 = .ok (.iload 8, 2) := by decide +kernel
theorem dX6_ends_67 : decode cX6_ends 67 = .ok (.iload 6, 2) := by decide +kernel
theorem dX6_ends_69 : decode cX6_ends 69 = .ok (.if_icmp .gt 91, 3) := by decide +kernel
theorem dX6_ends_72 : decode cX6_ends 72 = .ok (.aload_n 0, 1) := by decide +kernel
theorem dX6_ends_73 : decode cX6_ends 73 = .ok (.getfield 30, 3) := by decide +kernel
theorem dX6_ends_76 : decode cX6_ends 76 = .ok (.getfield 103, 3) := by decide +kernel
theorem dX6_ends_79 : decode cX6_ends 79 = .ok (.iload_n 2, 1) := by decide +kernel
theorem dX6_ends_80 : decode cX6_ends 80 = .ok (.iload 8, 2) := by decide +kernel
theorem dX6_ends_82 : decode cX6_ends 82 = .ok (.iastore, 1) := by decide +kernel
theorem dX6_ends_83 : decode cX6_ends 83 = .ok (.aload_n 0, 1) := by decide +kernel
theorem dX6_ends_84 : decode cX6_ends 84 = .ok (.aload 4, 2) := by decide +kernel
theorem dX6_ends_86 : decode cX6_ends 86 = .ok (.aload_n 0, 1) := by decide +kernel
theorem dX6_ends_87 : decode cX6_ends 87 = .ok (.getfield 30, 3) := by decide +kernel
theorem dX6_ends_90 : decode cX6_ends 90 = .ok (.invokevirtual 185, 3) := by decide +kernel
theorem dX6_ends_93 : decode cX6_ends 93 = .ok (.invokevirtual 189, 3) := by decide +kernel
theorem dX6_ends_96 : decode cX6_ends 96 = .ok (.istore 9, 2) := by decide +kernel
theorem dX6_ends_98 : decode cX6_ends 98 = .ok (.iload_n 3, 1) := by decide +kernel
theorem dX6_ends_99 : decode cX6_ends 99 = .ok (.ifCond .ne 18, 3) := by decide +kernel
theorem dX6_ends_102 : decode cX6_ends 102 = .ok (.iload 9, 2) := by decide +kernel
theorem dX6_ends_104 : decode cX6_ends 104 = .ok (.iload 7, 2) := by decide +kernel
theorem dX6_ends_106 : decode cX6_ends 106 = .ok (.if_icmp .ge 7, 3) := by decide +kernel
theorem dX6_ends_109 : decode cX6_ends 109 = .ok (.iconst 1, 1) := by decide +kernel
theorem dX6_ends_110 : decode cX6_ends 110 = .ok (.goto 19, 3) := by decide +kernel
theorem dX6_ends_113 : decode cX6_ends 113 = .ok (.iconst 0, 1) := by decide +kernel
theorem dX6_ends_114 : decode cX6_ends 114 = .ok (.goto 15, 3) := by decide +kernel
theorem dX6_ends_117 : decode cX6_ends 117 = .ok (.iload 9, 2) := by decide +kernel
theorem dX6_ends_119 : decode cX6_ends 119 = .ok (.iload 7, 2) := by decide +kernel
theorem dX6_ends_121 : decode cX6_ends 121 = .ok (.if_icmp .le 7, 3) := by decide +kernel
theorem dX6_ends_124 : decode cX6_ends 124 = .ok (.iconst 1, 1) := by decide +kernel
theorem dX6_ends_125 : decode cX6_ends 125 = .ok (.goto 4, 3) := by decide +kernel
theorem dX6_ends_128 : decode cX6_ends 128 = .ok (.iconst 0, 1) := by decide +kernel
theorem dX6_ends_129 : decode cX6_ends 129 = .ok (.istore 10, 2) := by decide +kernel
theorem dX6_ends_131 : decode cX6_ends 131 = .ok (.iload 9, 2) := by decide +kernel
theorem dX6_ends_133 : decode cX6_ends 133 = .ok (.ldc 141, 2) := by decide +kernel
theorem dX6_ends_135 : decode cX6_ends 135 = .ok (.if_icmp .eq 19, 3) := by decide +kernel
theorem dX6_ends_138 : decode cX6_ends 138 = .ok (.iload 7, 2) := by decide +kernel
theorem dX6_ends_140 : decode cX6_ends 140 = .ok (.ldc 141, 2) := by decide +kernel
theorem dX6_ends_142 : decode cX6_ends 142 = .ok (.if_icmp .eq 8, 3) := by decide +kernel
theorem dX6_ends_145 : decode cX6_ends 145 = .ok (.iload 10, 2) := by decide +kernel
theorem dX6_ends_147 : decode cX6_ends 147 = .ok (.ifCond .eq 7, 3) := by decide +kernel
theorem dX6_ends_150 : decode cX6_ends 150 = .ok (.iload 9, 2) := by decide +kernel
theorem dX6_ends_152 : decode cX6_ends 152 = .ok (.istore 7, 2) := by decide +kernel
theorem dX6_ends_154 : decode cX6_ends 154 = .ok (.iinc 8 1, 3) := by decide +kernel
theorem dX6_ends_157 : decode cX6_ends 157 = .ok (.goto (-92), 3) := by decide +kernel
theorem dX6_ends_160 : decode cX6_ends 160 = .ok (.aload_n 0, 1) := by decide +kernel
theorem dX6_ends_161 : decode cX6_ends 161 = .ok (.getfield 30, 3) := by decide +kernel
theorem dX6_ends_164 : decode cX6_ends 164 = .ok (.getfield 103, 3) := by decide +kernel
theorem dX6_ends_167 : decode cX6_ends 167 = .ok (.iload_n 2, 1) := by decide +kernel
theorem dX6_ends_168 : decode cX6_ends 168 = .ok (.iload 5, 2) := by decide +kernel
theorem dX6_ends_170 : decode cX6_ends 170 = .ok (.iastore, 1) := by decide +kernel
theorem dX6_ends_171 : decode cX6_ends 171 = .ok (.iload 7, 2) := by decide +kernel
theorem dX6_ends_173 : decode cX6_ends 173 = .ok (.ireturn, 1) := by decide +kernel
theorem dX6_hangs_0 : decode cX6_hangs 0 = .ok (.aload_n 0, 1) := by decide +kernel
theorem dX6_hangs_1 : decode cX6_hangs 1 = .ok (.iload_n 1, 1) := by decide +kernel
theorem dX6_hangs_2 : decode cX6_hangs 2 = .ok (.invokevirtual 83, 3) := by decide +kernel
theorem dX6_hangs_5 : decode cX6_hangs 5 = .ok (.astore_n 2, 1) := by decide +kernel
theorem dX6_hangs_6 : decode cX6_hangs 6 = .ok (.aload_n 2, 1) := by decide +kernel
theorem dX6_hangs_7 : decode cX6_hangs 7 = .ok (.ifnonnull 7, 3) := by decide +kernel
theorem dX6_hangs_10 : decode cX6_hangs 10 = .ok (.iconst (-1), 1) := by decide +kernel
theorem dX6_hangs_11 : decode cX6_hangs 11 = .ok (.goto 9, 3) := by decide +kernel
theorem dX6_hangs_14 : decode cX6_hangs 14 = .ok (.aload_n 0, 1) := by decide +kernel
theorem dX6_hangs_15 : decode cX6_hangs 15 = .ok (.aload_n 2, 1) := by decide +kernel
theorem dX6_hangs_16 : decode cX6_hangs 16 = .ok (.iconst 0, 1) := by decide +kernel
theorem dX6_hangs_17 : decode cX6_hangs 17 = .ok (.invokevirtual 193, 3) := by decide +kernel
theorem dX6_hangs_20 : decode cX6_hangs 20 = .ok (.ireturn, 1) := by decide +kernel
theorem dX6_told_0 : decode cX6_told 0 = .ok (.aload_n 0, 1) := by decide +kernel
theorem dX6_told_1 : decode cX6_told 1 = .ok (.iload_n 1, 1) := by decide +kernel
theorem dX6_told_2 : decode cX6_told 2 = .ok (.invokevirtual 83, 3) := by decide +kernel
theorem dX6_told_5 : decode cX6_told 5 = .ok (.astore 4, 2) := by decide +kernel
theorem dX6_told_7 : decode cX6_told 7 = .ok (.aload 4, 2) := by decide +kernel
theorem dX6_told_9 : decode cX6_told 9 = .ok (.ifnull 23, 3) := by decide +kernel
theorem dX6_told_12 : decode cX6_told 12 = .ok (.aload_n 0, 1) := by decide +kernel
theorem dX6_told_13 : decode cX6_told 13 = .ok (.getfield 30, 3) := by decide +kernel
theorem dX6_told_16 : decode cX6_told 16 = .ok (.iload_n 2, 1) := by decide +kernel
theorem dX6_told_17 : decode cX6_told 17 = .ok (.invokevirtual 132, 3) := by decide +kernel
theorem dX6_told_20 : decode cX6_told 20 = .ok (.ifCond .eq 12, 3) := by decide +kernel
theorem dX6_told_23 : decode cX6_told 23 = .ok (.iload_n 3, 1) := by decide +kernel
theorem dX6_told_24 : decode cX6_told 24 = .ok (.iconst 0, 1) := by decide +kernel
theorem dX6_told_25 : decode cX6_told 25 = .ok (.iconst 5, 1) := by decide +kernel
theorem dX6_told_26 : decode cX6_told 26 = .ok (.invokestatic 87, 3) := by decide +kernel
theorem dX6_told_29 : decode cX6_told 29 = .ok (.ifCond .ne 6, 3) := by decide +kernel
theorem dX6_told_32 : decode cX6_told 32 = .ok (.ldc 141, 2) := by decide +kernel
theorem dX6_told_34 : decode cX6_told 34 = .ok (.ireturn, 1) := by decide +kernel
theorem dX6_told_35 : decode cX6_told 35 = .ok (.aload_n 0, 1) := by decide +kernel
theorem dX6_told_36 : decode cX6_told 36 = .ok (.getfield 30, 3) := by decide +kernel
theorem dX6_told_39 : decode cX6_told 39 = .ok (.getfield 115, 3) := by decide +kernel
theorem dX6_told_42 : decode cX6_told 42 = .ok (.iload_n 2, 1) := by decide +kernel
theorem dX6_told_43 : decode cX6_told 43 = .ok (.iaload, 1) := by decide +kernel
theorem dX6_told_44 : decode cX6_told 44 = .ok (.istore 5, 2) := by decide +kernel
theorem dX6_told_46 : decode cX6_told 46 = .ok (.iload 5, 2) := by decide +kernel
theorem dX6_told_48 : decode cX6_told 48 = .ok (.iconst 1, 1) := by decide +kernel
theorem dX6_told_49 : decode cX6_told 49 = .ok (.iload_n 3, 1) := by decide +kernel
theorem dX6_told_50 : decode cX6_told 50 = .ok (.ishl, 1) := by decide +kernel
theorem dX6_told_51 : decode cX6_told 51 = .ok (.iand, 1) := by decide +kernel
theorem dX6_told_52 : decode cX6_told 52 = .ok (.ifCond .ne 6, 3) := by decide +kernel
theorem dX6_told_55 : decode cX6_told 55 = .ok (.ldc 141, 2) := by decide +kernel
theorem dX6_told_57 : decode cX6_told 57 = .ok (.ireturn, 1) := by decide +kernel
theorem dX6_told_58 : decode cX6_told 58 = .ok (.aload_n 0, 1) := by decide +kernel
theorem dX6_told_59 : decode cX6_told 59 = .ok (.getfield 30, 3) := by decide +kernel
theorem dX6_told_62 : decode cX6_told 62 = .ok (.getfield 115, 3) := by decide +kernel
theorem dX6_told_65 : decode cX6_told 65 = .ok (.iload_n 2, 1) := by decide +kernel
theorem dX6_told_66 : decode cX6_told 66 = .ok (.iconst 1, 1) := by decide +kernel
theorem dX6_told_67 : decode cX6_told 67 = .ok (.iload_n 3, 1) := by decide +kernel
theorem dX6_told_68 : decode cX6_told 68 = .ok (.ishl, 1) := by decide +kernel
theorem dX6_told_69 : decode cX6_told 69 = .ok (.iastore, 1) := by decide +kernel
theorem dX6_told_70 : decode cX6_told 70 = .ok (.aload_n 0, 1) := by decide +kernel
theorem dX6_told_71 : decode cX6_told 71 = .ok (.aload 4, 2) := by decide +kernel
theorem dX6_told_73 : decode cX6_told 73 = .ok (.aload_n 0, 1) := by decide +kernel
theorem dX6_told_74 : decode cX6_told 74 = .ok (.getfield 30, 3) := by decide +kernel
theorem dX6_told_77 : decode cX6_told 77 = .ok (.invokevirtual 185, 3) := by decide +kernel
theorem dX6_told_80 : decode cX6_told 80 = .ok (.invokevirtual 189, 3) := by decide +kernel
theorem dX6_told_83 : decode cX6_told 83 = .ok (.istore 6, 2) := by decide +kernel
theorem dX6_told_85 : decode cX6_told 85 = .ok (.aload_n 0, 1) := by decide +kernel
theorem dX6_told_86 : decode cX6_told 86 = .ok (.getfield 30, 3) := by decide +kernel
theorem dX6_told_89 : decode cX6_told 89 = .ok (.getfield 115, 3) := by decide +kernel
theorem dX6_told_92 : decode cX6_told 92 = .ok (.iload_n 2, 1) := by decide +kernel
theorem dX6_told_93 : decode cX6_told 93 = .ok (.iload 5, 2) := by decide +kernel
theorem dX6_told_95 : decode cX6_told 95 = .ok (.iastore, 1) := by decide +kernel
theorem dX6_told_96 : decode cX6_told 96 = .ok (.iload 6, 2) := by decide +kernel
theorem dX6_told_98 : decode cX6_told 98 = .ok (.ireturn, 1) := by decide +kernel
theorem dX6_layers_0 : decode cX6_layers 0 = .ok (.iconst 1, 1) := by decide +kernel
theorem dX6_layers_1 : decode cX6_layers 1 = .ok (.aload_n 0, 1) := by decide +kernel
theorem dX6_layers_2 : decode cX6_layers 2 = .ok (.getfield 57, 3) := by decide +kernel
theorem dX6_layers_5 : decode cX6_layers 5 = .ok (.ishl, 1) := by decide +kernel
theorem dX6_layers_6 : decode cX6_layers 6 = .ok (.iconst 1, 1) := by decide +kernel
theorem dX6_layers_7 : decode cX6_layers 7 = .ok (.isub, 1) := by decide +kernel
theorem dX6_layers_8 : decode cX6_layers 8 = .ok (.istore_n 3, 1) := by decide +kernel
theorem dX6_layers_9 : decode cX6_layers 9 = .ok (.iload_n 1, 1) := by decide +kernel
theorem dX6_layers_10 : decode cX6_layers 10 = .ok (.ifCond .eq 11, 3) := by decide +kernel
theorem dX6_layers_13 : decode cX6_layers 13 = .ok (.iload_n 1, 1) := by decide +kernel
theorem dX6_layers_14 : decode cX6_layers 14 = .ok (.iload_n 3, 1) := by decide +kernel
theorem dX6_layers_15 : decode cX6_layers 15 = .ok (.iconst (-1), 1) := by decide +kernel
theorem dX6_layers_16 : decode cX6_layers 16 = .ok (.ixor, 1) := by decide +kernel
theorem dX6_layers_17 : decode cX6_layers 17 = .ok (.iand, 1) := by decide +kernel
theorem dX6_layers_18 : decode cX6_layers 18 = .ok (.ifCond .eq 6, 3) := by decide +kernel
theorem dX6_layers_21 : decode cX6_layers 21 = .ok (.ldc 141, 2) := by decide +kernel
theorem dX6_layers_23 : decode cX6_layers 23 = .ok (.ireturn, 1) := by decide +kernel
theorem dX6_layers_24 : decode cX6_layers 24 = .ok (.iload_n 2, 1) := by decide +kernel
theorem dX6_layers_25 : decode cX6_layers 25 = .ok (.ifCond .eq 11, 3) := by decide +kernel
theorem dX6_layers_28 : decode cX6_layers 28 = .ok (.aload_n 0, 1) := by decide +kernel
theorem dX6_layers_29 : decode cX6_layers 29 = .ok (.iload_n 1, 1) := by decide +kernel
theorem dX6_layers_30 : decode cX6_layers 30 = .ok (.invokevirtual 197, 3) := by decide +kernel
theorem dX6_layers_33 : decode cX6_layers 33 = .ok (.goto 8, 3) := by decide +kernel
theorem dX6_layers_36 : decode cX6_layers 36 = .ok (.aload_n 0, 1) := by decide +kernel
theorem dX6_layers_37 : decode cX6_layers 37 = .ok (.iload_n 1, 1) := by decide +kernel
theorem dX6_layers_38 : decode cX6_layers 38 = .ok (.invokevirtual 200, 3) := by decide +kernel
theorem dX6_layers_41 : decode cX6_layers 41 = .ok (.ireturn, 1) := by decide +kernel
theorem dX6_nearest_0 : decode cX6_nearest 0 = .ok (.aload_n 0, 1) := by decide +kernel
theorem dX6_nearest_1 : decode cX6_nearest 1 = .ok (.iload_n 1, 1) := by decide +kernel
theorem dX6_nearest_2 : decode cX6_nearest 2 = .ok (.invokevirtual 83, 3) := by decide +kernel
theorem dX6_nearest_5 : decode cX6_nearest 5 = .ok (.astore_n 3, 1) := by decide +kernel
theorem dX6_nearest_6 : decode cX6_nearest 6 = .ok (.aload_n 3, 1) := by decide +kernel
theorem dX6_nearest_7 : decode cX6_nearest 7 = .ok (.ifnull 12, 3) := by decide +kernel
theorem dX6_nearest_10 : decode cX6_nearest 10 = .ok (.iload_n 2, 1) := by decide +kernel
theorem dX6_nearest_11 : decode cX6_nearest 11 = .ok (.iconst 0, 1) := by decide +kernel
theorem dX6_nearest_12 : decode cX6_nearest 12 = .ok (.iconst 1, 1) := by decide +kernel
theorem dX6_nearest_13 : decode cX6_nearest 13 = .ok (.invokestatic 87, 3) := by decide +kernel
theorem dX6_nearest_16 : decode cX6_nearest 16 = .ok (.ifCond .ne 6, 3) := by decide +kernel
theorem dX6_nearest_19 : decode cX6_nearest 19 = .ok (.ldc 141, 2) := by decide +kernel
theorem dX6_nearest_21 : decode cX6_nearest 21 = .ok (.ireturn, 1) := by decide +kernel
theorem dX6_nearest_22 : decode cX6_nearest 22 = .ok (.aload_n 0, 1) := by decide +kernel
theorem dX6_nearest_23 : decode cX6_nearest 23 = .ok (.getfield 23, 3) := by decide +kernel
theorem dX6_nearest_26 : decode cX6_nearest 26 = .ok (.aload_n 3, 1) := by decide +kernel
theorem dX6_nearest_27 : decode cX6_nearest 27 = .ok (.invokevirtual 79, 3) := by decide +kernel
theorem dX6_nearest_30 : decode cX6_nearest 30 = .ok (.ldc 141, 2) := by decide +kernel
theorem dX6_nearest_32 : decode cX6_nearest 32 = .ok (.istore 4, 2) := by decide +kernel
theorem dX6_nearest_34 : decode cX6_nearest 34 = .ok (.ldc 141, 2) := by decide +kernel
theorem dX6_nearest_36 : decode cX6_nearest 36 = .ok (.istore 5, 2) := by decide +kernel
theorem dX6_nearest_38 : decode cX6_nearest 38 = .ok (.iconst 1, 1) := by decide +kernel
theorem dX6_nearest_39 : decode cX6_nearest 39 = .ok (.istore 6, 2) := by decide +kernel
theorem dX6_nearest_41 : decode cX6_nearest 41 = .ok (.iload 6, 2) := by decide +kernel
theorem dX6_nearest_43 : decode cX6_nearest 43 = .ok (.bipush 99, 2) := by decide +kernel
theorem dX6_nearest_45 : decode cX6_nearest 45 = .ok (.if_icmp .gt 106, 3) := by decide +kernel
theorem dX6_nearest_48 : decode cX6_nearest 48 = .ok (.iload 6, 2) := by decide +kernel
theorem dX6_nearest_50 : decode cX6_nearest 50 = .ok (.iconst 1, 1) := by decide +kernel
theorem dX6_nearest_51 : decode cX6_nearest 51 = .ok (.if_icmp .le 20, 3) := by decide +kernel
theorem dX6_nearest_54 : decode cX6_nearest 54 = .ok (.aload_n 0, 1) := by decide +kernel
theorem dX6_nearest_55 : decode cX6_nearest 55 = .ok (.getfield 30, 3) := by decide +kernel
theorem dX6_nearest_58 : decode cX6_nearest 58 = .ok (.iload 6, 2) := by decide +kernel
theorem dX6_nearest_60 : decode cX6_nearest 60 = .ok (.iconst 1, 1) := by decide +kernel
theorem dX6_nearest_61 : decode cX6_nearest 61 = .ok (.isub, 1) := by decide +kernel
theorem dX6_nearest_62 : decode cX6_nearest 62 = .ok (.invokevirtual 203, 3) := by decide +kernel
theorem dX6_nearest_65 : decode cX6_nearest 65 = .ok (.ifCond .ne 6, 3) := by decide +kernel
theorem dX6_nearest_68 : decode cX6_nearest 68 = .ok (.goto 77, 3) := by decide +kernel
theorem dX6_nearest_71 : decode cX6_nearest 71 = .ok (.aload_n 0, 1) := by decide +kernel
theorem dX6_nearest_72 : decode cX6_nearest 72 = .ok (.getfield 23, 3) := by decide +kernel
theorem dX6_nearest_75 : decode cX6_nearest 75 = .ok (.getfield 94, 3) := by decide +kernel
theorem dX6_nearest_78 : decode cX6_nearest 78 = .ok (.iconst 0, 1) := by decide +kernel
theorem dX6_nearest_79 : decode cX6_nearest 79 = .ok (.iload 6, 2) := by decide +kernel
theorem dX6_nearest_81 : decode cX6_nearest 81 = .ok (.iastore, 1) := by decide +kernel
theorem dX6_nearest_82 : decode cX6_nearest 82 = .ok (.aload_n 0, 1) := by decide +kernel
theorem dX6_nearest_83 : decode cX6_nearest 83 = .ok (.getfield 46, 3) := by decide +kernel
theorem dX6_nearest_86 : decode cX6_nearest 86 = .ok (.aload_n 0, 1) := by decide +kernel
theorem dX6_nearest_87 : decode cX6_nearest 87 = .ok (.getfield 23, 3) := by decide +kernel
theorem dX6_nearest_90 : decode cX6_nearest 90 = .ok (.aload_n 0, 1) := by decide +kernel
theorem dX6_nearest_91 : decode cX6_nearest 91 = .ok (.getfield 30, 3) := by decide +kernel
theorem dX6_nearest_94 : decode cX6_nearest 94 = .ok (.invokevirtual 185, 3) := by decide +kernel
theorem dX6_nearest_97 : decode cX6_nearest 97 = .ok (.invokevirtual 170, 3) := by decide +kernel
theorem dX6_nearest_100 : decode cX6_nearest 100 = .ok (.ifCond .ne 6, 3) := by decide +kernel
theorem dX6_nearest_103 : decode cX6_nearest 103 = .ok (.goto 42, 3) := by decide +kernel
theorem dX6_nearest_106 : decode cX6_nearest 106 = .ok (.aload_n 0, 1) := by decide +kernel
theorem dX6_nearest_107 : decode cX6_nearest 107 = .ok (.getfield 46, 3) := by decide +kernel
theorem dX6_nearest_110 : decode cX6_nearest 110 = .ok (.getfield 173, 3) := by decide +kernel
theorem dX6_nearest_113 : decode cX6_nearest 113 = .ok (.aload_n 0, 1) := by decide +kernel
theorem dX6_nearest_114 : decode cX6_nearest 114 = .ok (.getfield 46, 3) := by decide +kernel
theorem dX6_nearest_117 : decode cX6_nearest 117 = .ok (.getfield 176, 3) := by decide +kernel
theorem dX6_nearest_120 : decode cX6_nearest 120 = .ok (.isub, 1) := by decide +kernel
theorem dX6_nearest_121 : decode cX6_nearest 121 = .ok (.istore 7, 2) := by decide +kernel
theorem dX6_nearest_123 : decode cX6_nearest 123 = .ok (.iload 4, 2) := by decide +kernel
theorem dX6_nearest_125 : decode cX6_nearest 125 = .ok (.ldc 141, 2) := by decide +kernel
theorem dX6_nearest_127 : decode cX6_nearest 127 = .ok (.if_icmp .eq 10, 3) := by decide +kernel
theorem dX6_nearest_130 : decode cX6_nearest 130 = .ok (.iload 7, 2) := by decide +kernel
theorem dX6_nearest_132 : decode cX6_nearest 132 = .ok (.iload 5, 2) := by decide +kernel
theorem dX6_nearest_134 : decode cX6_nearest 134 = .ok (.if_icmp .ge 11, 3) := by decide +kernel
theorem dX6_nearest_137 : decode cX6_nearest 137 = .ok (.iload 6, 2) := by decide +kernel
theorem dX6_nearest_139 : decode cX6_nearest 139 = .ok (.istore 4, 2) := by decide +kernel
theorem dX6_nearest_141 : decode cX6_nearest 141 = .ok (.iload 7, 2) := by decide +kernel
theorem dX6_nearest_143 : decode cX6_nearest 143 = .ok (.istore 5, 2) := by decide +kernel
theorem dX6_nearest_145 : decode cX6_nearest 145 = .ok (.iinc 6 1, 3) := by decide +kernel
theorem dX6_nearest_148 : decode cX6_nearest 148 = .ok (.goto (-107), 3) := by decide +kernel
theorem dX6_nearest_151 : decode cX6_nearest 151 = .ok (.iload_n 2, 1) := by decide +kernel
theorem dX6_nearest_152 : decode cX6_nearest 152 = .ok (.ifCond .ne 8, 3) := by decide +kernel
theorem dX6_nearest_155 : decode cX6_nearest 155 = .ok (.iload 4, 2) := by decide +kernel
theorem dX6_nearest_157 : decode cX6_nearest 157 = .ok (.goto 5, 3) := by decide +kernel
theorem dX6_nearest_160 : decode cX6_nearest 160 = .ok (.iload 5, 2) := by decide +kernel
theorem dX6_nearest_162 : decode cX6_nearest 162 = .ok (.ireturn, 1) := by decide +kernel
theorem dX6_storm_0 : decode cX6_storm 0 = .ok (.aload_n 0, 1) := by decide +kernel
theorem dX6_storm_1 : decode cX6_storm 1 = .ok (.getfield 61, 3) := by decide +kernel
theorem dX6_storm_4 : decode cX6_storm 4 = .ok (.bipush 12, 2) := by decide +kernel
theorem dX6_storm_6 : decode cX6_storm 6 = .ok (.if_icmp .ge 24, 3) := by decide +kernel
theorem dX6_storm_9 : decode cX6_storm 9 = .ok (.aload_n 0, 1) := by decide +kernel
theorem dX6_storm_10 : decode cX6_storm 10 = .ok (.getfield 30, 3) := by decide +kernel
theorem dX6_storm_13 : decode cX6_storm 13 = .ok (.iload_n 1, 1) := by decide +kernel
theorem dX6_storm_14 : decode cX6_storm 14 = .ok (.invokevirtual 118, 3) := by decide +kernel
theorem dX6_storm_17 : decode cX6_storm 17 = .ok (.ifCond .eq 13, 3) := by decide +kernel
theorem dX6_storm_20 : decode cX6_storm 20 = .ok (.iload_n 2, 1) := by decide +kernel
theorem dX6_storm_21 : decode cX6_storm 21 = .ok (.iconst 1, 1) := by decide +kernel
theorem dX6_storm_22 : decode cX6_storm 22 = .ok (.bipush 99, 2) := by decide +kernel
theorem dX6_storm_24 : decode cX6_storm 24 = .ok (.invokestatic 87, 3) := by decide +kernel
theorem dX6_storm_27 : decode cX6_storm 27 = .ok (.ifCond .ne 5, 3) := by decide +kernel
theorem dX6_storm_30 : decode cX6_storm 30 = .ok (.iconst (-1), 1) := by decide +kernel
theorem dX6_storm_31 : decode cX6_storm 31 = .ok (.ireturn, 1) := by decide +kernel
theorem dX6_storm_32 : decode cX6_storm 32 = .ok (.aload_n 0, 1) := by decide +kernel
theorem dX6_storm_33 : decode cX6_storm 33 = .ok (.getfield 50, 3) := by decide +kernel
theorem dX6_storm_36 : decode cX6_storm 36 = .ok (.aload_n 0, 1) := by decide +kernel
theorem dX6_storm_37 : decode cX6_storm 37 = .ok (.getfield 61, 3) := by decide +kernel
theorem dX6_storm_40 : decode cX6_storm 40 = .ok (.iload_n 1, 1) := by decide +kernel
theorem dX6_storm_41 : decode cX6_storm 41 = .ok (.iastore, 1) := by decide +kernel
theorem dX6_storm_42 : decode cX6_storm 42 = .ok (.aload_n 0, 1) := by decide +kernel
theorem dX6_storm_43 : decode cX6_storm 43 = .ok (.getfield 54, 3) := by decide +kernel
theorem dX6_storm_46 : decode cX6_storm 46 = .ok (.aload_n 0, 1) := by decide +kernel
theorem dX6_storm_47 : decode cX6_storm 47 = .ok (.getfield 61, 3) := by decide +kernel
theorem dX6_storm_50 : decode cX6_storm 50 = .ok (.iload_n 2, 1) := by decide +kernel
theorem dX6_storm_51 : decode cX6_storm 51 = .ok (.iastore, 1) := by decide +kernel
theorem dX6_storm_52 : decode cX6_storm 52 = .ok (.aload_n 0, 1) := by decide +kernel
theorem dX6_storm_53 : decode cX6_storm 53 = .ok (.dup, 1) := by decide +kernel
theorem dX6_storm_54 : decode cX6_storm 54 = .ok (.getfield 61, 3) := by decide +kernel
theorem dX6_storm_57 : decode cX6_storm 57 = .ok (.iconst 1, 1) := by decide +kernel
theorem dX6_storm_58 : decode cX6_storm 58 = .ok (.iadd, 1) := by decide +kernel
theorem dX6_storm_59 : decode cX6_storm 59 = .ok (.putfield 61, 3) := by decide +kernel
theorem dX6_storm_62 : decode cX6_storm 62 = .ok (.aload_n 0, 1) := by decide +kernel
theorem dX6_storm_63 : decode cX6_storm 63 = .ok (.getfield 61, 3) := by decide +kernel
theorem dX6_storm_66 : decode cX6_storm 66 = .ok (.ireturn, 1) := by decide +kernel
theorem dX6_mean_0 : decode cX6_mean 0 = .ok (.aload_n 0, 1) := by decide +kernel
theorem dX6_mean_1 : decode cX6_mean 1 = .ok (.iload_n 1, 1) := by decide +kernel
theorem dX6_mean_2 : decode cX6_mean 2 = .ok (.invokevirtual 83, 3) := by decide +kernel
theorem dX6_mean_5 : decode cX6_mean 5 = .ok (.astore_n 3, 1) := by decide +kernel
theorem dX6_mean_6 : decode cX6_mean 6 = .ok (.aload_n 3, 1) := by decide +kernel
theorem dX6_mean_7 : decode cX6_mean 7 = .ok (.ifnull 12, 3) := by decide +kernel
theorem dX6_mean_10 : decode cX6_mean 10 = .ok (.iload_n 2, 1) := by decide +kernel
theorem dX6_mean_11 : decode cX6_mean 11 = .ok (.iconst 0, 1) := by decide +kernel
theorem dX6_mean_12 : decode cX6_mean 12 = .ok (.iconst 2, 1) := by decide +kernel
theorem dX6_mean_13 : decode cX6_mean 13 = .ok (.invokestatic 87, 3) := by decide +kernel
theorem dX6_mean_16 : decode cX6_mean 16 = .ok (.ifCond .ne 6, 3) := by decide +kernel
theorem dX6_mean_19 : decode cX6_mean 19 = .ok (.ldc 141, 2) := by decide +kernel
theorem dX6_mean_21 : decode cX6_mean 21 = .ok (.ireturn, 1) := by decide +kernel
theorem dX6_mean_22 : decode cX6_mean 22 = .ok (.iconst 0, 1) := by decide +kernel
theorem dX6_mean_23 : decode cX6_mean 23 = .ok (.istore 4, 2) := by decide +kernel
theorem dX6_mean_25 : decode cX6_mean 25 = .ok (.iconst 0, 1) := by decide +kernel
theorem dX6_mean_26 : decode cX6_mean 26 = .ok (.istore 5, 2) := by decide +kernel
theorem dX6_mean_28 : decode cX6_mean 28 = .ok (.iconst 0, 1) := by decide +kernel
theorem dX6_mean_29 : decode cX6_mean 29 = .ok (.istore 6, 2) := by decide +kernel
theorem dX6_mean_31 : decode cX6_mean 31 = .ok (.iload 6, 2) := by decide +kernel
theorem dX6_mean_33 : decode cX6_mean 33 = .ok (.aload_n 0, 1) := by decide +kernel
theorem dX6_mean_34 : decode cX6_mean 34 = .ok (.getfield 61, 3) := by decide +kernel
theorem dX6_mean_37 : decode cX6_mean 37 = .ok (.if_icmp .ge 94, 3) := by decide +kernel
theorem dX6_mean_40 : decode cX6_mean 40 = .ok (.aload_n 3, 1) := by decide +kernel
theorem dX6_mean_41 : decode cX6_mean 41 = .ok (.aload_n 0, 1) := by decide +kernel
theorem dX6_mean_42 : decode cX6_mean 42 = .ok (.getfield 50, 3) := by decide +kernel
theorem dX6_mean_45 : decode cX6_mean 45 = .ok (.iload 6, 2) := by decide +kernel
theorem dX6_mean_47 : decode cX6_mean 47 = .ok (.iaload, 1) := by decide +kernel
theorem dX6_mean_48 : decode cX6_mean 48 = .ok (.invokestatic 206, 3) := by decide +kernel
theorem dX6_mean_51 : decode cX6_mean 51 = .ok (.ifCond .ne 6, 3) := by decide +kernel
theorem dX6_mean_54 : decode cX6_mean 54 = .ok (.ldc 141, 2) := by decide +kernel
theorem dX6_mean_56 : decode cX6_mean 56 = .ok (.ireturn, 1) := by decide +kernel
theorem dX6_mean_57 : decode cX6_mean 57 = .ok (.aload_n 0, 1) := by decide +kernel
theorem dX6_mean_58 : decode cX6_mean 58 = .ok (.getfield 54, 3) := by decide +kernel
theorem dX6_mean_61 : decode cX6_mean 61 = .ok (.iload 6, 2) := by decide +kernel
theorem dX6_mean_63 : decode cX6_mean 63 = .ok (.iaload, 1) := by decide +kernel
theorem dX6_mean_64 : decode cX6_mean 64 = .ok (.istore 7, 2) := by decide +kernel
theorem dX6_mean_66 : decode cX6_mean 66 = .ok (.iload 5, 2) := by decide +kernel
theorem dX6_mean_68 : decode cX6_mean 68 = .ok (.iload 7, 2) := by decide +kernel
theorem dX6_mean_70 : decode cX6_mean 70 = .ok (.iadd, 1) := by decide +kernel
theorem dX6_mean_71 : decode cX6_mean 71 = .ok (.istore 5, 2) := by decide +kernel
theorem dX6_mean_73 : decode cX6_mean 73 = .ok (.iload_n 2, 1) := by decide +kernel
theorem dX6_mean_74 : decode cX6_mean 74 = .ok (.iconst 2, 1) := by decide +kernel
theorem dX6_mean_75 : decode cX6_mean 75 = .ok (.if_icmp .eq 50, 3) := by decide +kernel
theorem dX6_mean_78 : decode cX6_mean 78 = .ok (.aload_n 0, 1) := by decide +kernel
theorem dX6_mean_79 : decode cX6_mean 79 = .ok (.getfield 46, 3) := by decide +kernel
theorem dX6_mean_82 : decode cX6_mean 82 = .ok (.aload_n 3, 1) := by decide +kernel
theorem dX6_mean_83 : decode cX6_mean 83 = .ok (.aload_n 0, 1) := by decide +kernel
theorem dX6_mean_84 : decode cX6_mean 84 = .ok (.getfield 50, 3) := by decide +kernel
theorem dX6_mean_87 : decode cX6_mean 87 = .ok (.iload 6, 2) := by decide +kernel
theorem dX6_mean_89 : decode cX6_mean 89 = .ok (.iaload, 1) := by decide +kernel
theorem dX6_mean_90 : decode cX6_mean 90 = .ok (.invokevirtual 170, 3) := by decide +kernel
theorem dX6_mean_93 : decode cX6_mean 93 = .ok (.ifCond .eq 32, 3) := by decide +kernel
theorem dX6_mean_96 : decode cX6_mean 96 = .ok (.iload 4, 2) := by decide +kernel
theorem dX6_mean_98 : decode cX6_mean 98 = .ok (.iload 7, 2) := by decide +kernel
theorem dX6_mean_100 : decode cX6_mean 100 = .ok (.iload_n 2, 1) := by decide +kernel
theorem dX6_mean_101 : decode cX6_mean 101 = .ok (.ifCond .ne 13, 3) := by decide +kernel
theorem dX6_mean_104 : decode cX6_mean 104 = .ok (.aload_n 0, 1) := by decide +kernel
theorem dX6_mean_105 : decode cX6_mean 105 = .ok (.getfield 46, 3) := by decide +kernel
theorem dX6_mean_108 : decode cX6_mean 108 = .ok (.getfield 173, 3) := by decide +kernel
theorem dX6_mean_111 : decode cX6_mean 111 = .ok (.goto 10, 3) := by decide +kernel
theorem dX6_mean_114 : decode cX6_mean 114 = .ok (.aload_n 0, 1) := by decide +kernel
theorem dX6_mean_115 : decode cX6_mean 115 = .ok (.getfield 46, 3) := by decide +kernel
theorem dX6_mean_118 : decode cX6_mean 118 = .ok (.getfield 176, 3) := by decide +kernel
theorem dX6_mean_121 : decode cX6_mean 121 = .ok (.imul, 1) := by decide +kernel
theorem dX6_mean_122 : decode cX6_mean 122 = .ok (.iadd, 1) := by decide +kernel
theorem dX6_mean_123 : decode cX6_mean 123 = .ok (.istore 4, 2) := by decide +kernel
theorem dX6_mean_125 : decode cX6_mean 125 = .ok (.iinc 6 1, 3) := by decide +kernel
theorem dX6_mean_128 : decode cX6_mean 128 = .ok (.goto (-97), 3) := by decide +kernel
theorem dX6_mean_131 : decode cX6_mean 131 = .ok (.iload_n 2, 1) := by decide +kernel
theorem dX6_mean_132 : decode cX6_mean 132 = .ok (.iconst 2, 1) := by decide +kernel
theorem dX6_mean_133 : decode cX6_mean 133 = .ok (.if_icmp .ne 8, 3) := by decide +kernel
theorem dX6_mean_136 : decode cX6_mean 136 = .ok (.iload 5, 2) := by decide +kernel
theorem dX6_mean_138 : decode cX6_mean 138 = .ok (.goto 5, 3) := by decide +kernel
theorem dX6_mean_141 : decode cX6_mean 141 = .ok (.iload 4, 2) := by decide +kernel
theorem dX6_mean_143 : decode cX6_mean 143 = .ok (.ireturn, 1) := by decide +kernel
theorem dX6_game_0 : decode cX6_game 0 = .ok (.aload_n 0, 1) := by decide +kernel
theorem dX6_game_1 : decode cX6_game 1 = .ok (.iload_n 1, 1) := by decide +kernel
theorem dX6_game_2 : decode cX6_game 2 = .ok (.invokevirtual 83, 3) := by decide +kernel
theorem dX6_game_5 : decode cX6_game 5 = .ok (.astore 4, 2) := by decide +kernel
theorem dX6_game_7 : decode cX6_game 7 = .ok (.aload_n 0, 1) := by decide +kernel
theorem dX6_game_8 : decode cX6_game 8 = .ok (.iload_n 2, 1) := by decide +kernel
theorem dX6_game_9 : decode cX6_game 9 = .ok (.invokevirtual 83, 3) := by decide +kernel
theorem dX6_game_12 : decode cX6_game 12 = .ok (.astore 5, 2) := by decide +kernel
theorem dX6_game_14 : decode cX6_game 14 = .ok (.aload 4, 2) := by decide +kernel
theorem dX6_game_16 : decode cX6_game 16 = .ok (.ifnull 17, 3) := by decide +kernel
theorem dX6_game_19 : decode cX6_game 19 = .ok (.aload 5, 2) := by decide +kernel
theorem dX6_game_21 : decode cX6_game 21 = .ok (.ifnull 12, 3) := by decide +kernel
theorem dX6_game_24 : decode cX6_game 24 = .ok (.iload_n 3, 1) := by decide +kernel
theorem dX6_game_25 : decode cX6_game 25 = .ok (.iconst 0, 1) := by decide +kernel
theorem dX6_game_26 : decode cX6_game 26 = .ok (.iconst 2, 1) := by decide +kernel
theorem dX6_game_27 : decode cX6_game 27 = .ok (.invokestatic 87, 3) := by decide +kernel
theorem dX6_game_30 : decode cX6_game 30 = .ok (.ifCond .ne 6, 3) := by decide +kernel
theorem dX6_game_33 : decode cX6_game 33 = .ok (.ldc 141, 2) := by decide +kernel
theorem dX6_game_35 : decode cX6_game 35 = .ok (.ireturn, 1) := by decide +kernel
theorem dX6_game_36 : decode cX6_game 36 = .ok (.aload_n 0, 1) := by decide +kernel
theorem dX6_game_37 : decode cX6_game 37 = .ok (.aload 4, 2) := by decide +kernel
theorem dX6_game_39 : decode cX6_game 39 = .ok (.iconst 1, 1) := by decide +kernel
theorem dX6_game_40 : decode cX6_game 40 = .ok (.invokevirtual 193, 3) := by decide +kernel
theorem dX6_game_43 : decode cX6_game 43 = .ok (.istore 6, 2) := by decide +kernel
theorem dX6_game_45 : decode cX6_game 45 = .ok (.aload_n 0, 1) := by decide +kernel
theorem dX6_game_46 : decode cX6_game 46 = .ok (.aload 5, 2) := by decide +kernel
theorem dX6_game_48 : decode cX6_game 48 = .ok (.iconst 1, 1) := by decide +kernel
theorem dX6_game_49 : decode cX6_game 49 = .ok (.invokevirtual 193, 3) := by decide +kernel
theorem dX6_game_52 : decode cX6_game 52 = .ok (.istore 7, 2) := by decide +kernel
theorem dX6_game_54 : decode cX6_game 54 = .ok (.iload 6, 2) := by decide +kernel
theorem dX6_game_56 : decode cX6_game 56 = .ok (.iconst (-1), 1) := by decide +kernel
theorem dX6_game_57 : decode cX6_game 57 = .ok (.if_icmp .eq 9, 3) := by decide +kernel
theorem dX6_game_60 : decode cX6_game 60 = .ok (.iload 7, 2) := by decide +kernel
theorem dX6_game_62 : decode cX6_game 62 = .ok (.iconst (-1), 1) := by decide +kernel
theorem dX6_game_63 : decode cX6_game 63 = .ok (.if_icmp .ne 6, 3) := by decide +kernel
theorem dX6_game_66 : decode cX6_game 66 = .ok (.ldc 141, 2) := by decide +kernel
theorem dX6_game_68 : decode cX6_game 68 = .ok (.ireturn, 1) := by decide +kernel
theorem dX6_game_69 : decode cX6_game 69 = .ok (.aload_n 0, 1) := by decide +kernel
theorem dX6_game_70 : decode cX6_game 70 = .ok (.aload 4, 2) := by decide +kernel
theorem dX6_game_72 : decode cX6_game 72 = .ok (.aload_n 0, 1) := by decide +kernel
theorem dX6_game_73 : decode cX6_game 73 = .ok (.getfield 30, 3) := by decide +kernel
theorem dX6_game_76 : decode cX6_game 76 = .ok (.invokevirtual 185, 3) := by decide +kernel
theorem dX6_game_79 : decode cX6_game 79 = .ok (.iconst 1, 1) := by decide +kernel
theorem dX6_game_80 : decode cX6_game 80 = .ok (.iload 6, 2) := by decide +kernel
theorem dX6_game_82 : decode cX6_game 82 = .ok (.ishl, 1) := by decide +kernel
theorem dX6_game_83 : decode cX6_game 83 = .ok (.ixor, 1) := by decide +kernel
theorem dX6_game_84 : decode cX6_game 84 = .ok (.invokevirtual 189, 3) := by decide +kernel
theorem dX6_game_87 : decode cX6_game 87 = .ok (.istore 8, 2) := by decide +kernel
theorem dX6_game_89 : decode cX6_game 89 = .ok (.aload_n 0, 1) := by decide +kernel
theorem dX6_game_90 : decode cX6_game 90 = .ok (.aload 5, 2) := by decide +kernel
theorem dX6_game_92 : decode cX6_game 92 = .ok (.aload_n 0, 1) := by decide +kernel
theorem dX6_game_93 : decode cX6_game 93 = .ok (.getfield 30, 3) := by decide +kernel
theorem dX6_game_96 : decode cX6_game 96 = .ok (.invokevirtual 185, 3) := by decide +kernel
theorem dX6_game_99 : decode cX6_game 99 = .ok (.iconst 1, 1) := by decide +kernel
theorem dX6_game_100 : decode cX6_game 100 = .ok (.iload 7, 2) := by decide +kernel
theorem dX6_game_102 : decode cX6_game 102 = .ok (.ishl, 1) := by decide +kernel
theorem dX6_game_103 : decode cX6_game 103 = .ok (.ixor, 1) := by decide +kernel
theorem dX6_game_104 : decode cX6_game 104 = .ok (.invokevirtual 189, 3) := by decide +kernel
theorem dX6_game_107 : decode cX6_game 107 = .ok (.istore 9, 2) := by decide +kernel
theorem dX6_game_109 : decode cX6_game 109 = .ok (.iload 9, 2) := by decide +kernel
theorem dX6_game_111 : decode cX6_game 111 = .ok (.iload 8, 2) := by decide +kernel
theorem dX6_game_113 : decode cX6_game 113 = .ok (.if_icmp .le 7, 3) := by decide +kernel
theorem dX6_game_116 : decode cX6_game 116 = .ok (.iconst 1, 1) := by decide +kernel
theorem dX6_game_117 : decode cX6_game 117 = .ok (.goto 4, 3) := by decide +kernel
theorem dX6_game_120 : decode cX6_game 120 = .ok (.iconst 0, 1) := by decide +kernel
theorem dX6_game_121 : decode cX6_game 121 = .ok (.istore 10, 2) := by decide +kernel
theorem dX6_game_123 : decode cX6_game 123 = .ok (.iload_n 3, 1) := by decide +kernel
theorem dX6_game_124 : decode cX6_game 124 = .ok (.ifCond .ne 14, 3) := by decide +kernel
theorem dX6_game_127 : decode cX6_game 127 = .ok (.iload 10, 2) := by decide +kernel
theorem dX6_game_129 : decode cX6_game 129 = .ok (.ifCond .eq 7, 3) := by decide +kernel
theorem dX6_game_132 : decode cX6_game 132 = .ok (.iconst 1, 1) := by decide +kernel
theorem dX6_game_133 : decode cX6_game 133 = .ok (.goto 4, 3) := by decide +kernel
theorem dX6_game_136 : decode cX6_game 136 = .ok (.iconst 0, 1) := by decide +kernel
theorem dX6_game_137 : decode cX6_game 137 = .ok (.ireturn, 1) := by decide +kernel
theorem dX6_game_138 : decode cX6_game 138 = .ok (.iload_n 3, 1) := by decide +kernel
theorem dX6_game_139 : decode cX6_game 139 = .ok (.iconst 1, 1) := by decide +kernel
theorem dX6_game_140 : decode cX6_game 140 = .ok (.if_icmp .ne 16, 3) := by decide +kernel
theorem dX6_game_143 : decode cX6_game 143 = .ok (.iload 10, 2) := by decide +kernel
theorem dX6_game_145 : decode cX6_game 145 = .ok (.ifCond .eq 8, 3) := by decide +kernel
theorem dX6_game_148 : decode cX6_game 148 = .ok (.iload 9, 2) := by decide +kernel
theorem dX6_game_150 : decode cX6_game 150 = .ok (.goto 5, 3) := by decide +kernel
theorem dX6_game_153 : decode cX6_game 153 = .ok (.iload 8, 2) := by decide +kernel
theorem dX6_game_155 : decode cX6_game 155 = .ok (.ireturn, 1) := by decide +kernel
theorem dX6_game_156 : decode cX6_game 156 = .ok (.iload 10, 2) := by decide +kernel
theorem dX6_game_158 : decode cX6_game 158 = .ok (.ifCond .eq 8, 3) := by decide +kernel
theorem dX6_game_161 : decode cX6_game 161 = .ok (.iload 7, 2) := by decide +kernel
theorem dX6_game_163 : decode cX6_game 163 = .ok (.goto 5, 3) := by decide +kernel
theorem dX6_game_166 : decode cX6_game 166 = .ok (.iload 6, 2) := by decide +kernel
theorem dX6_game_168 : decode cX6_game 168 = .ok (.ireturn, 1) := by decide +kernel
theorem dX6_mend_0 : decode cX6_mend 0 = .ok (.aload_n 0, 1) := by decide +kernel
theorem dX6_mend_1 : decode cX6_mend 1 = .ok (.getfield 30, 3) := by decide +kernel
theorem dX6_mend_4 : decode cX6_mend 4 = .ok (.iload_n 1, 1) := by decide +kernel
theorem dX6_mend_5 : decode cX6_mend 5 = .ok (.invokevirtual 132, 3) := by decide +kernel
theorem dX6_mend_8 : decode cX6_mend 8 = .ok (.ifCond .eq 24, 3) := by decide +kernel
theorem dX6_mend_11 : decode cX6_mend 11 = .ok (.iload_n 2, 1) := by decide +kernel
theorem dX6_mend_12 : decode cX6_mend 12 = .ok (.iconst 0, 1) := by decide +kernel
theorem dX6_mend_13 : decode cX6_mend 13 = .ok (.sipush 999, 3) := by decide +kernel
theorem dX6_mend_16 : decode cX6_mend 16 = .ok (.invokestatic 87, 3) := by decide +kernel
theorem dX6_mend_19 : decode cX6_mend 19 = .ok (.ifCond .eq 13, 3) := by decide +kernel
theorem dX6_mend_22 : decode cX6_mend 22 = .ok (.iload_n 3, 1) := by decide +kernel
theorem dX6_mend_23 : decode cX6_mend 23 = .ok (.iconst 1, 1) := by decide +kernel
theorem dX6_mend_24 : decode cX6_mend 24 = .ok (.bipush 99, 2) := by decide +kernel
theorem dX6_mend_26 : decode cX6_mend 26 = .ok (.invokestatic 87, 3) := by decide +kernel
theorem dX6_mend_29 : decode cX6_mend 29 = .ok (.ifCond .ne 5, 3) := by decide +kernel
theorem dX6_mend_32 : decode cX6_mend 32 = .ok (.iconst 0, 1) := by decide +kernel
theorem dX6_mend_33 : decode cX6_mend 33 = .ok (.ireturn, 1) := by decide +kernel
theorem dX6_mend_34 : decode cX6_mend 34 = .ok (.aload_n 0, 1) := by decide +kernel
theorem dX6_mend_35 : decode cX6_mend 35 = .ok (.getfield 30, 3) := by decide +kernel
theorem dX6_mend_38 : decode cX6_mend 38 = .ok (.getfield 103, 3) := by decide +kernel
theorem dX6_mend_41 : decode cX6_mend 41 = .ok (.iload_n 1, 1) := by decide +kernel
theorem dX6_mend_42 : decode cX6_mend 42 = .ok (.iload_n 2, 1) := by decide +kernel
theorem dX6_mend_43 : decode cX6_mend 43 = .ok (.iastore, 1) := by decide +kernel
theorem dX6_mend_44 : decode cX6_mend 44 = .ok (.aload_n 0, 1) := by decide +kernel
theorem dX6_mend_45 : decode cX6_mend 45 = .ok (.getfield 30, 3) := by decide +kernel
theorem dX6_mend_48 : decode cX6_mend 48 = .ok (.getfield 106, 3) := by decide +kernel
theorem dX6_mend_51 : decode cX6_mend 51 = .ok (.iload_n 1, 1) := by decide +kernel
theorem dX6_mend_52 : decode cX6_mend 52 = .ok (.iload_n 2, 1) := by decide +kernel
theorem dX6_mend_53 : decode cX6_mend 53 = .ok (.aload_n 0, 1) := by decide +kernel
theorem dX6_mend_54 : decode cX6_mend 54 = .ok (.getfield 30, 3) := by decide +kernel
theorem dX6_mend_57 : decode cX6_mend 57 = .ok (.getfield 106, 3) := by decide +kernel
theorem dX6_mend_60 : decode cX6_mend 60 = .ok (.iload_n 1, 1) := by decide +kernel
theorem dX6_mend_61 : decode cX6_mend 61 = .ok (.iaload, 1) := by decide +kernel
theorem dX6_mend_62 : decode cX6_mend 62 = .ok (.invokestatic 209, 3) := by decide +kernel
theorem dX6_mend_65 : decode cX6_mend 65 = .ok (.iastore, 1) := by decide +kernel
theorem dX6_mend_66 : decode cX6_mend 66 = .ok (.aload_n 0, 1) := by decide +kernel
theorem dX6_mend_67 : decode cX6_mend 67 = .ok (.getfield 30, 3) := by decide +kernel
theorem dX6_mend_70 : decode cX6_mend 70 = .ok (.getfield 100, 3) := by decide +kernel
theorem dX6_mend_73 : decode cX6_mend 73 = .ok (.iload_n 1, 1) := by decide +kernel
theorem dX6_mend_74 : decode cX6_mend 74 = .ok (.iload_n 3, 1) := by decide +kernel
theorem dX6_mend_75 : decode cX6_mend 75 = .ok (.iastore, 1) := by decide +kernel
theorem dX6_mend_76 : decode cX6_mend 76 = .ok (.iconst 1, 1) := by decide +kernel
theorem dX6_mend_77 : decode cX6_mend 77 = .ok (.ireturn, 1) := by decide +kernel
theorem dX6_count_0 : decode cX6_count 0 = .ok (.iload_n 1, 1) := by decide +kernel
theorem dX6_count_1 : decode cX6_count 1 = .ok (.tableswitch 57 0 3 #[31, 36, 44, 49], 31) := by decide +kernel
theorem dX6_count_32 : decode cX6_count 32 = .ok (.aload_n 0, 1) := by decide +kernel
theorem dX6_count_33 : decode cX6_count 33 = .ok (.getfield 57, 3) := by decide +kernel
theorem dX6_count_36 : decode cX6_count 36 = .ok (.ireturn, 1) := by decide +kernel
theorem dX6_count_37 : decode cX6_count 37 = .ok (.aload_n 0, 1) := by decide +kernel
theorem dX6_count_38 : decode cX6_count 38 = .ok (.getfield 30, 3) := by decide +kernel
theorem dX6_count_41 : decode cX6_count 41 = .ok (.getfield 97, 3) := by decide +kernel
theorem dX6_count_44 : decode cX6_count 44 = .ok (.ireturn, 1) := by decide +kernel
theorem dX6_count_45 : decode cX6_count 45 = .ok (.aload_n 0, 1) := by decide +kernel
theorem dX6_count_46 : decode cX6_count 46 = .ok (.getfield 61, 3) := by decide +kernel
theorem dX6_count_49 : decode cX6_count 49 = .ok (.ireturn, 1) := by decide +kernel
theorem dX6_count_50 : decode cX6_count 50 = .ok (.aload_n 0, 1) := by decide +kernel
theorem dX6_count_51 : decode cX6_count 51 = .ok (.getfield 10, 3) := by decide +kernel
theorem dX6_count_54 : decode cX6_count 54 = .ok (.getfield 68, 3) := by decide +kernel
theorem dX6_count_57 : decode cX6_count 57 = .ok (.ireturn, 1) := by decide +kernel
theorem dX6_count_58 : decode cX6_count 58 = .ok (.iconst (-1), 1) := by decide +kernel
theorem dX6_count_59 : decode cX6_count 59 = .ok (.ireturn, 1) := by decide +kernel
theorem dX6_isWithin_0 : decode cX6_isWithin 0 = .ok (.iload_n 0, 1) := by decide +kernel
theorem dX6_isWithin_1 : decode cX6_isWithin 1 = .ok (.iload_n 1, 1) := by decide +kernel
theorem dX6_isWithin_2 : decode cX6_isWithin 2 = .ok (.if_icmp .lt 12, 3) := by decide +kernel
theorem dX6_isWithin_5 : decode cX6_isWithin 5 = .ok (.iload_n 0, 1) := by decide +kernel
theorem dX6_isWithin_6 : decode cX6_isWithin 6 = .ok (.iload_n 2, 1) := by decide +kernel
theorem dX6_isWithin_7 : decode cX6_isWithin 7 = .ok (.if_icmp .gt 7, 3) := by decide +kernel
theorem dX6_isWithin_10 : decode cX6_isWithin 10 = .ok (.iconst 1, 1) := by decide +kernel
theorem dX6_isWithin_11 : decode cX6_isWithin 11 = .ok (.goto 4, 3) := by decide +kernel
theorem dX6_isWithin_14 : decode cX6_isWithin 14 = .ok (.iconst 0, 1) := by decide +kernel
theorem dX6_isWithin_15 : decode cX6_isWithin 15 = .ok (.ireturn, 1) := by decide +kernel
theorem dX6_coverAt_0 : decode cX6_coverAt 0 = .ok (.iload_n 1, 1) := by decide +kernel
theorem dX6_coverAt_1 : decode cX6_coverAt 1 = .ok (.ifCond .lt 20, 3) := by decide +kernel
theorem dX6_coverAt_4 : decode cX6_coverAt 4 = .ok (.iload_n 1, 1) := by decide +kernel
theorem dX6_coverAt_5 : decode cX6_coverAt 5 = .ok (.aload_n 0, 1) := by decide +kernel
theorem dX6_coverAt_6 : decode cX6_coverAt 6 = .ok (.getfield 57, 3) := by decide +kernel
theorem dX6_coverAt_9 : decode cX6_coverAt 9 = .ok (.if_icmp .ge 12, 3) := by decide +kernel
theorem dX6_coverAt_12 : decode cX6_coverAt 12 = .ok (.aload_n 0, 1) := by decide +kernel
theorem dX6_coverAt_13 : decode cX6_coverAt 13 = .ok (.getfield 18, 3) := by decide +kernel
theorem dX6_coverAt_16 : decode cX6_coverAt 16 = .ok (.iload_n 1, 1) := by decide +kernel
theorem dX6_coverAt_17 : decode cX6_coverAt 17 = .ok (.aaload, 1) := by decide +kernel
theorem dX6_coverAt_18 : decode cX6_coverAt 18 = .ok (.goto 4, 3) := by decide +kernel
theorem dX6_coverAt_21 : decode cX6_coverAt 21 = .ok (.aconst_null, 1) := by decide +kernel
theorem dX6_coverAt_22 : decode cX6_coverAt 22 = .ok (.areturn, 1) := by decide +kernel
theorem dX6_greatestFor_0 : decode cX6_greatestFor 0 = .ok (.aload_n 0, 1) := by decide +kernel
theorem dX6_greatestFor_1 : decode cX6_greatestFor 1 = .ok (.getfield 46, 3) := by decide +kernel
theorem dX6_greatestFor_4 : decode cX6_greatestFor 4 = .ok (.aload_n 1, 1) := by decide +kernel
theorem dX6_greatestFor_5 : decode cX6_greatestFor 5 = .ok (.iload_n 2, 1) := by decide +kernel
theorem dX6_greatestFor_6 : decode cX6_greatestFor 6 = .ok (.invokevirtual 170, 3) := by decide +kernel
theorem dX6_greatestFor_9 : decode cX6_greatestFor 9 = .ok (.ifCond .eq 13, 3) := by decide +kernel
theorem dX6_greatestFor_12 : decode cX6_greatestFor 12 = .ok (.aload_n 0, 1) := by decide +kernel
theorem dX6_greatestFor_13 : decode cX6_greatestFor 13 = .ok (.getfield 46, 3) := by decide +kernel
theorem dX6_greatestFor_16 : decode cX6_greatestFor 16 = .ok (.getfield 173, 3) := by decide +kernel
theorem dX6_greatestFor_19 : decode cX6_greatestFor 19 = .ok (.goto 5, 3) := by decide +kernel
theorem dX6_greatestFor_22 : decode cX6_greatestFor 22 = .ok (.ldc 141, 2) := by decide +kernel
theorem dX6_greatestFor_24 : decode cX6_greatestFor 24 = .ok (.ireturn, 1) := by decide +kernel
theorem dX6_greatestByOwnPartings_0 : decode cX6_greatestByOwnPartings 0 = .ok (.iconst 0, 1) := by decide +kernel
theorem dX6_greatestByOwnPartings_1 : decode cX6_greatestByOwnPartings 1 = .ok (.istore_n 2, 1) := by decide +kernel
theorem dX6_greatestByOwnPartings_2 : decode cX6_greatestByOwnPartings 2 = .ok (.iconst 0, 1) := by decide +kernel
theorem dX6_greatestByOwnPartings_3 : decode cX6_greatestByOwnPartings 3 = .ok (.istore_n 3, 1) := by decide +kernel
theorem dX6_greatestByOwnPartings_4 : decode cX6_greatestByOwnPartings 4 = .ok (.iload_n 3, 1) := by decide +kernel
theorem dX6_greatestByOwnPartings_5 : decode cX6_greatestByOwnPartings 5 = .ok (.aload_n 0, 1) := by decide +kernel
theorem dX6_greatestByOwnPartings_6 : decode cX6_greatestByOwnPartings 6 = .ok (.getfield 57, 3) := by decide +kernel
theorem dX6_greatestByOwnPartings_9 : decode cX6_greatestByOwnPartings 9 = .ok (.if_icmp .ge 62, 3) := by decide +kernel
theorem dX6_greatestByOwnPartings_12 : decode cX6_greatestByOwnPartings 12 = .ok (.aload_n 0, 1) := by decide +kernel
theorem dX6_greatestByOwnPartings_13 : decode cX6_greatestByOwnPartings 13 = .ok (.iload_n 3, 1) := by decide +kernel
theorem dX6_greatestByOwnPartings_14 : decode cX6_greatestByOwnPartings 14 = .ok (.invokevirtual 83, 3) := by decide +kernel
theorem dX6_greatestByOwnPartings_17 : decode cX6_greatestByOwnPartings 17 = .ok (.astore 4, 2) := by decide +kernel
theorem dX6_greatestByOwnPartings_19 : decode cX6_greatestByOwnPartings 19 = .ok (.aload 4, 2) := by decide +kernel
theorem dX6_greatestByOwnPartings_21 : decode cX6_greatestByOwnPartings 21 = .ok (.ifnull 44, 3) := by decide +kernel
theorem dX6_greatestByOwnPartings_24 : decode cX6_greatestByOwnPartings 24 = .ok (.iload_n 1, 1) := by decide +kernel
theorem dX6_greatestByOwnPartings_25 : decode cX6_greatestByOwnPartings 25 = .ok (.iconst 1, 1) := by decide +kernel
theorem dX6_greatestByOwnPartings_26 : decode cX6_greatestByOwnPartings 26 = .ok (.iload_n 3, 1) := by decide +kernel
theorem dX6_greatestByOwnPartings_27 : decode cX6_greatestByOwnPartings 27 = .ok (.ishl, 1) := by decide +kernel
theorem dX6_greatestByOwnPartings_28 : decode cX6_greatestByOwnPartings 28 = .ok (.iand, 1) := by decide +kernel
theorem dX6_greatestByOwnPartings_29 : decode cX6_greatestByOwnPartings 29 = .ok (.ifCond .ne 6, 3) := by decide +kernel
theorem dX6_greatestByOwnPartings_32 : decode cX6_greatestByOwnPartings 32 = .ok (.goto 33, 3) := by decide +kernel
theorem dX6_greatestByOwnPartings_35 : decode cX6_greatestByOwnPartings 35 = .ok (.aload_n 0, 1) := by decide +kernel
theorem dX6_greatestByOwnPartings_36 : decode cX6_greatestByOwnPartings 36 = .ok (.aload 4, 2) := by decide +kernel
theorem dX6_greatestByOwnPartings_38 : decode cX6_greatestByOwnPartings 38 = .ok (.aload_n 0, 1) := by decide +kernel
theorem dX6_greatestByOwnPartings_39 : decode cX6_greatestByOwnPartings 39 = .ok (.getfield 30, 3) := by decide +kernel
theorem dX6_greatestByOwnPartings_42 : decode cX6_greatestByOwnPartings 42 = .ok (.invokevirtual 185, 3) := by decide +kernel
theorem dX6_greatestByOwnPartings_45 : decode cX6_greatestByOwnPartings 45 = .ok (.invokevirtual 189, 3) := by decide +kernel
theorem dX6_greatestByOwnPartings_48 : decode cX6_greatestByOwnPartings 48 = .ok (.istore 5, 2) := by decide +kernel
theorem dX6_greatestByOwnPartings_50 : decode cX6_greatestByOwnPartings 50 = .ok (.iload 5, 2) := by decide +kernel
theorem dX6_greatestByOwnPartings_52 : decode cX6_greatestByOwnPartings 52 = .ok (.ldc 141, 2) := by decide +kernel
theorem dX6_greatestByOwnPartings_54 : decode cX6_greatestByOwnPartings 54 = .ok (.if_icmp .ne 6, 3) := by decide +kernel
theorem dX6_greatestByOwnPartings_57 : decode cX6_greatestByOwnPartings 57 = .ok (.ldc 141, 2) := by decide +kernel
theorem dX6_greatestByOwnPartings_59 : decode cX6_greatestByOwnPartings 59 = .ok (.ireturn, 1) := by decide +kernel
theorem dX6_greatestByOwnPartings_60 : decode cX6_greatestByOwnPartings 60 = .ok (.iload_n 2, 1) := by decide +kernel
theorem dX6_greatestByOwnPartings_61 : decode cX6_greatestByOwnPartings 61 = .ok (.iload 5, 2) := by decide +kernel
theorem dX6_greatestByOwnPartings_63 : decode cX6_greatestByOwnPartings 63 = .ok (.iadd, 1) := by decide +kernel
theorem dX6_greatestByOwnPartings_64 : decode cX6_greatestByOwnPartings 64 = .ok (.istore_n 2, 1) := by decide +kernel
theorem dX6_greatestByOwnPartings_65 : decode cX6_greatestByOwnPartings 65 = .ok (.iinc 3 1, 3) := by decide +kernel
theorem dX6_greatestByOwnPartings_68 : decode cX6_greatestByOwnPartings 68 = .ok (.goto (-64), 3) := by decide +kernel
theorem dX6_greatestByOwnPartings_71 : decode cX6_greatestByOwnPartings 71 = .ok (.iload_n 2, 1) := by decide +kernel
theorem dX6_greatestByOwnPartings_72 : decode cX6_greatestByOwnPartings 72 = .ok (.ireturn, 1) := by decide +kernel
theorem dX6_greatestByOneParting_0 : decode cX6_greatestByOneParting 0 = .ok (.aload_n 0, 1) := by decide +kernel
theorem dX6_greatestByOneParting_1 : decode cX6_greatestByOneParting 1 = .ok (.getfield 46, 3) := by decide +kernel
theorem dX6_greatestByOneParting_4 : decode cX6_greatestByOneParting 4 = .ok (.invokevirtual 214, 3) := by decide +kernel
theorem dX6_greatestByOneParting_7 : decode cX6_greatestByOneParting 7 = .ok (.iconst 0, 1) := by decide +kernel
theorem dX6_greatestByOneParting_8 : decode cX6_greatestByOneParting 8 = .ok (.istore_n 2, 1) := by decide +kernel
theorem dX6_greatestByOneParting_9 : decode cX6_greatestByOneParting 9 = .ok (.iload_n 2, 1) := by decide +kernel
theorem dX6_greatestByOneParting_10 : decode cX6_greatestByOneParting 10 = .ok (.aload_n 0, 1) := by decide +kernel
theorem dX6_greatestByOneParting_11 : decode cX6_greatestByOneParting 11 = .ok (.getfield 57, 3) := by decide +kernel
theorem dX6_greatestByOneParting_14 : decode cX6_greatestByOneParting 14 = .ok (.if_icmp .ge 35, 3) := by decide +kernel
theorem dX6_greatestByOneParting_17 : decode cX6_greatestByOneParting 17 = .ok (.aload_n 0, 1) := by decide +kernel
theorem dX6_greatestByOneParting_18 : decode cX6_greatestByOneParting 18 = .ok (.iload_n 2, 1) := by decide +kernel
theorem dX6_greatestByOneParting_19 : decode cX6_greatestByOneParting 19 = .ok (.invokevirtual 83, 3) := by decide +kernel
theorem dX6_greatestByOneParting_22 : decode cX6_greatestByOneParting 22 = .ok (.astore_n 3, 1) := by decide +kernel
theorem dX6_greatestByOneParting_23 : decode cX6_greatestByOneParting 23 = .ok (.aload_n 3, 1) := by decide +kernel
theorem dX6_greatestByOneParting_24 : decode cX6_greatestByOneParting 24 = .ok (.ifnull 19, 3) := by decide +kernel
theorem dX6_greatestByOneParting_27 : decode cX6_greatestByOneParting 27 = .ok (.iload_n 1, 1) := by decide +kernel
theorem dX6_greatestByOneParting_28 : decode cX6_greatestByOneParting 28 = .ok (.iconst 1, 1) := by decide +kernel
theorem dX6_greatestByOneParting_29 : decode cX6_greatestByOneParting 29 = .ok (.iload_n 2, 1) := by decide +kernel
theorem dX6_greatestByOneParting_30 : decode cX6_greatestByOneParting 30 = .ok (.ishl, 1) := by decide +kernel
theorem dX6_greatestByOneParting_31 : decode cX6_greatestByOneParting 31 = .ok (.iand, 1) := by decide +kernel
theorem dX6_greatestByOneParting_32 : decode cX6_greatestByOneParting 32 = .ok (.ifCond .eq 11, 3) := by decide +kernel
theorem dX6_greatestByOneParting_35 : decode cX6_greatestByOneParting 35 = .ok (.aload_n 0, 1) := by decide +kernel
theorem dX6_greatestByOneParting_36 : decode cX6_greatestByOneParting 36 = .ok (.getfield 46, 3) := by decide +kernel
theorem dX6_greatestByOneParting_39 : decode cX6_greatestByOneParting 39 = .ok (.aload_n 3, 1) := by decide +kernel
theorem dX6_greatestByOneParting_40 : decode cX6_greatestByOneParting 40 = .ok (.invokevirtual 217, 3) := by decide +kernel
theorem dX6_greatestByOneParting_43 : decode cX6_greatestByOneParting 43 = .ok (.iinc 2 1, 3) := by decide +kernel
theorem dX6_greatestByOneParting_46 : decode cX6_greatestByOneParting 46 = .ok (.goto (-37), 3) := by decide +kernel
theorem dX6_greatestByOneParting_49 : decode cX6_greatestByOneParting 49 = .ok (.aload_n 0, 1) := by decide +kernel
theorem dX6_greatestByOneParting_50 : decode cX6_greatestByOneParting 50 = .ok (.getfield 46, 3) := by decide +kernel
theorem dX6_greatestByOneParting_53 : decode cX6_greatestByOneParting 53 = .ok (.aload_n 0, 1) := by decide +kernel
theorem dX6_greatestByOneParting_54 : decode cX6_greatestByOneParting 54 = .ok (.getfield 30, 3) := by decide +kernel
theorem dX6_greatestByOneParting_57 : decode cX6_greatestByOneParting 57 = .ok (.invokevirtual 185, 3) := by decide +kernel
theorem dX6_greatestByOneParting_60 : decode cX6_greatestByOneParting 60 = .ok (.invokevirtual 220, 3) := by decide +kernel
theorem dX6_greatestByOneParting_63 : decode cX6_greatestByOneParting 63 = .ok (.ifCond .eq 13, 3) := by decide +kernel
theorem dX6_greatestByOneParting_66 : decode cX6_greatestByOneParting 66 = .ok (.aload_n 0, 1) := by decide +kernel
theorem dX6_greatestByOneParting_67 : decode cX6_greatestByOneParting 67 = .ok (.getfield 46, 3) := by decide +kernel
theorem dX6_greatestByOneParting_70 : decode cX6_greatestByOneParting 70 = .ok (.getfield 173, 3) := by decide +kernel
theorem dX6_greatestByOneParting_73 : decode cX6_greatestByOneParting 73 = .ok (.goto 5, 3) := by decide +kernel
theorem dX6_greatestByOneParting_76 : decode cX6_greatestByOneParting 76 = .ok (.ldc 141, 2) := by decide +kernel
theorem dX6_greatestByOneParting_78 : decode cX6_greatestByOneParting 78 = .ok (.ireturn, 1) := by decide +kernel
theorem dX6_lossOfGreatestWeight_0 : decode cX6_lossOfGreatestWeight 0 = .ok (.iconst (-1), 1) := by decide +kernel
theorem dX6_lossOfGreatestWeight_1 : decode cX6_lossOfGreatestWeight 1 = .ok (.istore_n 3, 1) := by decide +kernel
theorem dX6_lossOfGreatestWeight_2 : decode cX6_lossOfGreatestWeight 2 = .ok (.ldc 141, 2) := by decide +kernel
theorem dX6_lossOfGreatestWeight_4 : decode cX6_lossOfGreatestWeight 4 = .ok (.istore 4, 2) := by decide +kernel
theorem dX6_lossOfGreatestWeight_6 : decode cX6_lossOfGreatestWeight 6 = .ok (.iconst 0, 1) := by decide +kernel
theorem dX6_lossOfGreatestWeight_7 : decode cX6_lossOfGreatestWeight 7 = .ok (.istore 5, 2) := by decide +kernel
theorem dX6_lossOfGreatestWeight_9 : decode cX6_lossOfGreatestWeight 9 = .ok (.iload 5, 2) := by decide +kernel
theorem dX6_lossOfGreatestWeight_11 : decode cX6_lossOfGreatestWeight 11 = .ok (.aload_n 0, 1) := by decide +kernel
theorem dX6_lossOfGreatestWeight_12 : decode cX6_lossOfGreatestWeight 12 = .ok (.getfield 30, 3) := by decide +kernel
theorem dX6_lossOfGreatestWeight_15 : decode cX6_lossOfGreatestWeight 15 = .ok (.getfield 97, 3) := by decide +kernel
theorem dX6_lossOfGreatestWeight_18 : decode cX6_lossOfGreatestWeight 18 = .ok (.if_icmp .ge 60, 3) := by decide +kernel
theorem dX6_lossOfGreatestWeight_21 : decode cX6_lossOfGreatestWeight 21 = .ok (.aload_n 0, 1) := by decide +kernel
theorem dX6_lossOfGreatestWeight_22 : decode cX6_lossOfGreatestWeight 22 = .ok (.aload_n 1, 1) := by decide +kernel
theorem dX6_lossOfGreatestWeight_23 : decode cX6_lossOfGreatestWeight 23 = .ok (.aload_n 0, 1) := by decide +kernel
theorem dX6_lossOfGreatestWeight_24 : decode cX6_lossOfGreatestWeight 24 = .ok (.getfield 30, 3) := by decide +kernel
theorem dX6_lossOfGreatestWeight_27 : decode cX6_lossOfGreatestWeight 27 = .ok (.invokevirtual 185, 3) := by decide +kernel
theorem dX6_lossOfGreatestWeight_30 : decode cX6_lossOfGreatestWeight 30 = .ok (.iconst 1, 1) := by decide +kernel
theorem dX6_lossOfGreatestWeight_31 : decode cX6_lossOfGreatestWeight 31 = .ok (.iload 5, 2) := by decide +kernel
theorem dX6_lossOfGreatestWeight_33 : decode cX6_lossOfGreatestWeight 33 = .ok (.ishl, 1) := by decide +kernel
theorem dX6_lossOfGreatestWeight_34 : decode cX6_lossOfGreatestWeight 34 = .ok (.ixor, 1) := by decide +kernel
theorem dX6_lossOfGreatestWeight_35 : decode cX6_lossOfGreatestWeight 35 = .ok (.invokevirtual 189, 3) := by decide +kernel
theorem dX6_lossOfGreatestWeight_38 : decode cX6_lossOfGreatestWeight 38 = .ok (.istore 6, 2) := by decide +kernel
theorem dX6_lossOfGreatestWeight_40 : decode cX6_lossOfGreatestWeight 40 = .ok (.iload 6, 2) := by decide +kernel
theorem dX6_lossOfGreatestWeight_42 : decode cX6_lossOfGreatestWeight 42 = .ok (.ldc 141, 2) := by decide +kernel
theorem dX6_lossOfGreatestWeight_44 : decode cX6_lossOfGreatestWeight 44 = .ok (.if_icmp .ne 9, 3) := by decide +kernel
theorem dX6_lossOfGreatestWeight_47 : decode cX6_lossOfGreatestWeight 47 = .ok (.iload_n 2, 1) := by decide +kernel
theorem dX6_lossOfGreatestWeight_48 : decode cX6_lossOfGreatestWeight 48 = .ok (.ifCond .eq 24, 3) := by decide +kernel
theorem dX6_lossOfGreatestWeight_51 : decode cX6_lossOfGreatestWeight 51 = .ok (.iconst (-1), 1) := by decide +kernel
theorem dX6_lossOfGreatestWeight_52 : decode cX6_lossOfGreatestWeight 52 = .ok (.ireturn, 1) := by decide +kernel
theorem dX6_lossOfGreatestWeight_53 : decode cX6_lossOfGreatestWeight 53 = .ok (.iload_n 3, 1) := by decide +kernel
theorem dX6_lossOfGreatestWeight_54 : decode cX6_lossOfGreatestWeight 54 = .ok (.iconst (-1), 1) := by decide +kernel
theorem dX6_lossOfGreatestWeight_55 : decode cX6_lossOfGreatestWeight 55 = .ok (.if_icmp .eq 10, 3) := by decide +kernel
theorem dX6_lossOfGreatestWeight_58 : decode cX6_lossOfGreatestWeight 58 = .ok (.iload 6, 2) := by decide +kernel
theorem dX6_lossOfGreatestWeight_60 : decode cX6_lossOfGreatestWeight 60 = .ok (.iload 4, 2) := by decide +kernel
theorem dX6_lossOfGreatestWeight_62 : decode cX6_lossOfGreatestWeight 62 = .ok (.if_icmp .ge 10, 3) := by decide +kernel
theorem dX6_lossOfGreatestWeight_65 : decode cX6_lossOfGreatestWeight 65 = .ok (.iload 5, 2) := by decide +kernel
theorem dX6_lossOfGreatestWeight_67 : decode cX6_lossOfGreatestWeight 67 = .ok (.istore_n 3, 1) := by decide +kernel
theorem dX6_lossOfGreatestWeight_68 : decode cX6_lossOfGreatestWeight 68 = .ok (.iload 6, 2) := by decide +kernel
theorem dX6_lossOfGreatestWeight_70 : decode cX6_lossOfGreatestWeight 70 = .ok (.istore 4, 2) := by decide +kernel
theorem dX6_lossOfGreatestWeight_72 : decode cX6_lossOfGreatestWeight 72 = .ok (.iinc 5 1, 3) := by decide +kernel
theorem dX6_lossOfGreatestWeight_75 : decode cX6_lossOfGreatestWeight 75 = .ok (.goto (-66), 3) := by decide +kernel
theorem dX6_lossOfGreatestWeight_78 : decode cX6_lossOfGreatestWeight 78 = .ok (.iload_n 3, 1) := by decide +kernel
theorem dX6_lossOfGreatestWeight_79 : decode cX6_lossOfGreatestWeight 79 = .ok (.ireturn, 1) := by decide +kernel
end
section
theorem dL_word_0 : decode cL_word 0 = .ok (.aload_n 3, 1) := by decide +kernel
theorem dL_word_1 : decode cL_word 1 = .ok (.iconst 0, 1) := by decide +kernel
theorem dL_word_2 : decode cL_word 2 = .ok (.aload_n 0, 1) := by decide +kernel
theorem dL_word_3 : decode cL_word 3 = .ok (.iload_n 1, 1) := by decide +kernel
theorem dL_word_4 : decode cL_word 4 = .ok (.iload_n 2, 1) := by decide +kernel
theorem dL_word_5 : decode cL_word 5 = .ok (.invokevirtual 7, 3) := by decide +kernel
theorem dL_word_8 : decode cL_word 8 = .ok (.i2l, 1) := by decide +kernel
theorem dL_word_9 : decode cL_word 9 = .ok (.lastore, 1) := by decide +kernel
theorem dL_word_10 : decode cL_word 10 = .ok (.goto 7, 3) := by decide +kernel
theorem dL_word_13 : decode cL_word 13 = .ok (.astore 4, 2) := by decide +kernel
theorem dL_word_15 : decode cL_word 15 = .ok (.iconst 1, 1) := by decide +kernel
theorem dL_word_16 : decode cL_word 16 = .ok (.ireturn, 1) := by decide +kernel
theorem dL_word_17 : decode cL_word 17 = .ok (.iconst 0, 1) := by decide +kernel
theorem dL_word_18 : decode cL_word 18 = .ok (.ireturn, 1) := by decide +kernel
theorem dL_law_0 : decode cL_law 0 = .ok (.new 8, 3) := by decide +kernel
theorem dL_law_3 : decode cL_law 3 = .ok (.dup, 1) := by decide +kernel
theorem dL_law_4 : decode cL_law 4 = .ok (.invokespecial 15, 3) := by decide +kernel
theorem dL_law_7 : decode cL_law 7 = .ok (.astore_n 1, 1) := by decide +kernel
theorem dL_law_8 : decode cL_law 8 = .ok (.new 16, 3) := by decide +kernel
theorem dL_law_11 : decode cL_law 11 = .ok (.dup, 1) := by decide +kernel
theorem dL_law_12 : decode cL_law 12 = .ok (.invokespecial 18, 3) := by decide +kernel
theorem dL_law_15 : decode cL_law 15 = .ok (.astore_n 2, 1) := by decide +kernel
theorem dL_law_16 : decode cL_law 16 = .ok (.iconst 1, 1) := by decide +kernel
theorem dL_law_17 : decode cL_law 17 = .ok (.newarray .long, 2) := by decide +kernel
theorem dL_law_19 : decode cL_law 19 = .ok (.astore_n 3, 1) := by decide +kernel
theorem dL_law_20 : decode cL_law 20 = .ok (.iconst 0, 1) := by decide +kernel
theorem dL_law_21 : decode cL_law 21 = .ok (.istore 4, 2) := by decide +kernel
theorem dL_law_23 : decode cL_law 23 = .ok (.iload 4, 2) := by decide +kernel
theorem dL_law_25 : decode cL_law 25 = .ok (.aload_n 0, 1) := by decide +kernel
theorem dL_law_26 : decode cL_law 26 = .ok (.arraylength, 1) := by decide +kernel
theorem dL_law_27 : decode cL_law 27 = .ok (.bipush 7, 2) := by decide +kernel
theorem dL_law_29 : decode cL_law 29 = .ok (.isub, 1) := by decide +kernel
theorem dL_law_30 : decode cL_law 30 = .ok (.if_icmp .gt 1153, 3) := by decide +kernel
theorem dL_law_33 : decode cL_law 33 = .ok (.aload_n 0, 1) := by decide +kernel
theorem dL_law_34 : decode cL_law 34 = .ok (.iload 4, 2) := by decide +kernel
theorem dL_law_36 : decode cL_law 36 = .ok (.iaload, 1) := by decide +kernel
theorem dL_law_37 : decode cL_law 37 = .ok (.bipush 31, 2) := by decide +kernel
theorem dL_law_39 : decode cL_law 39 = .ok (.iand, 1) := by decide +kernel
theorem dL_law_40 : decode cL_law 40 = .ok (.tableswitch 1137 0 23 #[112, 185, 210, 223, 236, 304, 391, 428, 465, 502, 527, 564, 629, 678, 727, 776, 801, 850, 903, 940, 977, 1014, 1063, 1112], 112) := by decide +kernel
theorem dL_law_152 : decode cL_law 152 = .ok (.aload_n 1, 1) := by decide +kernel
theorem dL_law_153 : decode cL_law 153 = .ok (.aload_n 0, 1) := by decide +kernel
theorem dL_law_154 : decode cL_law 154 = .ok (.iload 4, 2) := by decide +kernel
theorem dL_law_156 : decode cL_law 156 = .ok (.iconst 1, 1) := by decide +kernel
theorem dL_law_157 : decode cL_law 157 = .ok (.iadd, 1) := by decide +kernel
theorem dL_law_158 : decode cL_law 158 = .ok (.iaload, 1) := by decide +kernel
theorem dL_law_159 : decode cL_law 159 = .ok (.aload_n 0, 1) := by decide +kernel
theorem dL_law_160 : decode cL_law 160 = .ok (.iload 4, 2) := by decide +kernel
theorem dL_law_162 : decode cL_law 162 = .ok (.iconst 2, 1) := by decide +kernel
theorem dL_law_163 : decode cL_law 163 = .ok (.iadd, 1) := by decide +kernel
theorem dL_law_164 : decode cL_law 164 = .ok (.iaload, 1) := by decide +kernel
theorem dL_law_165 : decode cL_law 165 = .ok (.aload_n 0, 1) := by decide +kernel
theorem dL_law_166 : decode cL_law 166 = .ok (.iload 4, 2) := by decide +kernel
theorem dL_law_168 : decode cL_law 168 = .ok (.iconst 3, 1) := by decide +kernel
theorem dL_law_169 : decode cL_law 169 = .ok (.iadd, 1) := by decide +kernel
theorem dL_law_170 : decode cL_law 170 = .ok (.iaload, 1) := by decide +kernel
theorem dL_law_171 : decode cL_law 171 = .ok (.aload_n 0, 1) := by decide +kernel
theorem dL_law_172 : decode cL_law 172 = .ok (.iload 4, 2) := by decide +kernel
theorem dL_law_174 : decode cL_law 174 = .ok (.iconst 4, 1) := by decide +kernel
theorem dL_law_175 : decode cL_law 175 = .ok (.iadd, 1) := by decide +kernel
theorem dL_law_176 : decode cL_law 176 = .ok (.iaload, 1) := by decide +kernel
theorem dL_law_177 : decode cL_law 177 = .ok (.aload_n 0, 1) := by decide +kernel
theorem dL_law_178 : decode cL_law 178 = .ok (.iload 4, 2) := by decide +kernel
theorem dL_law_180 : decode cL_law 180 = .ok (.iconst 5, 1) := by decide +kernel
theorem dL_law_181 : decode cL_law 181 = .ok (.iadd, 1) := by decide +kernel
theorem dL_law_182 : decode cL_law 182 = .ok (.iaload, 1) := by decide +kernel
theorem dL_law_183 : decode cL_law 183 = .ok (.invokevirtual 19, 3) := by decide +kernel
theorem dL_law_186 : decode cL_law 186 = .ok (.aload_n 2, 1) := by decide +kernel
theorem dL_law_187 : decode cL_law 187 = .ok (.aload_n 0, 1) := by decide +kernel
theorem dL_law_188 : decode cL_law 188 = .ok (.iload 4, 2) := by decide +kernel
theorem dL_law_190 : decode cL_law 190 = .ok (.iconst 1, 1) := by decide +kernel
theorem dL_law_191 : decode cL_law 191 = .ok (.iadd, 1) := by decide +kernel
theorem dL_law_192 : decode cL_law 192 = .ok (.iaload, 1) := by decide +kernel
theorem dL_law_193 : decode cL_law 193 = .ok (.aload_n 0, 1) := by decide +kernel
theorem dL_law_194 : decode cL_law 194 = .ok (.iload 4, 2) := by decide +kernel
theorem dL_law_196 : decode cL_law 196 = .ok (.iconst 2, 1) := by decide +kernel
theorem dL_law_197 : decode cL_law 197 = .ok (.iadd, 1) := by decide +kernel
theorem dL_law_198 : decode cL_law 198 = .ok (.iaload, 1) := by decide +kernel
theorem dL_law_199 : decode cL_law 199 = .ok (.aload_n 0, 1) := by decide +kernel
theorem dL_law_200 : decode cL_law 200 = .ok (.iload 4, 2) := by decide +kernel
theorem dL_law_202 : decode cL_law 202 = .ok (.iconst 3, 1) := by decide +kernel
theorem dL_law_203 : decode cL_law 203 = .ok (.iadd, 1) := by decide +kernel
theorem dL_law_204 : decode cL_law 204 = .ok (.iaload, 1) := by decide +kernel
theorem dL_law_205 : decode cL_law 205 = .ok (.aload_n 0, 1) := by decide +kernel
theorem dL_law_206 : decode cL_law 206 = .ok (.iload 4, 2) := by decide +kernel
theorem dL_law_208 : decode cL_law 208 = .ok (.iconst 4, 1) := by decide +kernel
theorem dL_law_209 : decode cL_law 209 = .ok (.iadd, 1) := by decide +kernel
theorem dL_law_210 : decode cL_law 210 = .ok (.iaload, 1) := by decide +kernel
theorem dL_law_211 : decode cL_law 211 = .ok (.aload_n 0, 1) := by decide +kernel
theorem dL_law_212 : decode cL_law 212 = .ok (.iload 4, 2) := by decide +kernel
theorem dL_law_214 : decode cL_law 214 = .ok (.iconst 5, 1) := by decide +kernel
theorem dL_law_215 : decode cL_law 215 = .ok (.iadd, 1) := by decide +kernel
theorem dL_law_216 : decode cL_law 216 = .ok (.iaload, 1) := by decide +kernel
theorem dL_law_217 : decode cL_law 217 = .ok (.invokevirtual 23, 3) := by decide +kernel
theorem dL_law_220 : decode cL_law 220 = .ok (.if_icmp .eq 957, 3) := by decide +kernel
theorem dL_law_223 : decode cL_law 223 = .ok (.iconst 0, 1) := by decide +kernel
theorem dL_law_224 : decode cL_law 224 = .ok (.ireturn, 1) := by decide +kernel
theorem dL_law_225 : decode cL_law 225 = .ok (.aload_n 1, 1) := by decide +kernel
theorem dL_law_226 : decode cL_law 226 = .ok (.aload_n 0, 1) := by decide +kernel
theorem dL_law_227 : decode cL_law 227 = .ok (.iload 4, 2) := by decide +kernel
theorem dL_law_229 : decode cL_law 229 = .ok (.iconst 1, 1) := by decide +kernel
theorem dL_law_230 : decode cL_law 230 = .ok (.iadd, 1) := by decide +kernel
theorem dL_law_231 : decode cL_law 231 = .ok (.iaload, 1) := by decide +kernel
theorem dL_law_232 : decode cL_law 232 = .ok (.invokevirtual 24, 3) := by decide +kernel
theorem dL_law_235 : decode cL_law 235 = .ok (.aload_n 2, 1) := by decide +kernel
theorem dL_law_236 : decode cL_law 236 = .ok (.aload_n 0, 1) := by decide +kernel
theorem dL_law_237 : decode cL_law 237 = .ok (.iload 4, 2) := by decide +kernel
theorem dL_law_239 : decode cL_law 239 = .ok (.iconst 1, 1) := by decide +kernel
theorem dL_law_240 : decode cL_law 240 = .ok (.iadd, 1) := by decide +kernel
theorem dL_law_241 : decode cL_law 241 = .ok (.iaload, 1) := by decide +kernel
theorem dL_law_242 : decode cL_law 242 = .ok (.invokevirtual 28, 3) := by decide +kernel
theorem dL_law_245 : decode cL_law 245 = .ok (.if_icmp .eq 932, 3) := by decide +kernel
theorem dL_law_248 : decode cL_law 248 = .ok (.iconst 0, 1) := by decide +kernel
theorem dL_law_249 : decode cL_law 249 = .ok (.ireturn, 1) := by decide +kernel
theorem dL_law_250 : decode cL_law 250 = .ok (.aload_n 1, 1) := by decide +kernel
theorem dL_law_251 : decode cL_law 251 = .ok (.invokevirtual 29, 3) := by decide +kernel
theorem dL_law_254 : decode cL_law 254 = .ok (.aload_n 2, 1) := by decide +kernel
theorem dL_law_255 : decode cL_law 255 = .ok (.invokevirtual 33, 3) := by decide +kernel
theorem dL_law_258 : decode cL_law 258 = .ok (.if_icmp .eq 919, 3) := by decide +kernel
theorem dL_law_261 : decode cL_law 261 = .ok (.iconst 0, 1) := by decide +kernel
theorem dL_law_262 : decode cL_law 262 = .ok (.ireturn, 1) := by decide +kernel
theorem dL_law_263 : decode cL_law 263 = .ok (.aload_n 1, 1) := by decide +kernel
theorem dL_law_264 : decode cL_law 264 = .ok (.invokevirtual 34, 3) := by decide +kernel
theorem dL_law_267 : decode cL_law 267 = .ok (.aload_n 2, 1) := by decide +kernel
theorem dL_law_268 : decode cL_law 268 = .ok (.invokevirtual 37, 3) := by decide +kernel
theorem dL_law_271 : decode cL_law 271 = .ok (.if_icmp .eq 906, 3) := by decide +kernel
theorem dL_law_274 : decode cL_law 274 = .ok (.iconst 0, 1) := by decide +kernel
theorem dL_law_275 : decode cL_law 275 = .ok (.ireturn, 1) := by decide +kernel
theorem dL_law_276 : decode cL_law 276 = .ok (.aload_n 1, 1) := by decide +kernel
theorem dL_law_277 : decode cL_law 277 = .ok (.aload_n 0, 1) := by decide +kernel
theorem dL_law_278 : decode cL_law 278 = .ok (.iload 4, 2) := by decide +kernel
theorem dL_law_280 : decode cL_law 280 = .ok (.iconst 1, 1) := by decide +kernel
theorem dL_law_281 : decode cL_law 281 = .ok (.iadd, 1) := by decide +kernel
theorem dL_law_282 : decode cL_law 282 = .ok (.iaload, 1) := by decide +kernel
theorem dL_law_283 : decode cL_law 283 = .ok (.aload_n 0, 1) := by decide +kernel
theorem dL_law_284 : decode cL_law 284 = .ok (.iload 4, 2) := by decide +kernel
theorem dL_law_286 : decode cL_law 286 = .ok (.iconst 2, 1) := by decide +kernel
theorem dL_law_287 : decode cL_law 287 = .ok (.iadd, 1) := by decide +kernel
theorem dL_law_288 : decode cL_law 288 = .ok (.iaload, 1) := by decide +kernel
theorem dL_law_289 : decode cL_law 289 = .ok (.aload_n 3, 1) := by decide +kernel
theorem dL_law_290 : decode cL_law 290 = .ok (.invokestatic 38, 3) := by decide +kernel
theorem dL_law_293 : decode cL_law 293 = .ok (.istore 5, 2) := by decide +kernel
theorem dL_law_295 : decode cL_law 295 = .ok (.aload_n 2, 1) := by decide +kernel
theorem dL_law_296 : decode cL_law 296 = .ok (.aload_n 0, 1) := by decide +kernel
theorem dL_law_297 : decode cL_law 297 = .ok (.iload 4, 2) := by decide +kernel
theorem dL_law_299 : decode cL_law 299 = .ok (.iconst 1, 1) := by decide +kernel
theorem dL_law_300 : decode cL_law 300 = .ok (.iadd, 1) := by decide +kernel
theorem dL_law_301 : decode cL_law 301 = .ok (.iaload, 1) := by decide +kernel
theorem dL_law_302 : decode cL_law 302 = .ok (.aload_n 0, 1) := by decide +kernel
theorem dL_law_303 : decode cL_law 303 = .ok (.iload 4, 2) := by decide +kernel
theorem dL_law_305 : decode cL_law 305 = .ok (.iconst 2, 1) := by decide +kernel
theorem dL_law_306 : decode cL_law 306 = .ok (.iadd, 1) := by decide +kernel
theorem dL_law_307 : decode cL_law 307 = .ok (.iaload, 1) := by decide +kernel
theorem dL_law_308 : decode cL_law 308 = .ok (.invokevirtual 43, 3) := by decide +kernel
theorem dL_law_311 : decode cL_law 311 = .ok (.istore 6, 2) := by decide +kernel
theorem dL_law_313 : decode cL_law 313 = .ok (.aload_n 2, 1) := by decide +kernel
theorem dL_law_314 : decode cL_law 314 = .ok (.invokevirtual 44, 3) := by decide +kernel
theorem dL_law_317 : decode cL_law 317 = .ok (.iload 5, 2) := by decide +kernel
theorem dL_law_319 : decode cL_law 319 = .ok (.if_icmp .eq 5, 3) := by decide +kernel
theorem dL_law_322 : decode cL_law 322 = .ok (.iconst 0, 1) := by decide +kernel
theorem dL_law_323 : decode cL_law 323 = .ok (.ireturn, 1) := by decide +kernel
theorem dL_law_324 : decode cL_law 324 = .ok (.iload 5, 2) := by decide +kernel
theorem dL_law_326 : decode cL_law 326 = .ok (.ifCond .ne 15, 3) := by decide +kernel
theorem dL_law_329 : decode cL_law 329 = .ok (.aload_n 3, 1) := by decide +kernel
theorem dL_law_330 : decode cL_law 330 = .ok (.iconst 0, 1) := by decide +kernel
theorem dL_law_331 : decode cL_law 331 = .ok (.laload, 1) := by decide +kernel
theorem dL_law_332 : decode cL_law 332 = .ok (.iload 6, 2) := by decide +kernel
theorem dL_law_334 : decode cL_law 334 = .ok (.i2l, 1) := by decide +kernel
theorem dL_law_335 : decode cL_law 335 = .ok (.lcmp, 1) := by decide +kernel
theorem dL_law_336 : decode cL_law 336 = .ok (.ifCond .eq 5, 3) := by decide +kernel
theorem dL_law_339 : decode cL_law 339 = .ok (.iconst 0, 1) := by decide +kernel
theorem dL_law_340 : decode cL_law 340 = .ok (.ireturn, 1) := by decide +kernel
theorem dL_law_341 : decode cL_law 341 = .ok (.goto 836, 3) := by decide +kernel
theorem dL_law_344 : decode cL_law 344 = .ok (.aload_n 1, 1) := by decide +kernel
theorem dL_law_345 : decode cL_law 345 = .ok (.aload_n 0, 1) := by decide +kernel
theorem dL_law_346 : decode cL_law 346 = .ok (.iload 4, 2) := by decide +kernel
theorem dL_law_348 : decode cL_law 348 = .ok (.iconst 1, 1) := by decide +kernel
theorem dL_law_349 : decode cL_law 349 = .ok (.iadd, 1) := by decide +kernel
theorem dL_law_350 : decode cL_law 350 = .ok (.iaload, 1) := by decide +kernel
theorem dL_law_351 : decode cL_law 351 = .ok (.aload_n 0, 1) := by decide +kernel
theorem dL_law_352 : decode cL_law 352 = .ok (.iload 4, 2) := by decide +kernel
theorem dL_law_354 : decode cL_law 354 = .ok (.iconst 2, 1) := by decide +kernel
theorem dL_law_355 : decode cL_law 355 = .ok (.iadd, 1) := by decide +kernel
theorem dL_law_356 : decode cL_law 356 = .ok (.iaload, 1) := by decide +kernel
theorem dL_law_357 : decode cL_law 357 = .ok (.aload_n 0, 1) := by decide +kernel
theorem dL_law_358 : decode cL_law 358 = .ok (.iload 4, 2) := by decide +kernel
theorem dL_law_360 : decode cL_law 360 = .ok (.iconst 3, 1) := by decide +kernel
theorem dL_law_361 : decode cL_law 361 = .ok (.iadd, 1) := by decide +kernel
theorem dL_law_362 : decode cL_law 362 = .ok (.iaload, 1) := by decide +kernel
theorem dL_law_363 : decode cL_law 363 = .ok (.aload_n 0, 1) := by decide +kernel
theorem dL_law_364 : decode cL_law 364 = .ok (.iload 4, 2) := by decide +kernel
theorem dL_law_366 : decode cL_law 366 = .ok (.iconst 4, 1) := by decide +kernel
theorem dL_law_367 : decode cL_law 367 = .ok (.iadd, 1) := by decide +kernel
theorem dL_law_368 : decode cL_law 368 = .ok (.iaload, 1) := by decide +kernel
theorem dL_law_369 : decode cL_law 369 = .ok (.aload_n 0, 1) := by decide +kernel
theorem dL_law_370 : decode cL_law 370 = .ok (.iload 4, 2) := by decide +kernel
theorem dL_law_372 : decode cL_law 372 = .ok (.iconst 5, 1) := by decide +kernel
theorem dL_law_373 : decode cL_law 373 = .ok (.iadd, 1) := by decide +kernel
theorem dL_law_374 : decode cL_law 374 = .ok (.iaload, 1) := by decide +kernel
theorem dL_law_375 : decode cL_law 375 = .ok (.aload_n 0, 1) := by decide +kernel
theorem dL_law_376 : decode cL_law 376 = .ok (.iload 4, 2) := by decide +kernel
theorem dL_law_378 : decode cL_law 378 = .ok (.bipush 6, 2) := by decide +kernel
theorem dL_law_380 : decode cL_law 380 = .ok (.iadd, 1) := by decide +kernel
theorem dL_law_381 : decode cL_law 381 = .ok (.iaload, 1) := by decide +kernel
theorem dL_law_382 : decode cL_law 382 = .ok (.invokevirtual 47, 3) := by decide +kernel
theorem dL_law_385 : decode cL_law 385 = .ok (.aload_n 2, 1) := by decide +kernel
theorem dL_law_386 : decode cL_law 386 = .ok (.aload_n 0, 1) := by decide +kernel
theorem dL_law_387 : decode cL_law 387 = .ok (.iload 4, 2) := by decide +kernel
theorem dL_law_389 : decode cL_law 389 = .ok (.iconst 1, 1) := by decide +kernel
theorem dL_law_390 : decode cL_law 390 = .ok (.iadd, 1) := by decide +kernel
theorem dL_law_391 : decode cL_law 391 = .ok (.iaload, 1) := by decide +kernel
theorem dL_law_392 : decode cL_law 392 = .ok (.aload_n 0, 1) := by decide +kernel
theorem dL_law_393 : decode cL_law 393 = .ok (.iload 4, 2) := by decide +kernel
theorem dL_law_395 : decode cL_law 395 = .ok (.iconst 2, 1) := by decide +kernel
theorem dL_law_396 : decode cL_law 396 = .ok (.iadd, 1) := by decide +kernel
theorem dL_law_397 : decode cL_law 397 = .ok (.iaload, 1) := by decide +kernel
theorem dL_law_398 : decode cL_law 398 = .ok (.aload_n 0, 1) := by decide +kernel
theorem dL_law_399 : decode cL_law 399 = .ok (.iload 4, 2) := by decide +kernel
theorem dL_law_401 : decode cL_law 401 = .ok (.iconst 3, 1) := by decide +kernel
theorem dL_law_402 : decode cL_law 402 = .ok (.iadd, 1) := by decide +kernel
theorem dL_law_403 : decode cL_law 403 = .ok (.iaload, 1) := by decide +kernel
theorem dL_law_404 : decode cL_law 404 = .ok (.aload_n 0, 1) := by decide +kernel
theorem dL_law_405 : decode cL_law 405 = .ok (.iload 4, 2) := by decide +kernel
theorem dL_law_407 : decode cL_law 407 = .ok (.iconst 4, 1) := by decide +kernel
theorem dL_law_408 : decode cL_law 408 = .ok (.iadd, 1) := by decide +kernel
theorem dL_law_409 : decode cL_law 409 = .ok (.iaload, 1) := by decide +kernel
theorem dL_law_410 : decode cL_law 410 = .ok (.aload_n 0, 1) := by decide +kernel
theorem dL_law_411 : decode cL_law 411 = .ok (.iload 4, 2) := by decide +kernel
theorem dL_law_413 : decode cL_law 413 = .ok (.iconst 5, 1) := by decide +kernel
theorem dL_law_414 : decode cL_law 414 = .ok (.iadd, 1) := by decide +kernel
theorem dL_law_415 : decode cL_law 415 = .ok (.iaload, 1) := by decide +kernel
theorem dL_law_416 : decode cL_law 416 = .ok (.aload_n 0, 1) := by decide +kernel
theorem dL_law_417 : decode cL_law 417 = .ok (.iload 4, 2) := by decide +kernel
theorem dL_law_419 : decode cL_law 419 = .ok (.bipush 6, 2) := by decide +kernel
theorem dL_law_421 : decode cL_law 421 = .ok (.iadd, 1) := by decide +kernel
theorem dL_law_422 : decode cL_law 422 = .ok (.iaload, 1) := by decide +kernel
theorem dL_law_423 : decode cL_law 423 = .ok (.invokevirtual 51, 3) := by decide +kernel
theorem dL_law_426 : decode cL_law 426 = .ok (.if_icmp .eq 751, 3) := by decide +kernel
theorem dL_law_429 : decode cL_law 429 = .ok (.iconst 0, 1) := by decide +kernel
theorem dL_law_430 : decode cL_law 430 = .ok (.ireturn, 1) := by decide +kernel
theorem dL_law_431 : decode cL_law 431 = .ok (.aload_n 1, 1) := by decide +kernel
theorem dL_law_432 : decode cL_law 432 = .ok (.aload_n 0, 1) := by decide +kernel
theorem dL_law_433 : decode cL_law 433 = .ok (.iload 4, 2) := by decide +kernel
theorem dL_law_435 : decode cL_law 435 = .ok (.iconst 1, 1) := by decide +kernel
theorem dL_law_436 : decode cL_law 436 = .ok (.iadd, 1) := by decide +kernel
theorem dL_law_437 : decode cL_law 437 = .ok (.iaload, 1) := by decide +kernel
theorem dL_law_438 : decode cL_law 438 = .ok (.aload_n 0, 1) := by decide +kernel
theorem dL_law_439 : decode cL_law 439 = .ok (.iload 4, 2) := by decide +kernel
theorem dL_law_441 : decode cL_law 441 = .ok (.iconst 2, 1) := by decide +kernel
theorem dL_law_442 : decode cL_law 442 = .ok (.iadd, 1) := by decide +kernel
theorem dL_law_443 : decode cL_law 443 = .ok (.iaload, 1) := by decide +kernel
theorem dL_law_444 : decode cL_law 444 = .ok (.invokevirtual 52, 3) := by decide +kernel
theorem dL_law_447 : decode cL_law 447 = .ok (.aload_n 2, 1) := by decide +kernel
theorem dL_law_448 : decode cL_law 448 = .ok (.aload_n 0, 1) := by decide +kernel
theorem dL_law_449 : decode cL_law 449 = .ok (.iload 4, 2) := by decide +kernel
theorem dL_law_451 : decode cL_law 451 = .ok (.iconst 1, 1) := by decide +kernel
theorem dL_law_452 : decode cL_law 452 = .ok (.iadd, 1) := by decide +kernel
theorem dL_law_453 : decode cL_law 453 = .ok (.iaload, 1) := by decide +kernel
theorem dL_law_454 : decode cL_law 454 = .ok (.aload_n 0, 1) := by decide +kernel
theorem dL_law_455 : decode cL_law 455 = .ok (.iload 4, 2) := by decide +kernel
theorem dL_law_457 : decode cL_law 457 = .ok (.iconst 2, 1) := by decide +kernel
theorem dL_law_458 : decode cL_law 458 = .ok (.iadd, 1) := by decide +kernel
theorem dL_law_459 : decode cL_law 459 = .ok (.iaload, 1) := by decide +kernel
theorem dL_law_460 : decode cL_law 460 = .ok (.invokevirtual 55, 3) := by decide +kernel
theorem dL_law_463 : decode cL_law 463 = .ok (.if_icmp .eq 714, 3) := by decide +kernel
theorem dL_law_466 : decode cL_law 466 = .ok (.iconst 0, 1) := by decide +kernel
theorem dL_law_467 : decode cL_law 467 = .ok (.ireturn, 1) := by decide +kernel
theorem dL_law_468 : decode cL_law 468 = .ok (.aload_n 1, 1) := by decide +kernel
theorem dL_law_469 : decode cL_law 469 = .ok (.aload_n 0, 1) := by decide +kernel
theorem dL_law_470 : decode cL_law 470 = .ok (.iload 4, 2) := by decide +kernel
theorem dL_law_472 : decode cL_law 472 = .ok (.iconst 1, 1) := by decide +kernel
theorem dL_law_473 : decode cL_law 473 = .ok (.iadd, 1) := by decide +kernel
theorem dL_law_474 : decode cL_law 474 = .ok (.iaload, 1) := by decide +kernel
theorem dL_law_475 : decode cL_law 475 = .ok (.aload_n 0, 1) := by decide +kernel
theorem dL_law_476 : decode cL_law 476 = .ok (.iload 4, 2) := by decide +kernel
theorem dL_law_478 : decode cL_law 478 = .ok (.iconst 2, 1) := by decide +kernel
theorem dL_law_479 : decode cL_law 479 = .ok (.iadd, 1) := by decide +kernel
theorem dL_law_480 : decode cL_law 480 = .ok (.iaload, 1) := by decide +kernel
theorem dL_law_481 : decode cL_law 481 = .ok (.invokevirtual 56, 3) := by decide +kernel
theorem dL_law_484 : decode cL_law 484 = .ok (.aload_n 2, 1) := by decide +kernel
theorem dL_law_485 : decode cL_law 485 = .ok (.aload_n 0, 1) := by decide +kernel
theorem dL_law_486 : decode cL_law 486 = .ok (.iload 4, 2) := by decide +kernel
theorem dL_law_488 : decode cL_law 488 = .ok (.iconst 1, 1) := by decide +kernel
theorem dL_law_489 : decode cL_law 489 = .ok (.iadd, 1) := by decide +kernel
theorem dL_law_490 : decode cL_law 490 = .ok (.iaload, 1) := by decide +kernel
theorem dL_law_491 : decode cL_law 491 = .ok (.aload_n 0, 1) := by decide +kernel
theorem dL_law_492 : decode cL_law 492 = .ok (.iload 4, 2) := by decide +kernel
theorem dL_law_494 : decode cL_law 494 = .ok (.iconst 2, 1) := by decide +kernel
theorem dL_law_495 : decode cL_law 495 = .ok (.iadd, 1) := by decide +kernel
theorem dL_law_496 : decode cL_law 496 = .ok (.iaload, 1) := by decide +kernel
theorem dL_law_497 : decode cL_law 497 = .ok (.invokevirtual 59, 3) := by decide +kernel
theorem dL_law_500 : decode cL_law 500 = .ok (.if_icmp .eq 677, 3) := by decide +kernel
theorem dL_law_503 : decode cL_law 503 = .ok (.iconst 0, 1) := by decide +kernel
theorem dL_law_504 : decode cL_law 504 = .ok (.ireturn, 1) := by decide +kernel
theorem dL_law_505 : decode cL_law 505 = .ok (.aload_n 1, 1) := by decide +kernel
theorem dL_law_506 : decode cL_law 506 = .ok (.aload_n 0, 1) := by decide +kernel
theorem dL_law_507 : decode cL_law 507 = .ok (.iload 4, 2) := by decide +kernel
theorem dL_law_509 : decode cL_law 509 = .ok (.iconst 1, 1) := by decide +kernel
theorem dL_law_510 : decode cL_law 510 = .ok (.iadd, 1) := by decide +kernel
theorem dL_law_511 : decode cL_law 511 = .ok (.iaload, 1) := by decide +kernel
theorem dL_law_512 : decode cL_law 512 = .ok (.aload_n 0, 1) := by decide +kernel
theorem dL_law_513 : decode cL_law 513 = .ok (.iload 4, 2) := by decide +kernel
theorem dL_law_515 : decode cL_law 515 = .ok (.iconst 2, 1) := by decide +kernel
theorem dL_law_516 : decode cL_law 516 = .ok (.iadd, 1) := by decide +kernel
theorem dL_law_517 : decode cL_law 517 = .ok (.iaload, 1) := by decide +kernel
theorem dL_law_518 : decode cL_law 518 = .ok (.invokevirtual 60, 3) := by decide +kernel
theorem dL_law_521 : decode cL_law 521 = .ok (.aload_n 2, 1) := by decide +kernel
theorem dL_law_522 : decode cL_law 522 = .ok (.aload_n 0, 1) := by decide +kernel
theorem dL_law_523 : decode cL_law 523 = .ok (.iload 4, 2) := by decide +kernel
theorem dL_law_525 : decode cL_law 525 = .ok (.iconst 1, 1) := by decide +kernel
theorem dL_law_526 : decode cL_law 526 = .ok (.iadd, 1) := by decide +kernel
theorem dL_law_527 : decode cL_law 527 = .ok (.iaload, 1) := by decide +kernel
theorem dL_law_528 : decode cL_law 528 = .ok (.aload_n 0, 1) := by decide +kernel
theorem dL_law_529 : decode cL_law 529 = .ok (.iload 4, 2) := by decide +kernel
theorem dL_law_531 : decode cL_law 531 = .ok (.iconst 2, 1) := by decide +kernel
theorem dL_law_532 : decode cL_law 532 = .ok (.iadd, 1) := by decide +kernel
theorem dL_law_533 : decode cL_law 533 = .ok (.iaload, 1) := by decide +kernel
theorem dL_law_534 : decode cL_law 534 = .ok (.invokevirtual 64, 3) := by decide +kernel
theorem dL_law_537 : decode cL_law 537 = .ok (.if_icmp .eq 640, 3) := by decide +kernel
theorem dL_law_540 : decode cL_law 540 = .ok (.iconst 0, 1) := by decide +kernel
theorem dL_law_541 : decode cL_law 541 = .ok (.ireturn, 1) := by decide +kernel
theorem dL_law_542 : decode cL_law 542 = .ok (.aload_n 1, 1) := by decide +kernel
theorem dL_law_543 : decode cL_law 543 = .ok (.aload_n 0, 1) := by decide +kernel
theorem dL_law_544 : decode cL_law 544 = .ok (.iload 4, 2) := by decide +kernel
theorem dL_law_546 : decode cL_law 546 = .ok (.iconst 1, 1) := by decide +kernel
theorem dL_law_547 : decode cL_law 547 = .ok (.iadd, 1) := by decide +kernel
theorem dL_law_548 : decode cL_law 548 = .ok (.iaload, 1) := by decide +kernel
theorem dL_law_549 : decode cL_law 549 = .ok (.invokevirtual 65, 3) := by decide +kernel
theorem dL_law_552 : decode cL_law 552 = .ok (.aload_n 2, 1) := by decide +kernel
theorem dL_law_553 : decode cL_law 553 = .ok (.aload_n 0, 1) := by decide +kernel
theorem dL_law_554 : decode cL_law 554 = .ok (.iload 4, 2) := by decide +kernel
theorem dL_law_556 : decode cL_law 556 = .ok (.iconst 1, 1) := by decide +kernel
theorem dL_law_557 : decode cL_law 557 = .ok (.iadd, 1) := by decide +kernel
theorem dL_law_558 : decode cL_law 558 = .ok (.iaload, 1) := by decide +kernel
theorem dL_law_559 : decode cL_law 559 = .ok (.invokevirtual 69, 3) := by decide +kernel
theorem dL_law_562 : decode cL_law 562 = .ok (.if_icmp .eq 615, 3) := by decide +kernel
theorem dL_law_565 : decode cL_law 565 = .ok (.iconst 0, 1) := by decide +kernel
theorem dL_law_566 : decode cL_law 566 = .ok (.ireturn, 1) := by decide +kernel
theorem dL_law_567 : decode cL_law 567 = .ok (.aload_n 1, 1) := by decide +kernel
theorem dL_law_568 : decode cL_law 568 = .ok (.aload_n 0, 1) := by decide +kernel
theorem dL_law_569 : decode cL_law 569 = .ok (.iload 4, 2) := by decide +kernel
theorem dL_law_571 : decode cL_law 571 = .ok (.iconst 1, 1) := by decide +kernel
theorem dL_law_572 : decode cL_law 572 = .ok (.iadd, 1) := by decide +kernel
theorem dL_law_573 : decode cL_law 573 = .ok (.iaload, 1) := by decide +kernel
theorem dL_law_574 : decode cL_law 574 = .ok (.aload_n 0, 1) := by decide +kernel
theorem dL_law_575 : decode cL_law 575 = .ok (.iload 4, 2) := by decide +kernel
theorem dL_law_577 : decode cL_law 577 = .ok (.iconst 2, 1) := by decide +kernel
theorem dL_law_578 : decode cL_law 578 = .ok (.iadd, 1) := by decide +kernel
theorem dL_law_579 : decode cL_law 579 = .ok (.iaload, 1) := by decide +kernel
theorem dL_law_580 : decode cL_law 580 = .ok (.invokevirtual 70, 3) := by decide +kernel
theorem dL_law_583 : decode cL_law 583 = .ok (.aload_n 2, 1) := by decide +kernel
theorem dL_law_584 : decode cL_law 584 = .ok (.aload_n 0, 1) := by decide +kernel
theorem dL_law_585 : decode cL_law 585 = .ok (.iload 4, 2) := by decide +kernel
theorem dL_law_587 : decode cL_law 587 = .ok (.iconst 1, 1) := by decide +kernel
theorem dL_law_588 : decode cL_law 588 = .ok (.iadd, 1) := by decide +kernel
theorem dL_law_589 : decode cL_law 589 = .ok (.iaload, 1) := by decide +kernel
theorem dL_law_590 : decode cL_law 590 = .ok (.aload_n 0, 1) := by decide +kernel
theorem dL_law_591 : decode cL_law 591 = .ok (.iload 4, 2) := by decide +kernel
theorem dL_law_593 : decode cL_law 593 = .ok (.iconst 2, 1) := by decide +kernel
theorem dL_law_594 : decode cL_law 594 = .ok (.iadd, 1) := by decide +kernel
theorem dL_law_595 : decode cL_law 595 = .ok (.iaload, 1) := by decide +kernel
theorem dL_law_596 : decode cL_law 596 = .ok (.invokevirtual 73, 3) := by decide +kernel
theorem dL_law_599 : decode cL_law 599 = .ok (.if_icmp .eq 578, 3) := by decide +kernel
theorem dL_law_602 : decode cL_law 602 = .ok (.iconst 0, 1) := by decide +kernel
theorem dL_law_603 : decode cL_law 603 = .ok (.ireturn, 1) := by decide +kernel
theorem dL_law_604 : decode cL_law 604 = .ok (.aload_n 1, 1) := by decide +kernel
theorem dL_law_605 : decode cL_law 605 = .ok (.aload_n 0, 1) := by decide +kernel
theorem dL_law_606 : decode cL_law 606 = .ok (.iload 4, 2) := by decide +kernel
theorem dL_law_608 : decode cL_law 608 = .ok (.iconst 1, 1) := by decide +kernel
theorem dL_law_609 : decode cL_law 609 = .ok (.iadd, 1) := by decide +kernel
theorem dL_law_610 : decode cL_law 610 = .ok (.iaload, 1) := by decide +kernel
theorem dL_law_611 : decode cL_law 611 = .ok (.aload_n 0, 1) := by decide +kernel
theorem dL_law_612 : decode cL_law 612 = .ok (.iload 4, 2) := by decide +kernel
theorem dL_law_614 : decode cL_law 614 = .ok (.iconst 2, 1) := by decide +kernel
theorem dL_law_615 : decode cL_law 615 = .ok (.iadd, 1) := by decide +kernel
theorem dL_law_616 : decode cL_law 616 = .ok (.iaload, 1) := by decide +kernel
theorem dL_law_617 : decode cL_law 617 = .ok (.aload_n 0, 1) := by decide +kernel
theorem dL_law_618 : decode cL_law 618 = .ok (.iload 4, 2) := by decide +kernel
theorem dL_law_620 : decode cL_law 620 = .ok (.iconst 3, 1) := by decide +kernel
theorem dL_law_621 : decode cL_law 621 = .ok (.iadd, 1) := by decide +kernel
theorem dL_law_622 : decode cL_law 622 = .ok (.iaload, 1) := by decide +kernel
theorem dL_law_623 : decode cL_law 623 = .ok (.ifCond .eq 7, 3) := by decide +kernel
theorem dL_law_626 : decode cL_law 626 = .ok (.iconst 1, 1) := by decide +kernel
theorem dL_law_627 : decode cL_law 627 = .ok (.goto 4, 3) := by decide +kernel
theorem dL_law_630 : decode cL_law 630 = .ok (.iconst 0, 1) := by decide +kernel
theorem dL_law_631 : decode cL_law 631 = .ok (.invokevirtual 74, 3) := by decide +kernel
theorem dL_law_634 : decode cL_law 634 = .ok (.aload_n 2, 1) := by decide +kernel
theorem dL_law_635 : decode cL_law 635 = .ok (.aload_n 0, 1) := by decide +kernel
theorem dL_law_636 : decode cL_law 636 = .ok (.iload 4, 2) := by decide +kernel
theorem dL_law_638 : decode cL_law 638 = .ok (.iconst 1, 1) := by decide +kernel
theorem dL_law_639 : decode cL_law 639 = .ok (.iadd, 1) := by decide +kernel
theorem dL_law_640 : decode cL_law 640 = .ok (.iaload, 1) := by decide +kernel
theorem dL_law_641 : decode cL_law 641 = .ok (.aload_n 0, 1) := by decide +kernel
theorem dL_law_642 : decode cL_law 642 = .ok (.iload 4, 2) := by decide +kernel
theorem dL_law_644 : decode cL_law 644 = .ok (.iconst 2, 1) := by decide +kernel
theorem dL_law_645 : decode cL_law 645 = .ok (.iadd, 1) := by decide +kernel
theorem dL_law_646 : decode cL_law 646 = .ok (.iaload, 1) := by decide +kernel
theorem dL_law_647 : decode cL_law 647 = .ok (.aload_n 0, 1) := by decide +kernel
theorem dL_law_648 : decode cL_law 648 = .ok (.iload 4, 2) := by decide +kernel
theorem dL_law_650 : decode cL_law 650 = .ok (.iconst 3, 1) := by decide +kernel
theorem dL_law_651 : decode cL_law 651 = .ok (.iadd, 1) := by decide +kernel
theorem dL_law_652 : decode cL_law 652 = .ok (.iaload, 1) := by decide +kernel
theorem dL_law_653 : decode cL_law 653 = .ok (.ifCond .eq 7, 3) := by decide +kernel
theorem dL_law_656 : decode cL_law 656 = .ok (.iconst 1, 1) := by decide +kernel
theorem dL_law_657 : decode cL_law 657 = .ok (.goto 4, 3) := by decide +kernel
theorem dL_law_660 : decode cL_law 660 = .ok (.iconst 0, 1) := by decide +kernel
theorem dL_law_661 : decode cL_law 661 = .ok (.invokevirtual 78, 3) := by decide +kernel
theorem dL_law_664 : decode cL_law 664 = .ok (.if_icmp .eq 513, 3) := by decide +kernel
theorem dL_law_667 : decode cL_law 667 = .ok (.iconst 0, 1) := by decide +kernel
theorem dL_law_668 : decode cL_law 668 = .ok (.ireturn, 1) := by decide +kernel
theorem dL_law_669 : decode cL_law 669 = .ok (.aload_n 1, 1) := by decide +kernel
theorem dL_law_670 : decode cL_law 670 = .ok (.aload_n 0, 1) := by decide +kernel
theorem dL_law_671 : decode cL_law 671 = .ok (.iload 4, 2) := by decide +kernel
theorem dL_law_673 : decode cL_law 673 = .ok (.iconst 1, 1) := by decide +kernel
theorem dL_law_674 : decode cL_law 674 = .ok (.iadd, 1) := by decide +kernel
theorem dL_law_675 : decode cL_law 675 = .ok (.iaload, 1) := by decide +kernel
theorem dL_law_676 : decode cL_law 676 = .ok (.aload_n 0, 1) := by decide +kernel
theorem dL_law_677 : decode cL_law 677 = .ok (.iload 4, 2) := by decide +kernel
theorem dL_law_679 : decode cL_law 679 = .ok (.iconst 2, 1) := by decide +kernel
theorem dL_law_680 : decode cL_law 680 = .ok (.iadd, 1) := by decide +kernel
theorem dL_law_681 : decode cL_law 681 = .ok (.iaload, 1) := by decide +kernel
theorem dL_law_682 : decode cL_law 682 = .ok (.aload_n 0, 1) := by decide +kernel
theorem dL_law_683 : decode cL_law 683 = .ok (.iload 4, 2) := by decide +kernel
theorem dL_law_685 : decode cL_law 685 = .ok (.iconst 3, 1) := by decide +kernel
theorem dL_law_686 : decode cL_law 686 = .ok (.iadd, 1) := by decide +kernel
theorem dL_law_687 : decode cL_law 687 = .ok (.iaload, 1) := by decide +kernel
theorem dL_law_688 : decode cL_law 688 = .ok (.invokevirtual 79, 3) := by decide +kernel
theorem dL_law_691 : decode cL_law 691 = .ok (.aload_n 2, 1) := by decide +kernel
theorem dL_law_692 : decode cL_law 692 = .ok (.aload_n 0, 1) := by decide +kernel
theorem dL_law_693 : decode cL_law 693 = .ok (.iload 4, 2) := by decide +kernel
theorem dL_law_695 : decode cL_law 695 = .ok (.iconst 1, 1) := by decide +kernel
theorem dL_law_696 : decode cL_law 696 = .ok (.iadd, 1) := by decide +kernel
theorem dL_law_697 : decode cL_law 697 = .ok (.iaload, 1) := by decide +kernel
theorem dL_law_698 : decode cL_law 698 = .ok (.aload_n 0, 1) := by decide +kernel
theorem dL_law_699 : decode cL_law 699 = .ok (.iload 4, 2) := by decide +kernel
theorem dL_law_701 : decode cL_law 701 = .ok (.iconst 2, 1) := by decide +kernel
theorem dL_law_702 : decode cL_law 702 = .ok (.iadd, 1) := by decide +kernel
theorem dL_law_703 : decode cL_law 703 = .ok (.iaload, 1) := by decide +kernel
theorem dL_law_704 : decode cL_law 704 = .ok (.aload_n 0, 1) := by decide +kernel
theorem dL_law_705 : decode cL_law 705 = .ok (.iload 4, 2) := by decide +kernel
theorem dL_law_707 : decode cL_law 707 = .ok (.iconst 3, 1) := by decide +kernel
theorem dL_law_708 : decode cL_law 708 = .ok (.iadd, 1) := by decide +kernel
theorem dL_law_709 : decode cL_law 709 = .ok (.iaload, 1) := by decide +kernel
theorem dL_law_710 : decode cL_law 710 = .ok (.invokevirtual 83, 3) := by decide +kernel
theorem dL_law_713 : decode cL_law 713 = .ok (.if_icmp .eq 464, 3) := by decide +kernel
theorem dL_law_716 : decode cL_law 716 = .ok (.iconst 0, 1) := by decide +kernel
theorem dL_law_717 : decode cL_law 717 = .ok (.ireturn, 1) := by decide +kernel
theorem dL_law_718 : decode cL_law 718 = .ok (.aload_n 1, 1) := by decide +kernel
theorem dL_law_719 : decode cL_law 719 = .ok (.aload_n 0, 1) := by decide +kernel
theorem dL_law_720 : decode cL_law 720 = .ok (.iload 4, 2) := by decide +kernel
theorem dL_law_722 : decode cL_law 722 = .ok (.iconst 1, 1) := by decide +kernel
theorem dL_law_723 : decode cL_law 723 = .ok (.iadd, 1) := by decide +kernel
theorem dL_law_724 : decode cL_law 724 = .ok (.iaload, 1) := by decide +kernel
theorem dL_law_725 : decode cL_law 725 = .ok (.aload_n 0, 1) := by decide +kernel
theorem dL_law_726 : decode cL_law 726 = .ok (.iload 4, 2) := by decide +kernel
theorem dL_law_728 : decode cL_law 728 = .ok (.iconst 2, 1) := by decide +kernel
theorem dL_law_729 : decode cL_law 729 = .ok (.iadd, 1) := by decide +kernel
theorem dL_law_730 : decode cL_law 730 = .ok (.iaload, 1) := by decide +kernel
theorem dL_law_731 : decode cL_law 731 = .ok (.aload_n 0, 1) := by decide +kernel
theorem dL_law_732 : decode cL_law 732 = .ok (.iload 4, 2) := by decide +kernel
theorem dL_law_734 : decode cL_law 734 = .ok (.iconst 3, 1) := by decide +kernel
theorem dL_law_735 : decode cL_law 735 = .ok (.iadd, 1) := by decide +kernel
theorem dL_law_736 : decode cL_law 736 = .ok (.iaload, 1) := by decide +kernel
theorem dL_law_737 : decode cL_law 737 = .ok (.invokevirtual 84, 3) := by decide +kernel
theorem dL_law_740 : decode cL_law 740 = .ok (.aload_n 2, 1) := by decide +kernel
theorem dL_law_741 : decode cL_law 741 = .ok (.aload_n 0, 1) := by decide +kernel
theorem dL_law_742 : decode cL_law 742 = .ok (.iload 4, 2) := by decide +kernel
theorem dL_law_744 : decode cL_law 744 = .ok (.iconst 1, 1) := by decide +kernel
theorem dL_law_745 : decode cL_law 745 = .ok (.iadd, 1) := by decide +kernel
theorem dL_law_746 : decode cL_law 746 = .ok (.iaload, 1) := by decide +kernel
theorem dL_law_747 : decode cL_law 747 = .ok (.aload_n 0, 1) := by decide +kernel
theorem dL_law_748 : decode cL_law 748 = .ok (.iload 4, 2) := by decide +kernel
theorem dL_law_750 : decode cL_law 750 = .ok (.iconst 2, 1) := by decide +kernel
theorem dL_law_751 : decode cL_law 751 = .ok (.iadd, 1) := by decide +kernel
theorem dL_law_752 : decode cL_law 752 = .ok (.iaload, 1) := by decide +kernel
theorem dL_law_753 : decode cL_law 753 = .ok (.aload_n 0, 1) := by decide +kernel
theorem dL_law_754 : decode cL_law 754 = .ok (.iload 4, 2) := by decide +kernel
theorem dL_law_756 : decode cL_law 756 = .ok (.iconst 3, 1) := by decide +kernel
theorem dL_law_757 : decode cL_law 757 = .ok (.iadd, 1) := by decide +kernel
theorem dL_law_758 : decode cL_law 758 = .ok (.iaload, 1) := by decide +kernel
theorem dL_law_759 : decode cL_law 759 = .ok (.invokevirtual 87, 3) := by decide +kernel
theorem dL_law_762 : decode cL_law 762 = .ok (.if_icmp .eq 415, 3) := by decide +kernel
theorem dL_law_765 : decode cL_law 765 = .ok (.iconst 0, 1) := by decide +kernel
theorem dL_law_766 : decode cL_law 766 = .ok (.ireturn, 1) := by decide +kernel
theorem dL_law_767 : decode cL_law 767 = .ok (.aload_n 1, 1) := by decide +kernel
theorem dL_law_768 : decode cL_law 768 = .ok (.aload_n 0, 1) := by decide +kernel
theorem dL_law_769 : decode cL_law 769 = .ok (.iload 4, 2) := by decide +kernel
theorem dL_law_771 : decode cL_law 771 = .ok (.iconst 1, 1) := by decide +kernel
theorem dL_law_772 : decode cL_law 772 = .ok (.iadd, 1) := by decide +kernel
theorem dL_law_773 : decode cL_law 773 = .ok (.iaload, 1) := by decide +kernel
theorem dL_law_774 : decode cL_law 774 = .ok (.aload_n 0, 1) := by decide +kernel
theorem dL_law_775 : decode cL_law 775 = .ok (.iload 4, 2) := by decide +kernel
theorem dL_law_777 : decode cL_law 777 = .ok (.iconst 2, 1) := by decide +kernel
theorem dL_law_778 : decode cL_law 778 = .ok (.iadd, 1) := by decide +kernel
theorem dL_law_779 : decode cL_law 779 = .ok (.iaload, 1) := by decide +kernel
theorem dL_law_780 : decode cL_law 780 = .ok (.aload_n 0, 1) := by decide +kernel
theorem dL_law_781 : decode cL_law 781 = .ok (.iload 4, 2) := by decide +kernel
theorem dL_law_783 : decode cL_law 783 = .ok (.iconst 3, 1) := by decide +kernel
theorem dL_law_784 : decode cL_law 784 = .ok (.iadd, 1) := by decide +kernel
theorem dL_law_785 : decode cL_law 785 = .ok (.iaload, 1) := by decide +kernel
theorem dL_law_786 : decode cL_law 786 = .ok (.invokevirtual 88, 3) := by decide +kernel
theorem dL_law_789 : decode cL_law 789 = .ok (.aload_n 2, 1) := by decide +kernel
theorem dL_law_790 : decode cL_law 790 = .ok (.aload_n 0, 1) := by decide +kernel
theorem dL_law_791 : decode cL_law 791 = .ok (.iload 4, 2) := by decide +kernel
theorem dL_law_793 : decode cL_law 793 = .ok (.iconst 1, 1) := by decide +kernel
theorem dL_law_794 : decode cL_law 794 = .ok (.iadd, 1) := by decide +kernel
theorem dL_law_795 : decode cL_law 795 = .ok (.iaload, 1) := by decide +kernel
theorem dL_law_796 : decode cL_law 796 = .ok (.aload_n 0, 1) := by decide +kernel
theorem dL_law_797 : decode cL_law 797 = .ok (.iload 4, 2) := by decide +kernel
theorem dL_law_799 : decode cL_law 799 = .ok (.iconst 2, 1) := by decide +kernel
theorem dL_law_800 : decode cL_law 800 = .ok (.iadd, 1) := by decide +kernel
theorem dL_law_801 : decode cL_law 801 = .ok (.iaload, 1) := by decide +kernel
theorem dL_law_802 : decode cL_law 802 = .ok (.aload_n 0, 1) := by decide +kernel
theorem dL_law_803 : decode cL_law 803 = .ok (.iload 4, 2) := by decide +kernel
theorem dL_law_805 : decode cL_law 805 = .ok (.iconst 3, 1) := by decide +kernel
theorem dL_law_806 : decode cL_law 806 = .ok (.iadd, 1) := by decide +kernel
theorem dL_law_807 : decode cL_law 807 = .ok (.iaload, 1) := by decide +kernel
theorem dL_law_808 : decode cL_law 808 = .ok (.invokevirtual 91, 3) := by decide +kernel
theorem dL_law_811 : decode cL_law 811 = .ok (.if_icmp .eq 366, 3) := by decide +kernel
theorem dL_law_814 : decode cL_law 814 = .ok (.iconst 0, 1) := by decide +kernel
theorem dL_law_815 : decode cL_law 815 = .ok (.ireturn, 1) := by decide +kernel
theorem dL_law_816 : decode cL_law 816 = .ok (.aload_n 1, 1) := by decide +kernel
theorem dL_law_817 : decode cL_law 817 = .ok (.aload_n 0, 1) := by decide +kernel
theorem dL_law_818 : decode cL_law 818 = .ok (.iload 4, 2) := by decide +kernel
theorem dL_law_820 : decode cL_law 820 = .ok (.iconst 1, 1) := by decide +kernel
theorem dL_law_821 : decode cL_law 821 = .ok (.iadd, 1) := by decide +kernel
theorem dL_law_822 : decode cL_law 822 = .ok (.iaload, 1) := by decide +kernel
theorem dL_law_823 : decode cL_law 823 = .ok (.invokevirtual 92, 3) := by decide +kernel
theorem dL_law_826 : decode cL_law 826 = .ok (.aload_n 2, 1) := by decide +kernel
theorem dL_law_827 : decode cL_law 827 = .ok (.aload_n 0, 1) := by decide +kernel
theorem dL_law_828 : decode cL_law 828 = .ok (.iload 4, 2) := by decide +kernel
theorem dL_law_830 : decode cL_law 830 = .ok (.iconst 1, 1) := by decide +kernel
theorem dL_law_831 : decode cL_law 831 = .ok (.iadd, 1) := by decide +kernel
theorem dL_law_832 : decode cL_law 832 = .ok (.iaload, 1) := by decide +kernel
theorem dL_law_833 : decode cL_law 833 = .ok (.invokevirtual 95, 3) := by decide +kernel
theorem dL_law_836 : decode cL_law 836 = .ok (.if_icmp .eq 341, 3) := by decide +kernel
theorem dL_law_839 : decode cL_law 839 = .ok (.iconst 0, 1) := by decide +kernel
theorem dL_law_840 : decode cL_law 840 = .ok (.ireturn, 1) := by decide +kernel
theorem dL_law_841 : decode cL_law 841 = .ok (.aload_n 1, 1) := by decide +kernel
theorem dL_law_842 : decode cL_law 842 = .ok (.aload_n 0, 1) := by decide +kernel
theorem dL_law_843 : decode cL_law 843 = .ok (.iload 4, 2) := by decide +kernel
theorem dL_law_845 : decode cL_law 845 = .ok (.iconst 1, 1) := by decide +kernel
theorem dL_law_846 : decode cL_law 846 = .ok (.iadd, 1) := by decide +kernel
theorem dL_law_847 : decode cL_law 847 = .ok (.iaload, 1) := by decide +kernel
theorem dL_law_848 : decode cL_law 848 = .ok (.aload_n 0, 1) := by decide +kernel
theorem dL_law_849 : decode cL_law 849 = .ok (.iload 4, 2) := by decide +kernel
theorem dL_law_851 : decode cL_law 851 = .ok (.iconst 2, 1) := by decide +kernel
theorem dL_law_852 : decode cL_law 852 = .ok (.iadd, 1) := by decide +kernel
theorem dL_law_853 : decode cL_law 853 = .ok (.iaload, 1) := by decide +kernel
theorem dL_law_854 : decode cL_law 854 = .ok (.aload_n 0, 1) := by decide +kernel
theorem dL_law_855 : decode cL_law 855 = .ok (.iload 4, 2) := by decide +kernel
theorem dL_law_857 : decode cL_law 857 = .ok (.iconst 3, 1) := by decide +kernel
theorem dL_law_858 : decode cL_law 858 = .ok (.iadd, 1) := by decide +kernel
theorem dL_law_859 : decode cL_law 859 = .ok (.iaload, 1) := by decide +kernel
theorem dL_law_860 : decode cL_law 860 = .ok (.invokevirtual 96, 3) := by decide +kernel
theorem dL_law_863 : decode cL_law 863 = .ok (.aload_n 2, 1) := by decide +kernel
theorem dL_law_864 : decode cL_law 864 = .ok (.aload_n 0, 1) := by decide +kernel
theorem dL_law_865 : decode cL_law 865 = .ok (.iload 4, 2) := by decide +kernel
theorem dL_law_867 : decode cL_law 867 = .ok (.iconst 1, 1) := by decide +kernel
theorem dL_law_868 : decode cL_law 868 = .ok (.iadd, 1) := by decide +kernel
theorem dL_law_869 : decode cL_law 869 = .ok (.iaload, 1) := by decide +kernel
theorem dL_law_870 : decode cL_law 870 = .ok (.aload_n 0, 1) := by decide +kernel
theorem dL_law_871 : decode cL_law 871 = .ok (.iload 4, 2) := by decide +kernel
theorem dL_law_873 : decode cL_law 873 = .ok (.iconst 2, 1) := by decide +kernel
theorem dL_law_874 : decode cL_law 874 = .ok (.iadd, 1) := by decide +kernel
theorem dL_law_875 : decode cL_law 875 = .ok (.iaload, 1) := by decide +kernel
theorem dL_law_876 : decode cL_law 876 = .ok (.aload_n 0, 1) := by decide +kernel
theorem dL_law_877 : decode cL_law 877 = .ok (.iload 4, 2) := by decide +kernel
theorem dL_law_879 : decode cL_law 879 = .ok (.iconst 3, 1) := by decide +kernel
theorem dL_law_880 : decode cL_law 880 = .ok (.iadd, 1) := by decide +kernel
theorem dL_law_881 : decode cL_law 881 = .ok (.iaload, 1) := by decide +kernel
theorem dL_law_882 : decode cL_law 882 = .ok (.invokevirtual 99, 3) := by decide +kernel
theorem dL_law_885 : decode cL_law 885 = .ok (.if_icmp .eq 292, 3) := by decide +kernel
theorem dL_law_888 : decode cL_law 888 = .ok (.iconst 0, 1) := by decide +kernel
theorem dL_law_889 : decode cL_law 889 = .ok (.ireturn, 1) := by decide +kernel
theorem dL_law_890 : decode cL_law 890 = .ok (.aload_n 1, 1) := by decide +kernel
theorem dL_law_891 : decode cL_law 891 = .ok (.aload_n 0, 1) := by decide +kernel
theorem dL_law_892 : decode cL_law 892 = .ok (.iload 4, 2) := by decide +kernel
theorem dL_law_894 : decode cL_law 894 = .ok (.iconst 1, 1) := by decide +kernel
theorem dL_law_895 : decode cL_law 895 = .ok (.iadd, 1) := by decide +kernel
theorem dL_law_896 : decode cL_law 896 = .ok (.iaload, 1) := by decide +kernel
theorem dL_law_897 : decode cL_law 897 = .ok (.aload_n 0, 1) := by decide +kernel
theorem dL_law_898 : decode cL_law 898 = .ok (.iload 4, 2) := by decide +kernel
theorem dL_law_900 : decode cL_law 900 = .ok (.iconst 2, 1) := by decide +kernel
theorem dL_law_901 : decode cL_law 901 = .ok (.iadd, 1) := by decide +kernel
theorem dL_law_902 : decode cL_law 902 = .ok (.iaload, 1) := by decide +kernel
theorem dL_law_903 : decode cL_law 903 = .ok (.ifCond .eq 7, 3) := by decide +kernel
theorem dL_law_906 : decode cL_law 906 = .ok (.iconst 1, 1) := by decide +kernel
theorem dL_law_907 : decode cL_law 907 = .ok (.goto 4, 3) := by decide +kernel
theorem dL_law_910 : decode cL_law 910 = .ok (.iconst 0, 1) := by decide +kernel
theorem dL_law_911 : decode cL_law 911 = .ok (.invokevirtual 100, 3) := by decide +kernel
theorem dL_law_914 : decode cL_law 914 = .ok (.aload_n 2, 1) := by decide +kernel
theorem dL_law_915 : decode cL_law 915 = .ok (.aload_n 0, 1) := by decide +kernel
theorem dL_law_916 : decode cL_law 916 = .ok (.iload 4, 2) := by decide +kernel
theorem dL_law_918 : decode cL_law 918 = .ok (.iconst 1, 1) := by decide +kernel
theorem dL_law_919 : decode cL_law 919 = .ok (.iadd, 1) := by decide +kernel
theorem dL_law_920 : decode cL_law 920 = .ok (.iaload, 1) := by decide +kernel
theorem dL_law_921 : decode cL_law 921 = .ok (.aload_n 0, 1) := by decide +kernel
theorem dL_law_922 : decode cL_law 922 = .ok (.iload 4, 2) := by decide +kernel
theorem dL_law_924 : decode cL_law 924 = .ok (.iconst 2, 1) := by decide +kernel
theorem dL_law_925 : decode cL_law 925 = .ok (.iadd, 1) := by decide +kernel
theorem dL_law_926 : decode cL_law 926 = .ok (.iaload, 1) := by decide +kernel
theorem dL_law_927 : decode cL_law 927 = .ok (.ifCond .eq 7, 3) := by decide +kernel
theorem dL_law_930 : decode cL_law 930 = .ok (.iconst 1, 1) := by decide +kernel
theorem dL_law_931 : decode cL_law 931 = .ok (.goto 4, 3) := by decide +kernel
theorem dL_law_934 : decode cL_law 934 = .ok (.iconst 0, 1) := by decide +kernel
theorem dL_law_935 : decode cL_law 935 = .ok (.invokevirtual 104, 3) := by decide +kernel
theorem dL_law_938 : decode cL_law 938 = .ok (.if_icmp .eq 239, 3) := by decide +kernel
theorem dL_law_941 : decode cL_law 941 = .ok (.iconst 0, 1) := by decide +kernel
theorem dL_law_942 : decode cL_law 942 = .ok (.ireturn, 1) := by decide +kernel
theorem dL_law_943 : decode cL_law 943 = .ok (.aload_n 1, 1) := by decide +kernel
theorem dL_law_944 : decode cL_law 944 = .ok (.aload_n 0, 1) := by decide +kernel
theorem dL_law_945 : decode cL_law 945 = .ok (.iload 4, 2) := by decide +kernel
theorem dL_law_947 : decode cL_law 947 = .ok (.iconst 1, 1) := by decide +kernel
theorem dL_law_948 : decode cL_law 948 = .ok (.iadd, 1) := by decide +kernel
theorem dL_law_949 : decode cL_law 949 = .ok (.iaload, 1) := by decide +kernel
theorem dL_law_950 : decode cL_law 950 = .ok (.aload_n 0, 1) := by decide +kernel
theorem dL_law_951 : decode cL_law 951 = .ok (.iload 4, 2) := by decide +kernel
theorem dL_law_953 : decode cL_law 953 = .ok (.iconst 2, 1) := by decide +kernel
theorem dL_law_954 : decode cL_law 954 = .ok (.iadd, 1) := by decide +kernel
theorem dL_law_955 : decode cL_law 955 = .ok (.iaload, 1) := by decide +kernel
theorem dL_law_956 : decode cL_law 956 = .ok (.invokevirtual 105, 3) := by decide +kernel
theorem dL_law_959 : decode cL_law 959 = .ok (.aload_n 2, 1) := by decide +kernel
theorem dL_law_960 : decode cL_law 960 = .ok (.aload_n 0, 1) := by decide +kernel
theorem dL_law_961 : decode cL_law 961 = .ok (.iload 4, 2) := by decide +kernel
theorem dL_law_963 : decode cL_law 963 = .ok (.iconst 1, 1) := by decide +kernel
theorem dL_law_964 : decode cL_law 964 = .ok (.iadd, 1) := by decide +kernel
theorem dL_law_965 : decode cL_law 965 = .ok (.iaload, 1) := by decide +kernel
theorem dL_law_966 : decode cL_law 966 = .ok (.aload_n 0, 1) := by decide +kernel
theorem dL_law_967 : decode cL_law 967 = .ok (.iload 4, 2) := by decide +kernel
theorem dL_law_969 : decode cL_law 969 = .ok (.iconst 2, 1) := by decide +kernel
theorem dL_law_970 : decode cL_law 970 = .ok (.iadd, 1) := by decide +kernel
theorem dL_law_971 : decode cL_law 971 = .ok (.iaload, 1) := by decide +kernel
theorem dL_law_972 : decode cL_law 972 = .ok (.invokevirtual 108, 3) := by decide +kernel
theorem dL_law_975 : decode cL_law 975 = .ok (.if_icmp .eq 202, 3) := by decide +kernel
theorem dL_law_978 : decode cL_law 978 = .ok (.iconst 0, 1) := by decide +kernel
theorem dL_law_979 : decode cL_law 979 = .ok (.ireturn, 1) := by decide +kernel
theorem dL_law_980 : decode cL_law 980 = .ok (.aload_n 1, 1) := by decide +kernel
theorem dL_law_981 : decode cL_law 981 = .ok (.aload_n 0, 1) := by decide +kernel
theorem dL_law_982 : decode cL_law 982 = .ok (.iload 4, 2) := by decide +kernel
theorem dL_law_984 : decode cL_law 984 = .ok (.iconst 1, 1) := by decide +kernel
theorem dL_law_985 : decode cL_law 985 = .ok (.iadd, 1) := by decide +kernel
theorem dL_law_986 : decode cL_law 986 = .ok (.iaload, 1) := by decide +kernel
theorem dL_law_987 : decode cL_law 987 = .ok (.aload_n 0, 1) := by decide +kernel
theorem dL_law_988 : decode cL_law 988 = .ok (.iload 4, 2) := by decide +kernel
theorem dL_law_990 : decode cL_law 990 = .ok (.iconst 2, 1) := by decide +kernel
theorem dL_law_991 : decode cL_law 991 = .ok (.iadd, 1) := by decide +kernel
theorem dL_law_992 : decode cL_law 992 = .ok (.iaload, 1) := by decide +kernel
theorem dL_law_993 : decode cL_law 993 = .ok (.invokevirtual 109, 3) := by decide +kernel
theorem dL_law_996 : decode cL_law 996 = .ok (.aload_n 2, 1) := by decide +kernel
theorem dL_law_997 : decode cL_law 997 = .ok (.aload_n 0, 1) := by decide +kernel
theorem dL_law_998 : decode cL_law 998 = .ok (.iload 4, 2) := by decide +kernel
theorem dL_law_1000 : decode cL_law 1000 = .ok (.iconst 1, 1) := by decide +kernel
theorem dL_law_1001 : decode cL_law 1001 = .ok (.iadd, 1) := by decide +kernel
theorem dL_law_1002 : decode cL_law 1002 = .ok (.iaload, 1) := by decide +kernel
theorem dL_law_1003 : decode cL_law 1003 = .ok (.aload_n 0, 1) := by decide +kernel
theorem dL_law_1004 : decode cL_law 1004 = .ok (.iload 4, 2) := by decide +kernel
theorem dL_law_1006 : decode cL_law 1006 = .ok (.iconst 2, 1) := by decide +kernel
theorem dL_law_1007 : decode cL_law 1007 = .ok (.iadd, 1) := by decide +kernel
theorem dL_law_1008 : decode cL_law 1008 = .ok (.iaload, 1) := by decide +kernel
theorem dL_law_1009 : decode cL_law 1009 = .ok (.invokevirtual 112, 3) := by decide +kernel
theorem dL_law_1012 : decode cL_law 1012 = .ok (.if_icmp .eq 165, 3) := by decide +kernel
theorem dL_law_1015 : decode cL_law 1015 = .ok (.iconst 0, 1) := by decide +kernel
theorem dL_law_1016 : decode cL_law 1016 = .ok (.ireturn, 1) := by decide +kernel
theorem dL_law_1017 : decode cL_law 1017 = .ok (.aload_n 1, 1) := by decide +kernel
theorem dL_law_1018 : decode cL_law 1018 = .ok (.aload_n 0, 1) := by decide +kernel
theorem dL_law_1019 : decode cL_law 1019 = .ok (.iload 4, 2) := by decide +kernel
theorem dL_law_1021 : decode cL_law 1021 = .ok (.iconst 1, 1) := by decide +kernel
theorem dL_law_1022 : decode cL_law 1022 = .ok (.iadd, 1) := by decide +kernel
theorem dL_law_1023 : decode cL_law 1023 = .ok (.iaload, 1) := by decide +kernel
theorem dL_law_1024 : decode cL_law 1024 = .ok (.aload_n 0, 1) := by decide +kernel
theorem dL_law_1025 : decode cL_law 1025 = .ok (.iload 4, 2) := by decide +kernel
theorem dL_law_1027 : decode cL_law 1027 = .ok (.iconst 2, 1) := by decide +kernel
theorem dL_law_1028 : decode cL_law 1028 = .ok (.iadd, 1) := by decide +kernel
theorem dL_law_1029 : decode cL_law 1029 = .ok (.iaload, 1) := by decide +kernel
theorem dL_law_1030 : decode cL_law 1030 = .ok (.invokevirtual 113, 3) := by decide +kernel
theorem dL_law_1033 : decode cL_law 1033 = .ok (.aload_n 2, 1) := by decide +kernel
theorem dL_law_1034 : decode cL_law 1034 = .ok (.aload_n 0, 1) := by decide +kernel
theorem dL_law_1035 : decode cL_law 1035 = .ok (.iload 4, 2) := by decide +kernel
theorem dL_law_1037 : decode cL_law 1037 = .ok (.iconst 1, 1) := by decide +kernel
theorem dL_law_1038 : decode cL_law 1038 = .ok (.iadd, 1) := by decide +kernel
theorem dL_law_1039 : decode cL_law 1039 = .ok (.iaload, 1) := by decide +kernel
theorem dL_law_1040 : decode cL_law 1040 = .ok (.aload_n 0, 1) := by decide +kernel
theorem dL_law_1041 : decode cL_law 1041 = .ok (.iload 4, 2) := by decide +kernel
theorem dL_law_1043 : decode cL_law 1043 = .ok (.iconst 2, 1) := by decide +kernel
theorem dL_law_1044 : decode cL_law 1044 = .ok (.iadd, 1) := by decide +kernel
theorem dL_law_1045 : decode cL_law 1045 = .ok (.iaload, 1) := by decide +kernel
theorem dL_law_1046 : decode cL_law 1046 = .ok (.invokevirtual 116, 3) := by decide +kernel
theorem dL_law_1049 : decode cL_law 1049 = .ok (.if_icmp .eq 128, 3) := by decide +kernel
theorem dL_law_1052 : decode cL_law 1052 = .ok (.iconst 0, 1) := by decide +kernel
theorem dL_law_1053 : decode cL_law 1053 = .ok (.ireturn, 1) := by decide +kernel
theorem dL_law_1054 : decode cL_law 1054 = .ok (.aload_n 1, 1) := by decide +kernel
theorem dL_law_1055 : decode cL_law 1055 = .ok (.aload_n 0, 1) := by decide +kernel
theorem dL_law_1056 : decode cL_law 1056 = .ok (.iload 4, 2) := by decide +kernel
theorem dL_law_1058 : decode cL_law 1058 = .ok (.iconst 1, 1) := by decide +kernel
theorem dL_law_1059 : decode cL_law 1059 = .ok (.iadd, 1) := by decide +kernel
theorem dL_law_1060 : decode cL_law 1060 = .ok (.iaload, 1) := by decide +kernel
theorem dL_law_1061 : decode cL_law 1061 = .ok (.aload_n 0, 1) := by decide +kernel
theorem dL_law_1062 : decode cL_law 1062 = .ok (.iload 4, 2) := by decide +kernel
theorem dL_law_1064 : decode cL_law 1064 = .ok (.iconst 2, 1) := by decide +kernel
theorem dL_law_1065 : decode cL_law 1065 = .ok (.iadd, 1) := by decide +kernel
theorem dL_law_1066 : decode cL_law 1066 = .ok (.iaload, 1) := by decide +kernel
theorem dL_law_1067 : decode cL_law 1067 = .ok (.aload_n 0, 1) := by decide +kernel
theorem dL_law_1068 : decode cL_law 1068 = .ok (.iload 4, 2) := by decide +kernel
theorem dL_law_1070 : decode cL_law 1070 = .ok (.iconst 3, 1) := by decide +kernel
theorem dL_law_1071 : decode cL_law 1071 = .ok (.iadd, 1) := by decide +kernel
theorem dL_law_1072 : decode cL_law 1072 = .ok (.iaload, 1) := by decide +kernel
theorem dL_law_1073 : decode cL_law 1073 = .ok (.invokevirtual 117, 3) := by decide +kernel
theorem dL_law_1076 : decode cL_law 1076 = .ok (.aload_n 2, 1) := by decide +kernel
theorem dL_law_1077 : decode cL_law 1077 = .ok (.aload_n 0, 1) := by decide +kernel
theorem dL_law_1078 : decode cL_law 1078 = .ok (.iload 4, 2) := by decide +kernel
theorem dL_law_1080 : decode cL_law 1080 = .ok (.iconst 1, 1) := by decide +kernel
theorem dL_law_1081 : decode cL_law 1081 = .ok (.iadd, 1) := by decide +kernel
theorem dL_law_1082 : decode cL_law 1082 = .ok (.iaload, 1) := by decide +kernel
theorem dL_law_1083 : decode cL_law 1083 = .ok (.aload_n 0, 1) := by decide +kernel
theorem dL_law_1084 : decode cL_law 1084 = .ok (.iload 4, 2) := by decide +kernel
theorem dL_law_1086 : decode cL_law 1086 = .ok (.iconst 2, 1) := by decide +kernel
theorem dL_law_1087 : decode cL_law 1087 = .ok (.iadd, 1) := by decide +kernel
theorem dL_law_1088 : decode cL_law 1088 = .ok (.iaload, 1) := by decide +kernel
theorem dL_law_1089 : decode cL_law 1089 = .ok (.aload_n 0, 1) := by decide +kernel
theorem dL_law_1090 : decode cL_law 1090 = .ok (.iload 4, 2) := by decide +kernel
theorem dL_law_1092 : decode cL_law 1092 = .ok (.iconst 3, 1) := by decide +kernel
theorem dL_law_1093 : decode cL_law 1093 = .ok (.iadd, 1) := by decide +kernel
theorem dL_law_1094 : decode cL_law 1094 = .ok (.iaload, 1) := by decide +kernel
theorem dL_law_1095 : decode cL_law 1095 = .ok (.invokevirtual 120, 3) := by decide +kernel
theorem dL_law_1098 : decode cL_law 1098 = .ok (.if_icmp .eq 79, 3) := by decide +kernel
theorem dL_law_1101 : decode cL_law 1101 = .ok (.iconst 0, 1) := by decide +kernel
theorem dL_law_1102 : decode cL_law 1102 = .ok (.ireturn, 1) := by decide +kernel
theorem dL_law_1103 : decode cL_law 1103 = .ok (.aload_n 1, 1) := by decide +kernel
theorem dL_law_1104 : decode cL_law 1104 = .ok (.aload_n 0, 1) := by decide +kernel
theorem dL_law_1105 : decode cL_law 1105 = .ok (.iload 4, 2) := by decide +kernel
theorem dL_law_1107 : decode cL_law 1107 = .ok (.iconst 1, 1) := by decide +kernel
theorem dL_law_1108 : decode cL_law 1108 = .ok (.iadd, 1) := by decide +kernel
theorem dL_law_1109 : decode cL_law 1109 = .ok (.iaload, 1) := by decide +kernel
theorem dL_law_1110 : decode cL_law 1110 = .ok (.aload_n 0, 1) := by decide +kernel
theorem dL_law_1111 : decode cL_law 1111 = .ok (.iload 4, 2) := by decide +kernel
theorem dL_law_1113 : decode cL_law 1113 = .ok (.iconst 2, 1) := by decide +kernel
theorem dL_law_1114 : decode cL_law 1114 = .ok (.iadd, 1) := by decide +kernel
theorem dL_law_1115 : decode cL_law 1115 = .ok (.iaload, 1) := by decide +kernel
theorem dL_law_1116 : decode cL_law 1116 = .ok (.aload_n 0, 1) := by decide +kernel
theorem dL_law_1117 : decode cL_law 1117 = .ok (.iload 4, 2) := by decide +kernel
theorem dL_law_1119 : decode cL_law 1119 = .ok (.iconst 3, 1) := by decide +kernel
theorem dL_law_1120 : decode cL_law 1120 = .ok (.iadd, 1) := by decide +kernel
theorem dL_law_1121 : decode cL_law 1121 = .ok (.iaload, 1) := by decide +kernel
theorem dL_law_1122 : decode cL_law 1122 = .ok (.invokevirtual 121, 3) := by decide +kernel
theorem dL_law_1125 : decode cL_law 1125 = .ok (.aload_n 2, 1) := by decide +kernel
theorem dL_law_1126 : decode cL_law 1126 = .ok (.aload_n 0, 1) := by decide +kernel
theorem dL_law_1127 : decode cL_law 1127 = .ok (.iload 4, 2) := by decide +kernel
theorem dL_law_1129 : decode cL_law 1129 = .ok (.iconst 1, 1) := by decide +kernel
theorem dL_law_1130 : decode cL_law 1130 = .ok (.iadd, 1) := by decide +kernel
theorem dL_law_1131 : decode cL_law 1131 = .ok (.iaload, 1) := by decide +kernel
theorem dL_law_1132 : decode cL_law 1132 = .ok (.aload_n 0, 1) := by decide +kernel
theorem dL_law_1133 : decode cL_law 1133 = .ok (.iload 4, 2) := by decide +kernel
theorem dL_law_1135 : decode cL_law 1135 = .ok (.iconst 2, 1) := by decide +kernel
theorem dL_law_1136 : decode cL_law 1136 = .ok (.iadd, 1) := by decide +kernel
theorem dL_law_1137 : decode cL_law 1137 = .ok (.iaload, 1) := by decide +kernel
theorem dL_law_1138 : decode cL_law 1138 = .ok (.aload_n 0, 1) := by decide +kernel
theorem dL_law_1139 : decode cL_law 1139 = .ok (.iload 4, 2) := by decide +kernel
theorem dL_law_1141 : decode cL_law 1141 = .ok (.iconst 3, 1) := by decide +kernel
theorem dL_law_1142 : decode cL_law 1142 = .ok (.iadd, 1) := by decide +kernel
theorem dL_law_1143 : decode cL_law 1143 = .ok (.iaload, 1) := by decide +kernel
theorem dL_law_1144 : decode cL_law 1144 = .ok (.invokevirtual 125, 3) := by decide +kernel
theorem dL_law_1147 : decode cL_law 1147 = .ok (.if_icmp .eq 30, 3) := by decide +kernel
theorem dL_law_1150 : decode cL_law 1150 = .ok (.iconst 0, 1) := by decide +kernel
theorem dL_law_1151 : decode cL_law 1151 = .ok (.ireturn, 1) := by decide +kernel
theorem dL_law_1152 : decode cL_law 1152 = .ok (.aload_n 1, 1) := by decide +kernel
theorem dL_law_1153 : decode cL_law 1153 = .ok (.aload_n 0, 1) := by decide +kernel
theorem dL_law_1154 : decode cL_law 1154 = .ok (.iload 4, 2) := by decide +kernel
theorem dL_law_1156 : decode cL_law 1156 = .ok (.iconst 1, 1) := by decide +kernel
theorem dL_law_1157 : decode cL_law 1157 = .ok (.iadd, 1) := by decide +kernel
theorem dL_law_1158 : decode cL_law 1158 = .ok (.iaload, 1) := by decide +kernel
theorem dL_law_1159 : decode cL_law 1159 = .ok (.invokevirtual 126, 3) := by decide +kernel
theorem dL_law_1162 : decode cL_law 1162 = .ok (.aload_n 2, 1) := by decide +kernel
theorem dL_law_1163 : decode cL_law 1163 = .ok (.aload_n 0, 1) := by decide +kernel
theorem dL_law_1164 : decode cL_law 1164 = .ok (.iload 4, 2) := by decide +kernel
theorem dL_law_1166 : decode cL_law 1166 = .ok (.iconst 1, 1) := by decide +kernel
theorem dL_law_1167 : decode cL_law 1167 = .ok (.iadd, 1) := by decide +kernel
theorem dL_law_1168 : decode cL_law 1168 = .ok (.iaload, 1) := by decide +kernel
theorem dL_law_1169 : decode cL_law 1169 = .ok (.invokevirtual 129, 3) := by decide +kernel
theorem dL_law_1172 : decode cL_law 1172 = .ok (.if_icmp .eq 5, 3) := by decide +kernel
theorem dL_law_1175 : decode cL_law 1175 = .ok (.iconst 0, 1) := by decide +kernel
theorem dL_law_1176 : decode cL_law 1176 = .ok (.ireturn, 1) := by decide +kernel
theorem dL_law_1177 : decode cL_law 1177 = .ok (.iinc 4 7, 3) := by decide +kernel
theorem dL_law_1180 : decode cL_law 1180 = .ok (.goto (-1157), 3) := by decide +kernel
theorem dL_law_1183 : decode cL_law 1183 = .ok (.iconst 1, 1) := by decide +kernel
theorem dL_law_1184 : decode cL_law 1184 = .ok (.ireturn, 1) := by decide +kernel
end
section
/-! MEMORY WORLDS: a world is a fixed list of cells (its shape); what they hold is one function of cell and place. A method's body is tied to a function that gives (answer, memory) or nothing. -/
abbrev Mem : Type := Nat → Nat → Int32
abbrev mSh : Type := List ((Nat × Nat) ⊕ (Nat × List Nat))
/-- the tables' numbers; the cells' addresses; the array classes; the addresses of what lies outside -/
abbrev mW : Type := va_G × (Nat → Nat) × (Nat → ClassId) × (Nat → Nat)
def m_ro (ad : Nat → Nat) (x : Int32) : Option Nat := if x < 0 then none else some (ad x.toNatClampNeg)
def m_rf (ad : Nat → Nat) (x : Int32) : Value := va_rf (m_ro ad x)
def m_val (ad : Nat → Nat) (k : Nat) (x : Int32) : Value := match k with
  | 0 => .int x
  | 1 => m_rf ad x
  | k + 2 => .ref (ad k)
def m_dat (ad : Nat → Nat) (t : Nat) (f : Nat → Int32) : (Nat → Int32) ⊕ (Nat → Int64) ⊕ (Nat → UInt32) ⊕ (Nat → UInt64) ⊕ (Nat → Option Nat) := match t with
  | 2 => .inr (.inr (.inr (.inr (fun j => m_ro ad (f j)))))
  | _ => .inl f
def m_ent (w : mW) (σ : Mem) (i : Nat) (c : (Nat × Nat) ⊕ (Nat × List Nat)) : Nat × va_E := match c with
  | .inl (t, n) => (w.2.1 i, .inl (w.2.2.1 t, n, m_dat w.2.1 t (σ i)))
  | .inr (ci, ks) => (w.2.1 i, .inr (ci, ks.mapIdx (fun j k => m_val w.2.1 k (σ i j))))
def m_cn (w : mW) (sh : mSh) (σ : Mem) : va_W := sh.mapIdx (fun i c => m_ent w σ i c)
def mu (σ : Mem) (i j : Nat) (v : Int32) : Mem := fun a => if a = i then upd (σ a) j v else σ a
def m_ty (w : mW) : List (ClassId × FieldType) := [(w.2.2.1 0, .int), (w.2.2.1 1, .byte), (w.2.2.1 2, .object "StormParting$Cover")]
def m_A (w : mW) (sh : mSh) : Nat → Prop := fun q => ∃ i, i < sh.length ∧ q = w.2.1 i
def m_J (w : mW) (sh : mSh) : Prop := ∀ i j : Nat, i < sh.length → j < sh.length → w.2.1 i = w.2.1 j → i = j
theorem m_ent_1 {w : mW} {σ : Mem} {i : Nat} {c : (Nat × Nat) ⊕ (Nat × List Nat)} : (m_ent w σ i c).1 = w.2.1 i := by
  cases c <;> rfl
theorem m_ent_ext {w : mW} {σ τ : Mem} {i : Nat} {c : (Nat × Nat) ⊕ (Nat × List Nat)} (h : τ i = σ i) : m_ent w τ i c = m_ent w σ i c := by
  cases c <;> simp [m_ent, h]
theorem m_at {w : mW} {sh : mSh} {σ : Mem} {i : Nat} {c : (Nat × Nat) ⊕ (Nat × List Nat)} (h : sh[i]? = some c) : (m_cn w sh σ)[i]? = some (m_ent w σ i c) := by
  simp [m_cn, h]
theorem m_of {w : mW} {sh : mSh} {σ : Mem} {i : Nat} {q : Nat × va_E} (h : (m_cn w sh σ)[i]? = some q) : i < sh.length ∧ q.1 = w.2.1 i := by
  have hl : i < (m_cn w sh σ).length := (List.getElem?_eq_some_iff.mp h).1
  have hl2 : i < sh.length := by simpa [m_cn] using hl
  obtain ⟨c, hc⟩ : ∃ c, sh[i]? = some c := ⟨_, List.getElem?_eq_getElem hl2⟩
  rw [m_at hc] at h
  cases h
  exact ⟨hl2, m_ent_1⟩
theorem m_D {w : mW} {sh : mSh} {σ : Mem} (h : m_J w sh) : va_D (m_A w sh) (m_cn w sh σ) := by
  refine ⟨fun i j p q hi hj e => ?_, fun k q hk => ?_⟩
  · obtain ⟨h1, h2⟩ := m_of hi
    obtain ⟨h3, h4⟩ := m_of hj
    exact h i j h1 h3 (by rw [← h2, ← h4, e])
  · obtain ⟨h1, h2⟩ := m_of hk
    exact ⟨k, h1, h2⟩
theorem m_cn_set {w : mW} {sh : mSh} {σ τ : Mem} {i : Nat} {c : (Nat × Nat) ⊕ (Nat × List Nat)} {q : Nat × va_E} (h : sh[i]? = some c) (he : q = m_ent w τ i c) (ho : ∀ a, a ≠ i → τ a = σ a) : (m_cn w sh σ).set i q = m_cn w sh τ := by
  apply List.ext_getElem?
  intro k
  by_cases hk : k = i
  · subst hk
    have hl : k < (m_cn w sh σ).length := by
      have := (List.getElem?_eq_some_iff.mp h).1
      simpa [m_cn] using this
    rw [List.getElem?_set_self hl, m_at h, he]
  · rw [List.getElem?_set_ne (Ne.symm hk)]
    simp only [m_cn, List.getElem?_mapIdx]
    cases hs : sh[k]? with
    | none => rfl
    | some c' => simp [m_ent_ext (ho k hk)]
theorem mu_ne {σ : Mem} {i j : Nat} {v : Int32} (a : Nat) (h : a ≠ i) : mu σ i j v a = σ a := by simp [mu, h]
theorem mu_self {σ : Mem} {i j : Nat} {v : Int32} : mu σ i j v i = upd (σ i) j v := by simp [mu]
theorem m_put_arr {w : mW} {sh : mSh} {σ : Mem} {i t n j : Nat} {v : Int32} (h : sh[i]? = some (.inl (t, n))) (ht : m_dat w.2.1 t (σ i) = .inl (σ i)) (ht2 : m_dat w.2.1 t (upd (σ i) j v) = .inl (upd (σ i) j v)) : (m_cn w sh σ).set i (w.2.1 i, .inl (w.2.2.1 t, n, .inl (upd (σ i) j v))) = m_cn w sh (mu σ i j v) :=
  m_cn_set h (by simp [m_ent, mu_self, ht2]) (fun a ha => mu_ne a ha)
theorem m_put_ref {w : mW} {sh : mSh} {σ : Mem} {i n j : Nat} {v : Int32} (h : sh[i]? = some (.inl (2, n))) : (m_cn w sh σ).set i (w.2.1 i, .inl (w.2.2.1 2, n, .inr (.inr (.inr (.inr (va_up (fun j => m_ro w.2.1 (σ i j)) j (m_ro w.2.1 v))))))) = m_cn w sh (mu σ i j v) := by
  refine m_cn_set h ?_ (fun a ha => mu_ne a ha)
  simp only [m_ent, mu_self, m_dat]
  congr 8
  funext k
  by_cases hk : k = j <;> simp [va_up, upd, hk]
theorem m_put_fld {w : mW} {sh : mSh} {σ : Mem} {i ci j : Nat} {ks : List Nat} {v : Int32} (h : sh[i]? = some (.inr (ci, ks))) (hk : ks[j]? = some 0) : (m_cn w sh σ).set i (w.2.1 i, .inr (ci, (ks.mapIdx (fun j k => m_val w.2.1 k (σ i j))).set j (.int v))) = m_cn w sh (mu σ i j v) := by
  refine m_cn_set h ?_ (fun a ha => mu_ne a ha)
  simp only [m_ent, mu_self]
  congr 3
  apply List.ext_getElem?
  intro k
  by_cases e : k = j
  · subst e
    have hl : k < (ks.mapIdx (fun j k => m_val w.2.1 k (σ i j))).length := by simpa using (List.getElem?_eq_some_iff.mp hk).1
    rw [List.getElem?_set_self hl]
    simp [hk, m_val, upd]
  · rw [List.getElem?_set_ne (Ne.symm e)]
    simp [upd, e]
theorem m_rf_cat {ad : Nat → Nat} {x : Int32} : (m_rf ad x).category = 1 := by
  unfold m_rf m_ro
  by_cases h : x < 0 <;> simp [h, va_rf, Value.category]
theorem m_rf_in {ad : Nat → Nat} {x : Int32} {n : Nat} (h : vp_in x n) : m_rf ad x = .ref (ad x.toNatClampNeg) := by
  have h1 : ¬ x < 0 := fun z => h (Or.inl z)
  simp [m_rf, m_ro, h1, va_rf]
/-! the words that every method has -/
def mbig : List Cond := lw_tbl.filter goodWord
theorem m_in {w : Cond} (i : Nat) (h : lw_tbl[i]? = some w) (hg : goodWord w = true) : w ∈ mbig := List.mem_filter.mpr ⟨List.mem_of_getElem? h, hg⟩
theorem m_goodIn {ws : List Cond} {y : MethodName} {cc : ByteArray} {n : Nat} {r : Option FieldType} (h : Cond.code y cc n r ∈ mbig) : GoodIn (ws ++ mbig) (Cond.code y cc n r :: mbig) := by
  intro v hv
  have h1 : v ∈ mbig := by
    rcases List.mem_cons.mp hv with rfl | h2
    · exact h
    · exact h2
  exact ⟨List.mem_append_right _ h1, good_of_word (List.mem_filter.mp h1).2⟩
end
section
/-! what lies outside the worlds and is only read: three static arrays, a text -/
def m_le : List Int32 := [1, 0, 0, 0, 0, 0, 1, 1, 0, 0]
def m_gr : List Int32 := [99, 99, 1, 1, 99, 99, 99, 9, 99, 99]
def m_fi : List Int32 := [99, -1, 0, 0, 0, 0, 99, 9, 0, 0]
def m_tx : List Int32 := [104, 114, 99, 111, 103, 97, 117, 110, 98, 112]
def m_st (w : mW) (A : Nat → Prop) (U : State) : Prop :=
  va_Z "StormParting$Cover" "LEAST" "[I" (.ref (w.2.2.2 0)) A U U.heap ∧ va_T .int (w.2.2.2 0) 10 (fun j => .int (m_le.getD j 0)) A U U.heap ∧
  va_Z "StormParting$Cover" "GREATEST" "[I" (.ref (w.2.2.2 1)) A U U.heap ∧ va_T .int (w.2.2.2 1) 10 (fun j => .int (m_gr.getD j 0)) A U U.heap ∧
  va_Z "StormParting$Cover" "AT_FIRST" "[I" (.ref (w.2.2.2 2)) A U U.heap ∧ va_T .int (w.2.2.2 2) 10 (fun j => .int (m_fi.getD j 0)) A U U.heap ∧
  va_Z "java/lang/String" "COMPACT_STRINGS" "Z" (.int 1) A U U.heap ∧ vk_R "StormParting$Cover" 15 "hrcogaunbp" (w.2.2.2 3) U ∧ vk_R "StormPartingModel" 129 "hrcogaunbp" (w.2.2.2 3) U ∧
  vk_S 1 [10] [m_tx] (fun _ => w.2.2.2 3) (fun _ => w.2.2.2 4) A U U.heap
theorem m_st.warm {w : mW} {A : Nat → Prop} {s U : State} (h : m_st w A s) (hW : s.WarmedH U.vm) (hq : ∀ a : Nat, a < s.heap.size → ¬ A a → U.heap[a]? = s.heap[a]?) : m_st w A U := by
  obtain ⟨h1, h2, h3, h4, h5, h6, h7, h8, h9, h10⟩ := h
  have hv := hW.alike
  exact ⟨(va_Z.moved hv h1).kept hq, (va_T.moved hv h2).kept hq, (va_Z.moved hv h3).kept hq, (va_T.moved hv h4).kept hq, (va_Z.moved hv h5).kept hq, (va_T.moved hv h6).kept hq, (va_Z.moved hv h7).kept hq, vk_R.warm hW h8, vk_R.warm hW h9, (vk_S.moved hv h10).kept hq⟩
theorem m_st.same {w : mW} {A : Nat → Prop} {s U : State} (h : m_st w A s) (hv : U.vm = s.vm) (hh : U.heap = s.heap) : m_st w A U := by
  obtain ⟨h1, h2, h3, h4, h5, h6, h7, h8, h9, h10⟩ := h
  have ha : s.vm.Alike U.vm := by rw [hv]; exact Vm.Alike.refl _
  have hq : ∀ a : Nat, a < s.heap.size → ¬ A a → U.heap[a]? = s.heap[a]? := fun a _ _ => by rw [hh]
  exact ⟨(va_Z.moved ha h1).kept hq, (va_T.moved ha h2).kept hq, (va_Z.moved ha h3).kept hq, (va_T.moved ha h4).kept hq, (va_Z.moved ha h5).kept hq, (va_T.moved ha h6).kept hq, (va_Z.moved ha h7).kept hq, vk_R.same hv h8, vk_R.same hv h9, (vk_S.moved ha h10).kept hq⟩
theorem m_st.narrow {w : mW} {A B : Nat → Prop} {s : State} (h : m_st w A s) (hAB : ∀ q, B q → A q) : m_st w B s := by
  obtain ⟨h1, h2, h3, h4, h5, h6, h7, h8, h9, h10⟩ := h
  exact ⟨h1.narrow hAB, h2.narrow hAB, h3.narrow hAB, h4.narrow hAB, h5.narrow hAB, h6.narrow hAB, h7.narrow hAB, h8, h9, h10.narrow hAB⟩
def m_room (d : Nat) : Room := { frames := d, cells := 0, slots := 0, locals := 40 * d }
def m_pre (w : mW) (sh : mSh) (σ : Mem) (U : State) : Prop := va_P w.1 vwCl (m_cn w sh σ) U.heap ∧ va_K w.1 vwCl (m_ty w) U ∧ m_J w sh ∧ m_st w (m_A w sh) U
def m_ret (w : mW) (rk : Nat) (v : Int32) : Option Value := match rk with
  | 0 => none
  | 1 => some (.int v)
  | _ => some (m_rf w.2.1 v)
def m_Q (w : mW) (sh : mSh) (rk : Nat) (v : Int32) (τ : Mem) : Array Value → State → Outcome → State → Prop := fun _ st oc t => oc = .returned (m_ret w rk v) ∧ va_P w.1 vwCl (m_cn w sh τ) t.heap ∧ va_F (m_A w sh) st t
/-- a method of a world: where its function answers, so does it -/
def Ev (l : Launch) (w : mW) (sh : mSh) (y : MethodName) (cc : ByteArray) (nL : Nat) (ret : Option FieldType) (rk d : Nat) (av : List Value) (σ : Mem) (o : Option (Int32 × Mem)) : Prop :=
  ∀ v τ, o = some (v, τ) → Met l y (Cond.code y cc nL ret :: mbig) (m_room d) (va_Pc av (m_pre w sh σ)) (m_Q w sh rk v τ) 0 0 (m_A w sh)
abbrev mG : Type := Program × Launch × Env × Nat × State × MethodId × Array Value × List Frame × Method × Code
def m_ok (G : mG) (w : mW) (sh : mSh) (cc : ByteArray) (nL : Nat) (own : String) (ret : Option FieldType) : Prop := match G with
  | (p, _, _, _, s, m, args, _, meth, c) => CallFix p m c cc nL s args mbig own ∧ meth.locks = false ∧ meth.sig.returnType = ret ∧ va_K w.1 vwCl (m_ty w) s ∧ m_J w sh ∧ m_st w (m_A w sh) s
def m_lv (ls : Array Slot) (nL : Nat) (lv : List (Nat × Value)) : Prop := lv_has ls nL lv ∧ ∀ q ∈ lv, q.2.category = 1
def Vj (G : mG) (w : mW) (sh : mSh) (nL rk : Nat) (σ : Mem) (pc : Nat) (lv : List (Nat × Value)) (st : List Value) (o : Option (Int32 × Mem)) : Prop := match G with
  | (p, l, e, d, s, m, args, below, meth, c) => ∀ v τ, o = some (v, τ) → ∀ (H : Heap) (locs : List Loc) (ls : Array Slot), va_P w.1 vwCl (m_cn w sh σ) H → va_S (m_A w sh) s.heap H locs → m_lv ls nL lv → W p l e (m_room d) s m args below meth c H locs 0 0 (MQ below (m_Q w sh rk v τ) args s 0 0 (m_A w sh)) (F0 m pc ls st)
def gd (b : Bool) (o : Option (Int32 × Mem)) : Option (Int32 × Mem) := if b = true then o else none
def inb (i : Int32) (n : Nat) : Bool := decide (¬ (i < 0 ∨ n ≤ i.toNatClampNeg))
theorem inb_in {i : Int32} {n : Nat} (h : inb i n = true) : vp_in i n := by
  unfold vp_in
  exact of_decide_eq_true h
theorem gd_some {b : Bool} {o : Option (Int32 × Mem)} {r : Int32 × Mem} (h : gd b o = some r) : b = true ∧ o = some r := by
  cases b
  · simp [gd] at h
  · exact ⟨rfl, by simpa [gd] using h⟩
def m_enum : Nat → List Value → List (Nat × Value)
  | _, [] => []
  | i, v :: vs => (i, v) :: m_enum (i + 1) vs
def m_c1 (vs : List Value) : Prop := ∀ v ∈ vs, v.category = 1
theorem m_c1_nil : m_c1 [] := fun _ h => absurd h List.not_mem_nil
theorem m_c1_i {x : Int32} {vs : List Value} (h : m_c1 vs) : m_c1 (.int x :: vs) := fun v hv => (List.mem_cons.mp hv).elim (fun e => by rw [e]; rfl) (h v)
theorem m_c1_r {x : Nat} {vs : List Value} (h : m_c1 vs) : m_c1 (.ref x :: vs) := fun v hv => (List.mem_cons.mp hv).elim (fun e => by rw [e]; rfl) (h v)
theorem m_c1_q {ad : Nat → Nat} {x : Int32} {vs : List Value} (h : m_c1 vs) : m_c1 (m_rf ad x :: vs) := fun v hv => (List.mem_cons.mp hv).elim (fun e => by rw [e]; exact m_rf_cat) (h v)
theorem m_c1_sum {vs : List Value} (h : m_c1 vs) : (vs.map fun v => v.category).sum = vs.length := by
  induction vs with
  | nil => rfl
  | cons a l ih => simp [h a List.mem_cons_self, ih (fun v hv => h v (List.mem_cons_of_mem _ hv))]; omega
theorem m_sl {vs : List Value} (h : m_c1 vs) : (lg_sl vs).length = vs.length := by
  induction vs with
  | nil => rfl
  | cons a l ih =>
    have h1 := h a List.mem_cons_self
    have h2 := ih (fun v hv => h v (List.mem_cons_of_mem _ hv))
    simp only [lg_sl, List.flatMap_cons, h1] at h2 ⊢
    simp [h2]
theorem m_args {vs : List Value} (h : m_c1 vs) : ∀ i, lv_args i vs = m_enum i vs := by
  induction vs with
  | nil => intro i; rfl
  | cons a l ih =>
    intro i
    have h1 := h a List.mem_cons_self
    simp only [lv_args, m_enum, h1]
    rw [if_neg (by decide), ih (fun v hv => h v (List.mem_cons_of_mem _ hv))]
theorem m_enum_c {vs : List Value} (h : m_c1 vs) : ∀ i, ∀ q ∈ m_enum i vs, q.2.category = 1 := by
  induction vs with
  | nil => intro i q hq; exact absurd hq List.not_mem_nil
  | cons a l ih =>
    intro i q hq
    rcases List.mem_cons.mp hq with rfl | hq
    · exact h a List.mem_cons_self
    · exact ih (fun v hv => h v (List.mem_cons_of_mem _ hv)) _ q hq
theorem Ev.of {l : Launch} {w : mW} {sh : mSh} {y : MethodName} {cc : ByteArray} {nL : Nat} {ret : Option FieldType} {rk d : Nat} {av : List Value} {σ : Mem} {o : Option (Int32 × Mem)} (hy : plainName y.cls = true) (hc : m_c1 av) (hn : av.length ≤ nL)
    (body : ∀ p e s m args below meth c, m_ok (p, l, e, d, s, m, args, below, meth, c) w sh cc nL y.cls ret → Vj (p, l, e, d, s, m, args, below, meth, c) w sh nL rk σ 0 (m_enum 0 av) [] o) : Ev l w sh y cc nL ret rk d av σ o := by
  intro v τ ho
  refine Met.ofW (cc := cc) (maxL := nL) (ret := ret) hy rfl ?_
  intro p e s m args below meth c s₁ B hml hv
  obtain ⟨rfl, hP, hK, hJ, hZ⟩ := hv
  have hts := atoms_spec (ws := Cond.code y cc nL ret :: mbig) B.pre
  have hl := lv_entry av (n := nL) (by rw [m_sl hc]; exact hn)
  rw [lg_entry_eq]
  rw [m_args hc] at hl
  exact body p e s m _ below meth c ⟨⟨B.exec, B.bytes, hml, findClass_of_methodNamed B.named, fun w hw => hts w (List.mem_cons_of_mem _ hw)⟩, B.notSynchronized, B.returns, hK, hJ, hZ⟩ v τ ho s.heap [] _ hP va_S.rf ⟨hl, m_enum_c hc 0⟩
section MROWS
variable {G : mG} {w : mW} {sh : mSh} {cc : ByteArray} {nL rk : Nat} {own : String} {ret : Option FieldType} {σ : Mem} {pc : Nat} {lv : List (Nat × Value)} {st : List Value} {o : Option (Int32 × Mem)}
theorem Vj.none : Vj G w sh nL rk σ pc lv st none := by
  obtain ⟨p, l, e, d, s, m, args, below, meth, c⟩ := G
  intro v τ ho
  cases ho
theorem r_lv {lv' : List (Nat × Value)} (ks : List Nat) (h : lv_pick lv ks = lv') (k : Vj G w sh nL rk σ pc lv' st o) : Vj G w sh nL rk σ pc lv st o := by
  obtain ⟨p, l, e, d, s, m, args, below, meth, c⟩ := G
  intro v τ ho H locs ls hP hS hl
  refine k v τ ho H locs ls hP hS ⟨lv_sub hl.1 ks h, fun q hq => ?_⟩
  rw [← h] at hq
  obtain ⟨i, -, hi⟩ := List.mem_filterMap.mp hq
  exact hl.2 q (List.mem_of_getElem? hi)
theorem r_st {st' : List Value} (h : st' = st) (k : Vj G w sh nL rk σ pc lv st' o) : Vj G w sh nL rk σ pc lv st o := h ▸ k
theorem r_o {o' : Option (Int32 × Mem)} (h : o' = o) (k : Vj G w sh nL rk σ pc lv st o') : Vj G w sh nL rk σ pc lv st o := h ▸ k

theorem r_iconst (hg : m_ok G w sh cc nL own ret) {n : Int} (x : Int32) (hd : decode cc pc = .ok (.iconst n, 1)) (hv : Int32.ofInt n = x) (k : Vj G w sh nL rk σ (pc + 1) lv (.int x :: st) o) : Vj G w sh nL rk σ pc lv (st) (o) := by
  obtain ⟨p, l, e, d, s, m, args, below, meth, c⟩ := G
  obtain ⟨⟨hx, hb, hml, hown, hts⟩, hlocks, hr, hK, hJ, hZ⟩ := hg
  intro v τ ho H locs ls hP hS hl
  exact lv_iconst hx hb hd hv (k v τ ho H locs ls hP hS hl)
theorem r_bipush (hg : m_ok G w sh cc nL own ret) {n : Int} (x : Int32) (hd : decode cc pc = .ok (.bipush n, 2)) (hv : (Int8.ofInt n).toInt32 = x) (k : Vj G w sh nL rk σ (pc + 2) lv (.int x :: st) o) : Vj G w sh nL rk σ pc lv (st) (o) := by
  obtain ⟨p, l, e, d, s, m, args, below, meth, c⟩ := G
  obtain ⟨⟨hx, hb, hml, hown, hts⟩, hlocks, hr, hK, hJ, hZ⟩ := hg
  intro v τ ho H locs ls hP hS hl
  exact lv_bipush hx hb hd hv (k v τ ho H locs ls hP hS hl)
theorem r_sipush (hg : m_ok G w sh cc nL own ret) {n : Int} (x : Int32) (hd : decode cc pc = .ok (.sipush n, 3)) (hv : (Int16.ofInt n).toInt32 = x) (k : Vj G w sh nL rk σ (pc + 3) lv (.int x :: st) o) : Vj G w sh nL rk σ pc lv (st) (o) := by
  obtain ⟨p, l, e, d, s, m, args, below, meth, c⟩ := G
  obtain ⟨⟨hx, hb, hml, hown, hts⟩, hlocks, hr, hK, hJ, hZ⟩ := hg
  intro v τ ho H locs ls hP hS hl
  exact lv_sipush hx hb hd hv (k v τ ho H locs ls hP hS hl)
theorem r_ldc (hg : m_ok G w sh cc nL own ret) {ix : Nat} {x : Int32} (hc : Cond.constant own ix x ∈ mbig) (hd : decode cc pc = .ok (.ldc ix, 2)) (k : Vj G w sh nL rk σ (pc + 2) lv (.int x :: st) o) : Vj G w sh nL rk σ pc lv (st) (o) := by
  obtain ⟨p, l, e, d, s, m, args, below, meth, c⟩ := G
  obtain ⟨⟨hx, hb, hml, hown, hts⟩, hlocks, hr, hK, hJ, hZ⟩ := hg
  intro v τ ho H locs ls hP hS hl
  exact lv_ldc hx hb hown (hts _ hc) hd (k v τ ho H locs ls hP hS hl)
theorem r_ldcw (hg : m_ok G w sh cc nL own ret) {ix : Nat} {x : Int32} (hc : Cond.constant own ix x ∈ mbig) (hd : decode cc pc = .ok (.ldc_w ix, 3)) (k : Vj G w sh nL rk σ (pc + 3) lv (.int x :: st) o) : Vj G w sh nL rk σ pc lv (st) (o) := by
  obtain ⟨p, l, e, d, s, m, args, below, meth, c⟩ := G
  obtain ⟨⟨hx, hb, hml, hown, hts⟩, hlocks, hr, hK, hJ, hZ⟩ := hg
  intro v τ ho H locs ls hP hS hl
  exact lv_ldcw hx hb hown (hts _ hc) hd (k v τ ho H locs ls hP hS hl)
theorem r_iload_n (hg : m_ok G w sh cc nL own ret) {i : Fin 4} (j : Nat) {x : Int32} (hd : decode cc pc = .ok (.iload_n i, 1)) (hl0 : lv[j]? = some ((i : Nat), .int x)) (k : Vj G w sh nL rk σ (pc + 1) lv (.int x :: st) o) : Vj G w sh nL rk σ pc lv (st) (o) := by
  obtain ⟨p, l, e, d, s, m, args, below, meth, c⟩ := G
  obtain ⟨⟨hx, hb, hml, hown, hts⟩, hlocks, hr, hK, hJ, hZ⟩ := hg
  intro v τ ho H locs ls hP hS hl
  exact lv_iload_n hx hb hd rfl (lv_at hl.1 j hl0) (k v τ ho H locs ls hP hS hl)
theorem r_iload (hg : m_ok G w sh cc nL own ret) {i : Nat} (j : Nat) {x : Int32} (hd : decode cc pc = .ok (.iload i, 2)) (hl0 : lv[j]? = some (i, .int x)) (k : Vj G w sh nL rk σ (pc + 2) lv (.int x :: st) o) : Vj G w sh nL rk σ pc lv (st) (o) := by
  obtain ⟨p, l, e, d, s, m, args, below, meth, c⟩ := G
  obtain ⟨⟨hx, hb, hml, hown, hts⟩, hlocks, hr, hK, hJ, hZ⟩ := hg
  intro v τ ho H locs ls hP hS hl
  exact lv_iload hx hb hd (lv_at hl.1 j hl0) (k v τ ho H locs ls hP hS hl)
theorem r_aload_n (hg : m_ok G w sh cc nL own ret) {i : Fin 4} (j : Nat) {x : Nat} (hd : decode cc pc = .ok (.aload_n i, 1)) (hl0 : lv[j]? = some ((i : Nat), .ref x)) (k : Vj G w sh nL rk σ (pc + 1) lv (.ref x :: st) o) : Vj G w sh nL rk σ pc lv (st) (o) := by
  obtain ⟨p, l, e, d, s, m, args, below, meth, c⟩ := G
  obtain ⟨⟨hx, hb, hml, hown, hts⟩, hlocks, hr, hK, hJ, hZ⟩ := hg
  intro v τ ho H locs ls hP hS hl
  exact lv_aload_n hx hb hd rfl (lv_at hl.1 j hl0) (k v τ ho H locs ls hP hS hl)
theorem r_aload (hg : m_ok G w sh cc nL own ret) {i : Nat} (j : Nat) {x : Nat} (hd : decode cc pc = .ok (.aload i, 2)) (hl0 : lv[j]? = some (i, .ref x)) (k : Vj G w sh nL rk σ (pc + 2) lv (.ref x :: st) o) : Vj G w sh nL rk σ pc lv (st) (o) := by
  obtain ⟨p, l, e, d, s, m, args, below, meth, c⟩ := G
  obtain ⟨⟨hx, hb, hml, hown, hts⟩, hlocks, hr, hK, hJ, hZ⟩ := hg
  intro v τ ho H locs ls hP hS hl
  exact lv_aload hx hb hd (lv_at hl.1 j hl0) (k v τ ho H locs ls hP hS hl)
theorem r_aloadq_n (hg : m_ok G w sh cc nL own ret) {i : Fin 4} (j : Nat) {x : Int32} (hd : decode cc pc = .ok (.aload_n i, 1)) (hl0 : lv[j]? = some ((i : Nat), m_rf w.2.1 x)) (k : Vj G w sh nL rk σ (pc + 1) lv (m_rf w.2.1 x :: st) o) : Vj G w sh nL rk σ pc lv (st) (o) := by
  obtain ⟨p, l, e, d, s, m, args, below, meth, c⟩ := G
  obtain ⟨⟨hx, hb, hml, hown, hts⟩, hlocks, hr, hK, hJ, hZ⟩ := hg
  intro v τ ho H locs ls hP hS hl
  have k := (k v τ ho H locs ls hP hS hl)
  by_cases hz : x < 0
  · have e1 : m_rf w.2.1 x = .null := by simp [m_rf, m_ro, hz, va_rf]
    rw [e1] at hl0 k
    exact lv_aload_nN hx hb hd rfl (lv_at hl.1 j hl0) k
  · have e1 : m_rf w.2.1 x = .ref (w.2.1 x.toNatClampNeg) := by simp [m_rf, m_ro, hz, va_rf]
    rw [e1] at hl0 k
    exact lv_aload_n hx hb hd rfl (lv_at hl.1 j hl0) k
theorem r_aloadq (hg : m_ok G w sh cc nL own ret) {i : Nat} (j : Nat) {x : Int32} (hd : decode cc pc = .ok (.aload i, 2)) (hl0 : lv[j]? = some (i, m_rf w.2.1 x)) (k : Vj G w sh nL rk σ (pc + 2) lv (m_rf w.2.1 x :: st) o) : Vj G w sh nL rk σ pc lv (st) (o) := by
  obtain ⟨p, l, e, d, s, m, args, below, meth, c⟩ := G
  obtain ⟨⟨hx, hb, hml, hown, hts⟩, hlocks, hr, hK, hJ, hZ⟩ := hg
  intro v τ ho H locs ls hP hS hl
  have k := (k v τ ho H locs ls hP hS hl)
  by_cases hz : x < 0
  · have e1 : m_rf w.2.1 x = .null := by simp [m_rf, m_ro, hz, va_rf]
    rw [e1] at hl0 k
    exact lv_aloadN hx hb hd (lv_at hl.1 j hl0) k
  · have e1 : m_rf w.2.1 x = .ref (w.2.1 x.toNatClampNeg) := by simp [m_rf, m_ro, hz, va_rf]
    rw [e1] at hl0 k
    exact lv_aload hx hb hd (lv_at hl.1 j hl0) k
end MROWS
def m_put (lv : List (Nat × Value)) (i : Nat) (v : Value) : List (Nat × Value) := (i, v) :: lv.filter (fun q => !(q.1 == i))
theorem m_put_eq {lv : List (Nat × Value)} {i : Nat} {v : Value} (hc : ∀ q ∈ lv, q.2.category = 1) : (i, v) :: lv.filter (fun q => !(q.1 == i) && !(q.1 + 1 == i && q.2.category == 2)) = m_put lv i v := by
  unfold m_put
  congr 1
  apply List.filter_congr
  intro q hq
  simp [hc q hq]
theorem m_put_c {lv : List (Nat × Value)} {i : Nat} {v : Value} (hc : ∀ q ∈ lv, q.2.category = 1) (hv : v.category = 1) : ∀ q ∈ m_put lv i v, q.2.category = 1 := by
  intro q hq
  rcases List.mem_cons.mp hq with rfl | h
  · exact hv
  · exact hc q (List.mem_filter.mp h).1
section MROWS
variable {G : mG} {w : mW} {sh : mSh} {cc : ByteArray} {nL rk : Nat} {own : String} {ret : Option FieldType} {σ : Mem} {pc : Nat} {lv : List (Nat × Value)} {st : List Value} {o : Option (Int32 × Mem)}

theorem r_istore_n (hg : m_ok G w sh cc nL own ret) {i : Fin 4} {lv' : List (Nat × Value)} {x : Int32} (hd : decode cc pc = .ok (.istore_n i, 1)) (hn : (i : Nat) < nL) (hl0 : m_put lv (i : Nat) (.int x) = lv') (k : Vj G w sh nL rk σ (pc + 1) lv' (st) o) : Vj G w sh nL rk σ pc lv (.int x :: st) (o) := by
  obtain ⟨p, l, e, d, s, m, args, below, meth, c⟩ := G
  obtain ⟨⟨hx, hb, hml, hown, hts⟩, hlocks, hr, hK, hJ, hZ⟩ := hg
  intro v τ ho H locs ls hP hS hl
  subst hl0
  exact lv_istore_n hx hb hd rfl hl.1 hn (m_put_eq hl.2) (fun ls' h' => k v τ ho H locs ls' hP hS ⟨h', m_put_c hl.2 rfl⟩)
theorem r_istore (hg : m_ok G w sh cc nL own ret) {i : Nat} {lv' : List (Nat × Value)} {x : Int32} (hd : decode cc pc = .ok (.istore i, 2)) (hn : i < nL) (hl0 : m_put lv i (.int x) = lv') (k : Vj G w sh nL rk σ (pc + 2) lv' (st) o) : Vj G w sh nL rk σ pc lv (.int x :: st) (o) := by
  obtain ⟨p, l, e, d, s, m, args, below, meth, c⟩ := G
  obtain ⟨⟨hx, hb, hml, hown, hts⟩, hlocks, hr, hK, hJ, hZ⟩ := hg
  intro v τ ho H locs ls hP hS hl
  subst hl0
  exact lv_istore hx hb hd hl.1 hn (m_put_eq hl.2) (fun ls' h' => k v τ ho H locs ls' hP hS ⟨h', m_put_c hl.2 rfl⟩)
theorem r_astore_n (hg : m_ok G w sh cc nL own ret) {i : Fin 4} {lv' : List (Nat × Value)} {x : Nat} (hd : decode cc pc = .ok (.astore_n i, 1)) (hn : (i : Nat) < nL) (hl0 : m_put lv (i : Nat) (.ref x) = lv') (k : Vj G w sh nL rk σ (pc + 1) lv' (st) o) : Vj G w sh nL rk σ pc lv (.ref x :: st) (o) := by
  obtain ⟨p, l, e, d, s, m, args, below, meth, c⟩ := G
  obtain ⟨⟨hx, hb, hml, hown, hts⟩, hlocks, hr, hK, hJ, hZ⟩ := hg
  intro v τ ho H locs ls hP hS hl
  subst hl0
  exact lv_astore_n hx hb hd rfl hl.1 hn (m_put_eq hl.2) (fun ls' h' => k v τ ho H locs ls' hP hS ⟨h', m_put_c hl.2 rfl⟩)
theorem r_astore (hg : m_ok G w sh cc nL own ret) {i : Nat} {lv' : List (Nat × Value)} {x : Nat} (hd : decode cc pc = .ok (.astore i, 2)) (hn : i < nL) (hl0 : m_put lv i (.ref x) = lv') (k : Vj G w sh nL rk σ (pc + 2) lv' (st) o) : Vj G w sh nL rk σ pc lv (.ref x :: st) (o) := by
  obtain ⟨p, l, e, d, s, m, args, below, meth, c⟩ := G
  obtain ⟨⟨hx, hb, hml, hown, hts⟩, hlocks, hr, hK, hJ, hZ⟩ := hg
  intro v τ ho H locs ls hP hS hl
  subst hl0
  exact lv_astore hx hb hd hl.1 hn (m_put_eq hl.2) (fun ls' h' => k v τ ho H locs ls' hP hS ⟨h', m_put_c hl.2 rfl⟩)
theorem r_astoreq_n (hg : m_ok G w sh cc nL own ret) {i : Fin 4} {lv' : List (Nat × Value)} {x : Int32} (hd : decode cc pc = .ok (.astore_n i, 1)) (hn : (i : Nat) < nL) (hl0 : m_put lv (i : Nat) (m_rf w.2.1 x) = lv') (k : Vj G w sh nL rk σ (pc + 1) lv' (st) o) : Vj G w sh nL rk σ pc lv (m_rf w.2.1 x :: st) (o) := by
  obtain ⟨p, l, e, d, s, m, args, below, meth, c⟩ := G
  obtain ⟨⟨hx, hb, hml, hown, hts⟩, hlocks, hr, hK, hJ, hZ⟩ := hg
  intro v τ ho H locs ls hP hS hl
  subst hl0
  have k := fun ls' h' => k v τ ho H locs ls' hP hS ⟨h', m_put_c hl.2 m_rf_cat⟩
  by_cases hz : x < 0
  · have e1 : m_rf w.2.1 x = .null := by simp [m_rf, m_ro, hz, va_rf]
    rw [e1] at k ⊢
    exact lv_astore_nN hx hb hd rfl hl.1 hn (m_put_eq hl.2) k
  · have e1 : m_rf w.2.1 x = .ref (w.2.1 x.toNatClampNeg) := by simp [m_rf, m_ro, hz, va_rf]
    rw [e1] at k ⊢
    exact lv_astore_n hx hb hd rfl hl.1 hn (m_put_eq hl.2) k
theorem r_astoreq (hg : m_ok G w sh cc nL own ret) {i : Nat} {lv' : List (Nat × Value)} {x : Int32} (hd : decode cc pc = .ok (.astore i, 2)) (hn : i < nL) (hl0 : m_put lv i (m_rf w.2.1 x) = lv') (k : Vj G w sh nL rk σ (pc + 2) lv' (st) o) : Vj G w sh nL rk σ pc lv (m_rf w.2.1 x :: st) (o) := by
  obtain ⟨p, l, e, d, s, m, args, below, meth, c⟩ := G
  obtain ⟨⟨hx, hb, hml, hown, hts⟩, hlocks, hr, hK, hJ, hZ⟩ := hg
  intro v τ ho H locs ls hP hS hl
  subst hl0
  have k := fun ls' h' => k v τ ho H locs ls' hP hS ⟨h', m_put_c hl.2 m_rf_cat⟩
  by_cases hz : x < 0
  · have e1 : m_rf w.2.1 x = .null := by simp [m_rf, m_ro, hz, va_rf]
    rw [e1] at k ⊢
    exact lv_astoreN hx hb hd hl.1 hn (m_put_eq hl.2) k
  · have e1 : m_rf w.2.1 x = .ref (w.2.1 x.toNatClampNeg) := by simp [m_rf, m_ro, hz, va_rf]
    rw [e1] at k ⊢
    exact lv_astore hx hb hd hl.1 hn (m_put_eq hl.2) k
theorem r_iinc (hg : m_ok G w sh cc nL own ret) {i : Nat} {n : Int} (j : Nat) {x : Int32} (y : Int32) {lv' : List (Nat × Value)} (hd : decode cc pc = .ok (.iinc i n, 3)) (hl1 : lv[j]? = some (i, .int x)) (hv : x + Int32.ofInt n = y) (hn : i < nL) (hl0 : m_put lv i (.int y) = lv') (k : Vj G w sh nL rk σ (pc + 3) lv' (st) o) : Vj G w sh nL rk σ pc lv (st) (o) := by
  obtain ⟨p, l, e, d, s, m, args, below, meth, c⟩ := G
  obtain ⟨⟨hx, hb, hml, hown, hts⟩, hlocks, hr, hK, hJ, hZ⟩ := hg
  intro v τ ho H locs ls hP hS hl
  subst hl0
  exact lv_iinc hx hb hd hl.1 hl1 hv hn (m_put_eq hl.2) (fun ls' h' => k v τ ho H locs ls' hP hS ⟨h', m_put_c hl.2 rfl⟩)
theorem r_iadd (hg : m_ok G w sh cc nL own ret) {x y : Int32} (hd : decode cc pc = .ok (.iadd, 1)) (k : Vj G w sh nL rk σ (pc + 1) lv (.int (x + y) :: st) o) : Vj G w sh nL rk σ pc lv (.int y :: .int x :: st) (o) := by
  obtain ⟨p, l, e, d, s, m, args, below, meth, c⟩ := G
  obtain ⟨⟨hx, hb, hml, hown, hts⟩, hlocks, hr, hK, hJ, hZ⟩ := hg
  intro v τ ho H locs ls hP hS hl
  exact lv_iadd hx hb hd (k v τ ho H locs ls hP hS hl)
theorem r_isub (hg : m_ok G w sh cc nL own ret) {x y : Int32} (hd : decode cc pc = .ok (.isub, 1)) (k : Vj G w sh nL rk σ (pc + 1) lv (.int (x - y) :: st) o) : Vj G w sh nL rk σ pc lv (.int y :: .int x :: st) (o) := by
  obtain ⟨p, l, e, d, s, m, args, below, meth, c⟩ := G
  obtain ⟨⟨hx, hb, hml, hown, hts⟩, hlocks, hr, hK, hJ, hZ⟩ := hg
  intro v τ ho H locs ls hP hS hl
  exact lv_isub hx hb hd (k v τ ho H locs ls hP hS hl)
theorem r_imul (hg : m_ok G w sh cc nL own ret) {x y : Int32} (hd : decode cc pc = .ok (.imul, 1)) (k : Vj G w sh nL rk σ (pc + 1) lv (.int (x * y) :: st) o) : Vj G w sh nL rk σ pc lv (.int y :: .int x :: st) (o) := by
  obtain ⟨p, l, e, d, s, m, args, below, meth, c⟩ := G
  obtain ⟨⟨hx, hb, hml, hown, hts⟩, hlocks, hr, hK, hJ, hZ⟩ := hg
  intro v τ ho H locs ls hP hS hl
  exact lv_imul hx hb hd (k v τ ho H locs ls hP hS hl)
theorem r_iand (hg : m_ok G w sh cc nL own ret) {x y : Int32} (hd : decode cc pc = .ok (.iand, 1)) (k : Vj G w sh nL rk σ (pc + 1) lv (.int (x &&& y) :: st) o) : Vj G w sh nL rk σ pc lv (.int y :: .int x :: st) (o) := by
  obtain ⟨p, l, e, d, s, m, args, below, meth, c⟩ := G
  obtain ⟨⟨hx, hb, hml, hown, hts⟩, hlocks, hr, hK, hJ, hZ⟩ := hg
  intro v τ ho H locs ls hP hS hl
  exact lv_iand hx hb hd (k v τ ho H locs ls hP hS hl)
theorem r_ior (hg : m_ok G w sh cc nL own ret) {x y : Int32} (hd : decode cc pc = .ok (.ior, 1)) (k : Vj G w sh nL rk σ (pc + 1) lv (.int (x ||| y) :: st) o) : Vj G w sh nL rk σ pc lv (.int y :: .int x :: st) (o) := by
  obtain ⟨p, l, e, d, s, m, args, below, meth, c⟩ := G
  obtain ⟨⟨hx, hb, hml, hown, hts⟩, hlocks, hr, hK, hJ, hZ⟩ := hg
  intro v τ ho H locs ls hP hS hl
  exact lv_ior hx hb hd (k v τ ho H locs ls hP hS hl)
theorem r_ixor (hg : m_ok G w sh cc nL own ret) {x y : Int32} (hd : decode cc pc = .ok (.ixor, 1)) (k : Vj G w sh nL rk σ (pc + 1) lv (.int (x ^^^ y) :: st) o) : Vj G w sh nL rk σ pc lv (.int y :: .int x :: st) (o) := by
  obtain ⟨p, l, e, d, s, m, args, below, meth, c⟩ := G
  obtain ⟨⟨hx, hb, hml, hown, hts⟩, hlocks, hr, hK, hJ, hZ⟩ := hg
  intro v τ ho H locs ls hP hS hl
  exact lv_ixor hx hb hd (k v τ ho H locs ls hP hS hl)
theorem r_ishl (hg : m_ok G w sh cc nL own ret) {x y : Int32} (hd : decode cc pc = .ok (.ishl, 1)) (k : Vj G w sh nL rk σ (pc + 1) lv (.int (x <<< (y &&& 31)) :: st) o) : Vj G w sh nL rk σ pc lv (.int y :: .int x :: st) (o) := by
  obtain ⟨p, l, e, d, s, m, args, below, meth, c⟩ := G
  obtain ⟨⟨hx, hb, hml, hown, hts⟩, hlocks, hr, hK, hJ, hZ⟩ := hg
  intro v τ ho H locs ls hP hS hl
  exact lv_ishl hx hb hd (k v τ ho H locs ls hP hS hl)
theorem r_ishr (hg : m_ok G w sh cc nL own ret) {x y : Int32} (hd : decode cc pc = .ok (.ishr, 1)) (k : Vj G w sh nL rk σ (pc + 1) lv (.int (x >>> (y &&& 31)) :: st) o) : Vj G w sh nL rk σ pc lv (.int y :: .int x :: st) (o) := by
  obtain ⟨p, l, e, d, s, m, args, below, meth, c⟩ := G
  obtain ⟨⟨hx, hb, hml, hown, hts⟩, hlocks, hr, hK, hJ, hZ⟩ := hg
  intro v τ ho H locs ls hP hS hl
  exact lv_ishr hx hb hd (k v τ ho H locs ls hP hS hl)
def ushr (x y : Int32) : Int32 := (x.toUInt32 >>> (y.toUInt32 &&& Int32.toUInt32 31)).toInt32
def i2b (x : Int32) : Int32 := x.toInt8.toInt32
def i2c (x : Int32) : Int32 := (x.toUInt32 % 65536).toInt32
theorem r_iushr (hg : m_ok G w sh cc nL own ret) {x y : Int32} (hd : decode cc pc = .ok (.iushr, 1)) (k : Vj G w sh nL rk σ (pc + 1) lv (.int (ushr x y) :: st) o) : Vj G w sh nL rk σ pc lv (.int y :: .int x :: st) (o) := by
  obtain ⟨p, l, e, d, s, m, args, below, meth, c⟩ := G
  obtain ⟨⟨hx, hb, hml, hown, hts⟩, hlocks, hr, hK, hJ, hZ⟩ := hg
  intro v τ ho H locs ls hP hS hl
  exact lv_iushr hx hb hd rfl (k v τ ho H locs ls hP hS hl)
theorem r_i2b (hg : m_ok G w sh cc nL own ret) {x : Int32} (hd : decode cc pc = .ok (.i2b, 1)) (k : Vj G w sh nL rk σ (pc + 1) lv (.int (i2b x) :: st) o) : Vj G w sh nL rk σ pc lv (.int x :: st) (o) := by
  obtain ⟨p, l, e, d, s, m, args, below, meth, c⟩ := G
  obtain ⟨⟨hx, hb, hml, hown, hts⟩, hlocks, hr, hK, hJ, hZ⟩ := hg
  intro v τ ho H locs ls hP hS hl
  exact lv_i2b hx hb hd rfl (k v τ ho H locs ls hP hS hl)
theorem r_i2c (hg : m_ok G w sh cc nL own ret) {x : Int32} (hd : decode cc pc = .ok (.i2c, 1)) (k : Vj G w sh nL rk σ (pc + 1) lv (.int (i2c x) :: st) o) : Vj G w sh nL rk σ pc lv (.int x :: st) (o) := by
  obtain ⟨p, l, e, d, s, m, args, below, meth, c⟩ := G
  obtain ⟨⟨hx, hb, hml, hown, hts⟩, hlocks, hr, hK, hJ, hZ⟩ := hg
  intro v τ ho H locs ls hP hS hl
  exact lv_i2c hx hb hd rfl (k v τ ho H locs ls hP hS hl)
theorem r_ineg (hg : m_ok G w sh cc nL own ret) {x : Int32} (hd : decode cc pc = .ok (.ineg, 1)) (k : Vj G w sh nL rk σ (pc + 1) lv (.int (-x) :: st) o) : Vj G w sh nL rk σ pc lv (.int x :: st) (o) := by
  obtain ⟨p, l, e, d, s, m, args, below, meth, c⟩ := G
  obtain ⟨⟨hx, hb, hml, hown, hts⟩, hlocks, hr, hK, hJ, hZ⟩ := hg
  intro v τ ho H locs ls hP hS hl
  exact lv_ineg hx hb hd (k v τ ho H locs ls hP hS hl)
theorem r_idiv (hg : m_ok G w sh cc nL own ret) {x y : Int32} (hd : decode cc pc = .ok (.idiv, 1)) (k : Vj G w sh nL rk σ (pc + 1) lv (.int (x / y) :: st) o) : Vj G w sh nL rk σ pc lv (.int y :: .int x :: st) (gd (decide (¬ y = 0)) o) := by
  obtain ⟨p, l, e, d, s, m, args, below, meth, c⟩ := G
  obtain ⟨⟨hx, hb, hml, hown, hts⟩, hlocks, hr, hK, hJ, hZ⟩ := hg
  intro v τ ho H locs ls hP hS hl
  obtain ⟨h1, ho⟩ := gd_some ho
  exact lv_idiv hx hb hd (by simpa using h1) (k v τ ho H locs ls hP hS hl)
theorem r_dup (hg : m_ok G w sh cc nL own ret) {x : Int32} (hd : decode cc pc = .ok (.dup, 1)) (k : Vj G w sh nL rk σ (pc + 1) lv (.int x :: .int x :: st) o) : Vj G w sh nL rk σ pc lv (.int x :: st) (o) := by
  obtain ⟨p, l, e, d, s, m, args, below, meth, c⟩ := G
  obtain ⟨⟨hx, hb, hml, hown, hts⟩, hlocks, hr, hK, hJ, hZ⟩ := hg
  intro v τ ho H locs ls hP hS hl
  exact lv_dup hx hb hd rfl (k v τ ho H locs ls hP hS hl)
theorem r_dupr (hg : m_ok G w sh cc nL own ret) {x : Nat} (hd : decode cc pc = .ok (.dup, 1)) (k : Vj G w sh nL rk σ (pc + 1) lv (.ref x :: .ref x :: st) o) : Vj G w sh nL rk σ pc lv (.ref x :: st) (o) := by
  obtain ⟨p, l, e, d, s, m, args, below, meth, c⟩ := G
  obtain ⟨⟨hx, hb, hml, hown, hts⟩, hlocks, hr, hK, hJ, hZ⟩ := hg
  intro v τ ho H locs ls hP hS hl
  exact lv_dup hx hb hd rfl (k v τ ho H locs ls hP hS hl)
theorem r_dup2 (hg : m_ok G w sh cc nL own ret) {x : Int32} {y : Nat} (hd : decode cc pc = .ok (.dup2, 1)) (k : Vj G w sh nL rk σ (pc + 1) lv (.int x :: .ref y :: .int x :: .ref y :: st) o) : Vj G w sh nL rk σ pc lv (.int x :: .ref y :: st) (o) := by
  obtain ⟨p, l, e, d, s, m, args, below, meth, c⟩ := G
  obtain ⟨⟨hx, hb, hml, hown, hts⟩, hlocks, hr, hK, hJ, hZ⟩ := hg
  intro v τ ho H locs ls hP hS hl
  exact lv_dup2_11 hx hb hd rfl rfl (k v τ ho H locs ls hP hS hl)
theorem r_pop (hg : m_ok G w sh cc nL own ret) {x : Int32} (hd : decode cc pc = .ok (.pop, 1)) (k : Vj G w sh nL rk σ (pc + 1) lv (st) o) : Vj G w sh nL rk σ pc lv (.int x :: st) (o) := by
  obtain ⟨p, l, e, d, s, m, args, below, meth, c⟩ := G
  obtain ⟨⟨hx, hb, hml, hown, hts⟩, hlocks, hr, hK, hJ, hZ⟩ := hg
  intro v τ ho H locs ls hP hS hl
  exact lv_pop hx hb hd rfl (k v τ ho H locs ls hP hS hl)
theorem r_goto (hg : m_ok G w sh cc nL own ret) {off : Int} (tgt : Nat) (hd : decode cc pc = .ok (.goto off, 3)) (ht : (pc : Int) + off = (tgt : Int)) (k : Vj G w sh nL rk σ tgt lv st o) : Vj G w sh nL rk σ pc lv (st) (o) := by
  obtain ⟨p, l, e, d, s, m, args, below, meth, c⟩ := G
  obtain ⟨⟨hx, hb, hml, hown, hts⟩, hlocks, hr, hK, hJ, hZ⟩ := hg
  intro v τ ho H locs ls hP hS hl
  exact lv_goto hx hb hd ht (k v τ ho H locs ls hP hS hl)
theorem r_if_eq (hg : m_ok G w sh cc nL own ret) {x : Int32} {off : Int} (tgt : Nat) {o1 o2 : Option (Int32 × Mem)} (hd : decode cc pc = .ok (.ifCond .eq off, 3)) (ht : (pc : Int) + off = (tgt : Int)) (k1 : Vj G w sh nL rk σ tgt lv st o1) (k2 : Vj G w sh nL rk σ (pc + 3) lv st o2) : Vj G w sh nL rk σ pc lv (.int x :: st) (if x = 0 then o1 else o2) := by
  obtain ⟨p, l, e, d, s, m, args, below, meth, c⟩ := G
  obtain ⟨⟨hx, hb, hml, hown, hts⟩, hlocks, hr, hK, hJ, hZ⟩ := hg
  intro v τ ho H locs ls hP hS hl
  refine lv_if_eq hx hb hd ht (fun q => ?_) (fun q => ?_)
  · exact k1 v τ (by rw [if_pos q] at ho; exact ho) H locs ls hP hS hl
  · exact k2 v τ (by rw [if_neg q] at ho; exact ho) H locs ls hP hS hl
theorem r_icmp_eq (hg : m_ok G w sh cc nL own ret) {x y : Int32} {off : Int} (tgt : Nat) {o1 o2 : Option (Int32 × Mem)} (hd : decode cc pc = .ok (.if_icmp .eq off, 3)) (ht : (pc : Int) + off = (tgt : Int)) (k1 : Vj G w sh nL rk σ tgt lv st o1) (k2 : Vj G w sh nL rk σ (pc + 3) lv st o2) : Vj G w sh nL rk σ pc lv (.int y :: .int x :: st) (if x = y then o1 else o2) := by
  obtain ⟨p, l, e, d, s, m, args, below, meth, c⟩ := G
  obtain ⟨⟨hx, hb, hml, hown, hts⟩, hlocks, hr, hK, hJ, hZ⟩ := hg
  intro v τ ho H locs ls hP hS hl
  refine lv_icmp_eq hx hb hd ht (fun q => ?_) (fun q => ?_)
  · exact k1 v τ (by rw [if_pos q] at ho; exact ho) H locs ls hP hS hl
  · exact k2 v τ (by rw [if_neg q] at ho; exact ho) H locs ls hP hS hl
theorem r_if_ne (hg : m_ok G w sh cc nL own ret) {x : Int32} {off : Int} (tgt : Nat) {o1 o2 : Option (Int32 × Mem)} (hd : decode cc pc = .ok (.ifCond .ne off, 3)) (ht : (pc : Int) + off = (tgt : Int)) (k1 : Vj G w sh nL rk σ tgt lv st o1) (k2 : Vj G w sh nL rk σ (pc + 3) lv st o2) : Vj G w sh nL rk σ pc lv (.int x :: st) (if x = 0 then o2 else o1) := by
  obtain ⟨p, l, e, d, s, m, args, below, meth, c⟩ := G
  obtain ⟨⟨hx, hb, hml, hown, hts⟩, hlocks, hr, hK, hJ, hZ⟩ := hg
  intro v τ ho H locs ls hP hS hl
  refine lv_if_ne hx hb hd ht (fun q => ?_) (fun q => ?_)
  · exact k1 v τ (by rw [if_neg q] at ho; exact ho) H locs ls hP hS hl
  · exact k2 v τ (by rw [if_pos q] at ho; exact ho) H locs ls hP hS hl
theorem r_icmp_ne (hg : m_ok G w sh cc nL own ret) {x y : Int32} {off : Int} (tgt : Nat) {o1 o2 : Option (Int32 × Mem)} (hd : decode cc pc = .ok (.if_icmp .ne off, 3)) (ht : (pc : Int) + off = (tgt : Int)) (k1 : Vj G w sh nL rk σ tgt lv st o1) (k2 : Vj G w sh nL rk σ (pc + 3) lv st o2) : Vj G w sh nL rk σ pc lv (.int y :: .int x :: st) (if x = y then o2 else o1) := by
  obtain ⟨p, l, e, d, s, m, args, below, meth, c⟩ := G
  obtain ⟨⟨hx, hb, hml, hown, hts⟩, hlocks, hr, hK, hJ, hZ⟩ := hg
  intro v τ ho H locs ls hP hS hl
  refine lv_icmp_ne hx hb hd ht (fun q => ?_) (fun q => ?_)
  · exact k1 v τ (by rw [if_neg q] at ho; exact ho) H locs ls hP hS hl
  · exact k2 v τ (by rw [if_pos q] at ho; exact ho) H locs ls hP hS hl
theorem r_if_lt (hg : m_ok G w sh cc nL own ret) {x : Int32} {off : Int} (tgt : Nat) {o1 o2 : Option (Int32 × Mem)} (hd : decode cc pc = .ok (.ifCond .lt off, 3)) (ht : (pc : Int) + off = (tgt : Int)) (k1 : Vj G w sh nL rk σ tgt lv st o1) (k2 : Vj G w sh nL rk σ (pc + 3) lv st o2) : Vj G w sh nL rk σ pc lv (.int x :: st) (if x < 0 then o1 else o2) := by
  obtain ⟨p, l, e, d, s, m, args, below, meth, c⟩ := G
  obtain ⟨⟨hx, hb, hml, hown, hts⟩, hlocks, hr, hK, hJ, hZ⟩ := hg
  intro v τ ho H locs ls hP hS hl
  refine lv_if_lt hx hb hd ht (fun q => ?_) (fun q => ?_)
  · exact k1 v τ (by rw [if_pos q] at ho; exact ho) H locs ls hP hS hl
  · exact k2 v τ (by rw [if_neg q] at ho; exact ho) H locs ls hP hS hl
theorem r_icmp_lt (hg : m_ok G w sh cc nL own ret) {x y : Int32} {off : Int} (tgt : Nat) {o1 o2 : Option (Int32 × Mem)} (hd : decode cc pc = .ok (.if_icmp .lt off, 3)) (ht : (pc : Int) + off = (tgt : Int)) (k1 : Vj G w sh nL rk σ tgt lv st o1) (k2 : Vj G w sh nL rk σ (pc + 3) lv st o2) : Vj G w sh nL rk σ pc lv (.int y :: .int x :: st) (if x < y then o1 else o2) := by
  obtain ⟨p, l, e, d, s, m, args, below, meth, c⟩ := G
  obtain ⟨⟨hx, hb, hml, hown, hts⟩, hlocks, hr, hK, hJ, hZ⟩ := hg
  intro v τ ho H locs ls hP hS hl
  refine lv_icmp_lt hx hb hd ht (fun q => ?_) (fun q => ?_)
  · exact k1 v τ (by rw [if_pos q] at ho; exact ho) H locs ls hP hS hl
  · exact k2 v τ (by rw [if_neg q] at ho; exact ho) H locs ls hP hS hl
theorem r_if_ge (hg : m_ok G w sh cc nL own ret) {x : Int32} {off : Int} (tgt : Nat) {o1 o2 : Option (Int32 × Mem)} (hd : decode cc pc = .ok (.ifCond .ge off, 3)) (ht : (pc : Int) + off = (tgt : Int)) (k1 : Vj G w sh nL rk σ tgt lv st o1) (k2 : Vj G w sh nL rk σ (pc + 3) lv st o2) : Vj G w sh nL rk σ pc lv (.int x :: st) (if 0 ≤ x then o1 else o2) := by
  obtain ⟨p, l, e, d, s, m, args, below, meth, c⟩ := G
  obtain ⟨⟨hx, hb, hml, hown, hts⟩, hlocks, hr, hK, hJ, hZ⟩ := hg
  intro v τ ho H locs ls hP hS hl
  refine lv_if_ge hx hb hd ht (fun q => ?_) (fun q => ?_)
  · exact k1 v τ (by rw [if_pos q] at ho; exact ho) H locs ls hP hS hl
  · exact k2 v τ (by rw [if_neg q] at ho; exact ho) H locs ls hP hS hl
theorem r_icmp_ge (hg : m_ok G w sh cc nL own ret) {x y : Int32} {off : Int} (tgt : Nat) {o1 o2 : Option (Int32 × Mem)} (hd : decode cc pc = .ok (.if_icmp .ge off, 3)) (ht : (pc : Int) + off = (tgt : Int)) (k1 : Vj G w sh nL rk σ tgt lv st o1) (k2 : Vj G w sh nL rk σ (pc + 3) lv st o2) : Vj G w sh nL rk σ pc lv (.int y :: .int x :: st) (if y ≤ x then o1 else o2) := by
  obtain ⟨p, l, e, d, s, m, args, below, meth, c⟩ := G
  obtain ⟨⟨hx, hb, hml, hown, hts⟩, hlocks, hr, hK, hJ, hZ⟩ := hg
  intro v τ ho H locs ls hP hS hl
  refine lv_icmp_ge hx hb hd ht (fun q => ?_) (fun q => ?_)
  · exact k1 v τ (by rw [if_pos q] at ho; exact ho) H locs ls hP hS hl
  · exact k2 v τ (by rw [if_neg q] at ho; exact ho) H locs ls hP hS hl
theorem r_if_gt (hg : m_ok G w sh cc nL own ret) {x : Int32} {off : Int} (tgt : Nat) {o1 o2 : Option (Int32 × Mem)} (hd : decode cc pc = .ok (.ifCond .gt off, 3)) (ht : (pc : Int) + off = (tgt : Int)) (k1 : Vj G w sh nL rk σ tgt lv st o1) (k2 : Vj G w sh nL rk σ (pc + 3) lv st o2) : Vj G w sh nL rk σ pc lv (.int x :: st) (if 0 < x then o1 else o2) := by
  obtain ⟨p, l, e, d, s, m, args, below, meth, c⟩ := G
  obtain ⟨⟨hx, hb, hml, hown, hts⟩, hlocks, hr, hK, hJ, hZ⟩ := hg
  intro v τ ho H locs ls hP hS hl
  refine lv_if_gt hx hb hd ht (fun q => ?_) (fun q => ?_)
  · exact k1 v τ (by rw [if_pos q] at ho; exact ho) H locs ls hP hS hl
  · exact k2 v τ (by rw [if_neg q] at ho; exact ho) H locs ls hP hS hl
theorem r_icmp_gt (hg : m_ok G w sh cc nL own ret) {x y : Int32} {off : Int} (tgt : Nat) {o1 o2 : Option (Int32 × Mem)} (hd : decode cc pc = .ok (.if_icmp .gt off, 3)) (ht : (pc : Int) + off = (tgt : Int)) (k1 : Vj G w sh nL rk σ tgt lv st o1) (k2 : Vj G w sh nL rk σ (pc + 3) lv st o2) : Vj G w sh nL rk σ pc lv (.int y :: .int x :: st) (if y < x then o1 else o2) := by
  obtain ⟨p, l, e, d, s, m, args, below, meth, c⟩ := G
  obtain ⟨⟨hx, hb, hml, hown, hts⟩, hlocks, hr, hK, hJ, hZ⟩ := hg
  intro v τ ho H locs ls hP hS hl
  refine lv_icmp_gt hx hb hd ht (fun q => ?_) (fun q => ?_)
  · exact k1 v τ (by rw [if_pos q] at ho; exact ho) H locs ls hP hS hl
  · exact k2 v τ (by rw [if_neg q] at ho; exact ho) H locs ls hP hS hl
theorem r_if_le (hg : m_ok G w sh cc nL own ret) {x : Int32} {off : Int} (tgt : Nat) {o1 o2 : Option (Int32 × Mem)} (hd : decode cc pc = .ok (.ifCond .le off, 3)) (ht : (pc : Int) + off = (tgt : Int)) (k1 : Vj G w sh nL rk σ tgt lv st o1) (k2 : Vj G w sh nL rk σ (pc + 3) lv st o2) : Vj G w sh nL rk σ pc lv (.int x :: st) (if x ≤ 0 then o1 else o2) := by
  obtain ⟨p, l, e, d, s, m, args, below, meth, c⟩ := G
  obtain ⟨⟨hx, hb, hml, hown, hts⟩, hlocks, hr, hK, hJ, hZ⟩ := hg
  intro v τ ho H locs ls hP hS hl
  refine lv_if_le hx hb hd ht (fun q => ?_) (fun q => ?_)
  · exact k1 v τ (by rw [if_pos q] at ho; exact ho) H locs ls hP hS hl
  · exact k2 v τ (by rw [if_neg q] at ho; exact ho) H locs ls hP hS hl
theorem r_icmp_le (hg : m_ok G w sh cc nL own ret) {x y : Int32} {off : Int} (tgt : Nat) {o1 o2 : Option (Int32 × Mem)} (hd : decode cc pc = .ok (.if_icmp .le off, 3)) (ht : (pc : Int) + off = (tgt : Int)) (k1 : Vj G w sh nL rk σ tgt lv st o1) (k2 : Vj G w sh nL rk σ (pc + 3) lv st o2) : Vj G w sh nL rk σ pc lv (.int y :: .int x :: st) (if x ≤ y then o1 else o2) := by
  obtain ⟨p, l, e, d, s, m, args, below, meth, c⟩ := G
  obtain ⟨⟨hx, hb, hml, hown, hts⟩, hlocks, hr, hK, hJ, hZ⟩ := hg
  intro v τ ho H locs ls hP hS hl
  refine lv_icmp_le hx hb hd ht (fun q => ?_) (fun q => ?_)
  · exact k1 v τ (by rw [if_pos q] at ho; exact ho) H locs ls hP hS hl
  · exact k2 v τ (by rw [if_neg q] at ho; exact ho) H locs ls hP hS hl
theorem r_ifnull (hg : m_ok G w sh cc nL own ret) {x : Int32} {off : Int} (tgt : Nat) {o1 o2 : Option (Int32 × Mem)} (hd : decode cc pc = .ok (.ifnull off, 3)) (ht : (pc : Int) + off = (tgt : Int)) (k1 : Vj G w sh nL rk σ tgt lv st o1) (k2 : Vj G w sh nL rk σ (pc + 3) lv st o2) : Vj G w sh nL rk σ pc lv (m_rf w.2.1 x :: st) (if x < 0 then o1 else o2) := by
  obtain ⟨p, l, e, d, s, m, args, below, meth, c⟩ := G
  obtain ⟨⟨hx, hb, hml, hown, hts⟩, hlocks, hr, hK, hJ, hZ⟩ := hg
  intro v τ ho H locs ls hP hS hl
  by_cases hz : x < 0
  · have e1 : m_rf w.2.1 x = .null := by simp [m_rf, m_ro, hz, va_rf]
    rw [e1]
    rw [if_pos hz] at ho
    exact lv_ifnullN hx hb hd ht (k1 v τ ho H locs ls hP hS hl)
  · have e1 : m_rf w.2.1 x = .ref (w.2.1 x.toNatClampNeg) := by simp [m_rf, m_ro, hz, va_rf]
    rw [e1]
    rw [if_neg hz] at ho
    exact lv_ifnull hx hb hd (k2 v τ ho H locs ls hP hS hl)
theorem r_ifnonnull (hg : m_ok G w sh cc nL own ret) {x : Int32} {off : Int} (tgt : Nat) {o1 o2 : Option (Int32 × Mem)} (hd : decode cc pc = .ok (.ifnonnull off, 3)) (ht : (pc : Int) + off = (tgt : Int)) (k1 : Vj G w sh nL rk σ (pc + 3) lv st o1) (k2 : Vj G w sh nL rk σ tgt lv st o2) : Vj G w sh nL rk σ pc lv (m_rf w.2.1 x :: st) (if x < 0 then o1 else o2) := by
  obtain ⟨p, l, e, d, s, m, args, below, meth, c⟩ := G
  obtain ⟨⟨hx, hb, hml, hown, hts⟩, hlocks, hr, hK, hJ, hZ⟩ := hg
  intro v τ ho H locs ls hP hS hl
  by_cases hz : x < 0
  · have e1 : m_rf w.2.1 x = .null := by simp [m_rf, m_ro, hz, va_rf]
    rw [e1]
    rw [if_pos hz] at ho
    exact lv_ifnonnullN hx hb hd (k1 v τ ho H locs ls hP hS hl)
  · have e1 : m_rf w.2.1 x = .ref (w.2.1 x.toNatClampNeg) := by simp [m_rf, m_ro, hz, va_rf]
    rw [e1]
    rw [if_neg hz] at ho
    exact lv_ifnonnull hx hb hd ht (k2 v τ ho H locs ls hP hS hl)
theorem r_null (hg : m_ok G w sh cc nL own ret) (hd : decode cc pc = .ok (.aconst_null, 1)) (k : Vj G w sh nL rk σ (pc + 1) lv (m_rf w.2.1 (-1) :: st) o) : Vj G w sh nL rk σ pc lv (st) (o) := by
  obtain ⟨p, l, e, d, s, m, args, below, meth, c⟩ := G
  obtain ⟨⟨hx, hb, hml, hown, hts⟩, hlocks, hr, hK, hJ, hZ⟩ := hg
  intro v τ ho H locs ls hP hS hl
  have k := (k v τ ho H locs ls hP hS hl)
  have e1 : m_rf w.2.1 (-1) = .null := by rfl
  rw [e1] at k
  exact lv_null hx hb hd k
theorem r_iret (hg : m_ok G w sh cc nL own ret) {x : Int32} (hd : decode cc pc = .ok (.ireturn, 1)) (hr0 : ret = some .int) (hk0 : rk = 1)  : Vj G w sh nL rk σ pc lv ([.int x]) (some (x, σ)) := by
  obtain ⟨p, l, e, d, s, m, args, below, meth, c⟩ := G
  obtain ⟨⟨hx, hb, hml, hown, hts⟩, hlocks, hr, hK, hJ, hZ⟩ := hg
  intro v τ ho H locs ls hP hS hl
  cases ho
  subst hr0; subst hk0
  exact W.iret (v := x) hx hb hr (fun t ht hW => ⟨rfl, by rw [ht]; exact hP, hS.F ht⟩) hS.2.2 hd hlocks
def isb (x : Int32) : Bool := x == 0 || x == 1
theorem r_zret (hg : m_ok G w sh cc nL own ret) {x : Int32} (hd : decode cc pc = .ok (.ireturn, 1)) (hr0 : ret = some .boolean) (hk0 : rk = 1)  : Vj G w sh nL rk σ pc lv ([.int x]) (gd (isb x) (some (x, σ))) := by
  obtain ⟨p, l, e, d, s, m, args, below, meth, c⟩ := G
  obtain ⟨⟨hx, hb, hml, hown, hts⟩, hlocks, hr, hK, hJ, hZ⟩ := hg
  intro v τ ho H locs ls hP hS hl
  obtain ⟨h1, ho⟩ := gd_some ho
  cases ho
  subst hr0; subst hk0
  have hn : narrow .boolean (.int x) = .int x := by
    simp only [isb, Bool.or_eq_true, beq_iff_eq] at h1
    rcases h1 with h1 | h1 <;> subst h1 <;> rfl
  exact W.zret (v := x) hx hb hr hn (fun t ht hW => ⟨rfl, by rw [ht]; exact hP, hS.F ht⟩) hS.2.2 hd hlocks
theorem r_ret (hg : m_ok G w sh cc nL own ret) (hd : decode cc pc = .ok (.return_, 1)) (hr0 : ret = none) (hk0 : rk = 0)  : Vj G w sh nL rk σ pc lv ([]) (some (0, σ)) := by
  obtain ⟨p, l, e, d, s, m, args, below, meth, c⟩ := G
  obtain ⟨⟨hx, hb, hml, hown, hts⟩, hlocks, hr, hK, hJ, hZ⟩ := hg
  intro v τ ho H locs ls hP hS hl
  cases ho
  subst hr0; subst hk0
  exact W.vret hx hb hr (fun t ht hW => ⟨rfl, by rw [ht]; exact hP, hS.F ht⟩) hS.2.2 hd hlocks
theorem r_aret (hg : m_ok G w sh cc nL own ret) {x : Int32} {C : String} (hd : decode cc pc = .ok (.areturn, 1)) (hr0 : ret = some (.object C)) (hk0 : rk = 2)  : Vj G w sh nL rk σ pc lv ([m_rf w.2.1 x]) (some (x, σ)) := by
  obtain ⟨p, l, e, d, s, m, args, below, meth, c⟩ := G
  obtain ⟨⟨hx, hb, hml, hown, hts⟩, hlocks, hr, hK, hJ, hZ⟩ := hg
  intro v τ ho H locs ls hP hS hl
  cases ho
  subst hr0; subst hk0
  have hv : m_rf w.2.1 x = .null ∨ ∃ a, m_rf w.2.1 x = .ref a := by
    by_cases hz : x < 0
    · exact Or.inl (by simp [m_rf, m_ro, hz, va_rf])
    · exact Or.inr ⟨w.2.1 x.toNatClampNeg, by simp [m_rf, m_ro, hz, va_rf]⟩
  exact W.aret (v := m_rf w.2.1 x) hx hb hr (Or.inl ⟨C, rfl⟩) hv (fun t ht hW => ⟨rfl, by rw [ht]; exact hP, hS.F ht⟩) hS.2.2 hd hlocks
theorem r_get (hg : m_ok G w sh cc nL own ret) {i ci j ix N : Nat} {ks : List Nat} {kd : Nat} {C ref : String} {T : u_T} (hs : sh[i]? = some (.inr (ci, ks))) (hk : ks[j]? = some kd) (hc : vwCl[ci]? = some (C, T, N)) (hj : j < N) (hin : ∀ v ∈ u_ws C T N, v ∈ mbig) (hlk : Cond.fieldLink own ix ref (T j).2.1 (T j).2.2.1 ∈ mbig) (hrf : (T j).1 = ref) (hd : decode cc pc = .ok (.getfield ix, 3)) (k : Vj G w sh nL rk σ (pc + 3) lv (m_val w.2.1 kd (σ i j) :: st) o) : Vj G w sh nL rk σ pc lv (.ref (w.2.1 i) :: st) (o) := by
  obtain ⟨p, l, e, d, s, m, args, below, meth, c⟩ := G
  obtain ⟨⟨hx, hb, hml, hown, hts⟩, hlocks, hr, hK, hJ, hZ⟩ := hg
  intro v τ ho H locs ls hP hS hl
  subst hrf
  exact va_get hx hb hts hin hown hK hP i (m_at hs) hc j hj (hts _ hlk) (fun _ h9 => h9) (v := m_val w.2.1 kd (σ i j)) (by simp [hk]) hd (k v τ ho H locs ls hP hS hl)
theorem r_put (hg : m_ok G w sh cc nL own ret) {i ci j ix N : Nat} {ks : List Nat} {C ref : String} {T : u_T} {ty : Nat → FieldType} {x : Int32} (hs : sh[i]? = some (.inr (ci, ks))) (hk : ks[j]? = some 0) (hc : vwCl[ci]? = some (C, T, N)) (hj : j < N) (hin : ∀ v ∈ u_ws C T N, v ∈ mbig) (hlk : Cond.fieldLink own ix ref (T j).2.1 (T j).2.2.1 ∈ mbig) (hrf : (T j).1 = ref) (hty : ∀ k, k < N → parseFieldDescriptor (T k).2.2.1 = some (ty k)) (hnm : ∀ a, a < N → ∀ b, b < N → a ≠ b → (T a).2.1 ≠ (T b).2.1) (hfin : (T j).2.2.2 = false) (hi0 : ty j = .int) (hd : decode cc pc = .ok (.putfield ix, 3)) (k : Vj G w sh nL rk (mu σ i j x) (pc + 3) lv st o) : Vj G w sh nL rk σ pc lv (.int x :: .ref (w.2.1 i) :: st) (o) := by
  obtain ⟨p, l, e, d, s, m, args, below, meth, c⟩ := G
  obtain ⟨⟨hx, hb, hml, hown, hts⟩, hlocks, hr, hK, hJ, hZ⟩ := hg
  intro v τ ho H locs ls hP hS hl
  subst hrf
  refine va_put hx hb hts hin ty hty hnm hown hK hP (m_D hJ) hS i (m_at hs) hc j hj (hts _ hlk) (fun _ h9 => h9) hfin (v := .int x) (ty := .int) (by rw [hty j hj, hi0]) rfl rfl (by simpa using (List.getElem?_eq_some_iff.mp hk).1) hd (fun H1 locs1 hP1 hD1 hS1 => ?_)
  rw [m_put_fld hs hk] at hP1
  exact k v τ ho H1 locs1 ls hP1 hS1 hl
theorem r_putz (hg : m_ok G w sh cc nL own ret) {i ci j ix N : Nat} {ks : List Nat} {C ref : String} {T : u_T} {ty : Nat → FieldType} {x : Int32} (hs : sh[i]? = some (.inr (ci, ks))) (hk : ks[j]? = some 0) (hc : vwCl[ci]? = some (C, T, N)) (hj : j < N) (hin : ∀ v ∈ u_ws C T N, v ∈ mbig) (hlk : Cond.fieldLink own ix ref (T j).2.1 (T j).2.2.1 ∈ mbig) (hrf : (T j).1 = ref) (hty : ∀ k, k < N → parseFieldDescriptor (T k).2.2.1 = some (ty k)) (hnm : ∀ a, a < N → ∀ b, b < N → a ≠ b → (T a).2.1 ≠ (T b).2.1) (hfin : (T j).2.2.2 = false) (hi0 : ty j = .boolean) (hd : decode cc pc = .ok (.putfield ix, 3)) (k : Vj G w sh nL rk (mu σ i j x) (pc + 3) lv st o) : Vj G w sh nL rk σ pc lv (.int x :: .ref (w.2.1 i) :: st) (gd (isb x) o) := by
  obtain ⟨p, l, e, d, s, m, args, below, meth, c⟩ := G
  obtain ⟨⟨hx, hb, hml, hown, hts⟩, hlocks, hr, hK, hJ, hZ⟩ := hg
  intro v τ ho H locs ls hP hS hl
  subst hrf
  obtain ⟨h1, ho⟩ := gd_some ho
  have hb01 : x = 0 ∨ x = 1 := by simpa [isb] using h1
  have hn : narrow .boolean (.int x) = .int x := by rcases hb01 with h1 | h1 <;> subst h1 <;> rfl
  have hf : fits .boolean (.int x) = true := by rcases hb01 with h1 | h1 <;> subst h1 <;> rfl
  refine va_put hx hb hts hin ty hty hnm hown hK hP (m_D hJ) hS i (m_at hs) hc j hj (hts _ hlk) (fun _ h9 => h9) hfin (v := .int x) (ty := .boolean) (by rw [hty j hj, hi0]) hn hf (by simpa using (List.getElem?_eq_some_iff.mp hk).1) hd (fun H1 locs1 hP1 hD1 hS1 => ?_)
  rw [m_put_fld hs hk] at hP1
  exact k v τ ho H1 locs1 ls hP1 hS1 hl
theorem r_iaload (hg : m_ok G w sh cc nL own ret) {a n : Nat} {i : Int32} (hs : sh[a]? = some (.inl (0, n))) (hd : decode cc pc = .ok (.iaload, 1)) (k : Vj G w sh nL rk σ (pc + 1) lv (.int (σ a i.toNatClampNeg) :: st) o) : Vj G w sh nL rk σ pc lv (.int i :: .ref (w.2.1 a) :: st) (gd (inb i n) o) := by
  obtain ⟨p, l, e, d, s, m, args, below, meth, c⟩ := G
  obtain ⟨⟨hx, hb, hml, hown, hts⟩, hlocks, hr, hK, hJ, hZ⟩ := hg
  intro v τ ho H locs ls hP hS hl
  obtain ⟨h1, ho⟩ := gd_some ho
  exact va_iald hx hb hK hP a 0 (m_at hs) rfl (inb_in h1) hd (k v τ ho H locs ls hP hS hl)
theorem r_baload (hg : m_ok G w sh cc nL own ret) {a n : Nat} {i : Int32} (hs : sh[a]? = some (.inl (1, n))) (hd : decode cc pc = .ok (.baload, 1)) (k : Vj G w sh nL rk σ (pc + 1) lv (.int (σ a i.toNatClampNeg) :: st) o) : Vj G w sh nL rk σ pc lv (.int i :: .ref (w.2.1 a) :: st) (gd (inb i n) o) := by
  obtain ⟨p, l, e, d, s, m, args, below, meth, c⟩ := G
  obtain ⟨⟨hx, hb, hml, hown, hts⟩, hlocks, hr, hK, hJ, hZ⟩ := hg
  intro v τ ho H locs ls hP hS hl
  obtain ⟨h1, ho⟩ := gd_some ho
  exact va_bald hx hb hK hP a 1 (m_at hs) rfl (inb_in h1) hd (k v τ ho H locs ls hP hS hl)
theorem r_iastore (hg : m_ok G w sh cc nL own ret) {a n : Nat} {i x : Int32} (hs : sh[a]? = some (.inl (0, n))) (hd : decode cc pc = .ok (.iastore, 1)) (k : Vj G w sh nL rk (mu σ a i.toNatClampNeg x) (pc + 1) lv st o) : Vj G w sh nL rk σ pc lv (.int x :: .int i :: .ref (w.2.1 a) :: st) (gd (inb i n) o) := by
  obtain ⟨p, l, e, d, s, m, args, below, meth, c⟩ := G
  obtain ⟨⟨hx, hb, hml, hown, hts⟩, hlocks, hr, hK, hJ, hZ⟩ := hg
  intro v τ ho H locs ls hP hS hl
  obtain ⟨h1, ho⟩ := gd_some ho
  refine va_iast hx hb hK hP (m_D hJ) hS a 0 (m_at hs) rfl (inb_in h1) hd (fun H1 locs1 hP1 hD1 hS1 => ?_)
  rw [m_put_arr hs rfl rfl] at hP1
  exact k v τ ho H1 locs1 ls hP1 hS1 hl
theorem r_bastore (hg : m_ok G w sh cc nL own ret) {a n : Nat} {i x : Int32} (hs : sh[a]? = some (.inl (1, n))) (hd : decode cc pc = .ok (.bastore, 1)) (k : Vj G w sh nL rk (mu σ a i.toNatClampNeg (i2b x)) (pc + 1) lv st o) : Vj G w sh nL rk σ pc lv (.int x :: .int i :: .ref (w.2.1 a) :: st) (gd (inb i n) o) := by
  obtain ⟨p, l, e, d, s, m, args, below, meth, c⟩ := G
  obtain ⟨⟨hx, hb, hml, hown, hts⟩, hlocks, hr, hK, hJ, hZ⟩ := hg
  intro v τ ho H locs ls hP hS hl
  obtain ⟨h1, ho⟩ := gd_some ho
  refine va_bast hx hb hK hP (m_D hJ) hS a 1 (m_at hs) rfl (inb_in h1) hd (fun H1 locs1 hP1 hD1 hS1 => ?_)
  rw [vp_nar_byte, m_put_arr hs rfl rfl] at hP1
  exact k v τ ho H1 locs1 ls hP1 hS1 hl
theorem r_aaload (hg : m_ok G w sh cc nL own ret) {a n : Nat} {i : Int32} (hs : sh[a]? = some (.inl (2, n))) (hd : decode cc pc = .ok (.aaload, 1)) (k : Vj G w sh nL rk σ (pc + 1) lv (m_rf w.2.1 (σ a i.toNatClampNeg) :: st) o) : Vj G w sh nL rk σ pc lv (.int i :: .ref (w.2.1 a) :: st) (gd (inb i n) o) := by
  obtain ⟨p, l, e, d, s, m, args, below, meth, c⟩ := G
  obtain ⟨⟨hx, hb, hml, hown, hts⟩, hlocks, hr, hK, hJ, hZ⟩ := hg
  intro v τ ho H locs ls hP hS hl
  obtain ⟨h1, ho⟩ := gd_some ho
  exact va_aldq hx hb hK hP a 2 (m_at hs) rfl (inb_in h1) hd (k v τ ho H locs ls hP hS hl)
theorem r_aastore (hg : m_ok G w sh cc nL own ret) {a n b : Nat} {i x : Int32} {ks : List Nat} (hs : sh[a]? = some (.inl (2, n))) (hs2 : ∀ q : Nat, q < b → ∃ ks, sh[q]? = some (.inr (0, ks))) (hd : decode cc pc = .ok (.aastore, 1)) (k : Vj G w sh nL rk (mu σ a i.toNatClampNeg x) (pc + 1) lv st o) : Vj G w sh nL rk σ pc lv (m_rf w.2.1 x :: .int i :: .ref (w.2.1 a) :: st) (gd (inb i n) (gd (inb x b) o)) := by
  obtain ⟨p, l, e, d, s, m, args, below, meth, c⟩ := G
  obtain ⟨⟨hx, hb, hml, hown, hts⟩, hlocks, hr, hK, hJ, hZ⟩ := hg
  intro v τ ho H locs ls hP hS hl
  obtain ⟨h1, ho⟩ := gd_some ho
  obtain ⟨h2, ho⟩ := gd_some ho
  have h3 := inb_in h2
  rw [m_rf_in h3]
  have hq : x.toNatClampNeg < b := Nat.not_le.mp (fun z => h3 (Or.inr z))
  obtain ⟨ks, hq⟩ := hs2 _ hq
  refine va_astq hx hb hK hP (m_D hJ) hS a 2 x.toNatClampNeg 0 (r := (RX0, TX0, 1)) (m_at hs) rfl (m_at hq) rfl (inb_in h1) hd (fun H1 locs1 hP1 hD1 hS1 => ?_)
  have e1 : some (w.2.1 x.toNatClampNeg) = m_ro w.2.1 x := by
    have hz : ¬ x < 0 := fun z => h3 (Or.inl z)
    simp [m_ro, hz]
  rw [e1, m_put_ref hs] at hP1
  exact k v τ ho H1 locs1 ls hP1 hS1 hl
theorem r_alen (hg : m_ok G w sh cc nL own ret) {a n : Nat} (hs : sh[a]? = some (.inl (0, n))) (hd : decode cc pc = .ok (.arraylength, 1)) (k : Vj G w sh nL rk σ (pc + 1) lv (.int (nI n) :: st) o) : Vj G w sh nL rk σ pc lv (.ref (w.2.1 a) :: st) (o) := by
  obtain ⟨p, l, e, d, s, m, args, below, meth, c⟩ := G
  obtain ⟨⟨hx, hb, hml, hown, hts⟩, hlocks, hr, hK, hJ, hZ⟩ := hg
  intro v τ ho H locs ls hP hS hl
  exact va_alen hx hb hK hP a 0 (m_at hs) rfl rfl hd (k v τ ho H locs ls hP hS hl)
end MROWS
end
section
/-! calls inside a world: the callee's function, then what follows -/
def m_cal (own : String) (ix : Nat) (y : MethodName) (cc : ByteArray) (nL : Nat) (ret : Option FieldType) : Prop := Cond.methodLink own ix y ∈ mbig ∧ Cond.code y cc nL ret ∈ mbig ∧ Cond.initialized y.cls ∈ mbig ∧ nL ≤ 21 ∧ y.cls ≠ "java/lang/invoke/MethodHandle" ∧ y.cls ≠ "java/lang/invoke/VarHandle"
theorem m_blind {w : mW} {sh : mSh} {σ : Mem} {av : List Value} : FrameBlind (va_Pc av (m_pre w sh σ)) := by
  intro a U g mk q
  obtain ⟨q0, hP, hK, hJ, hZ⟩ := q
  exact ⟨q0, hP, va_K.moved (u := U) (U := U.calling g mk a) (Vm.Alike.refl U.vm) hK, hJ, hZ.same rfl rfl⟩
theorem m_good {y : MethodName} {cc : ByteArray} {n : Nat} {r : Option FieldType} (h : Cond.code y cc n r ∈ mbig) : GoodIn mbig (Cond.code y cc n r :: mbig) := m_goodIn (ws := []) h
section MCALL
variable {p : Program} {l : Launch} {e : Env} {d : Nat} {s : State} {m : MethodId} {args : Array Value} {below : List Frame} {meth : Method} {c : Code}
variable {w : mW} {sh : mSh} {cc : ByteArray} {nL rk : Nat} {own : String} {ret : Option FieldType} {σ : Mem} {pc : Nat} {lv : List (Nat × Value)} {st st0 : List Value}
variable {y : MethodName} {cy : ByteArray} {nLy rky dy ix : Nat} {rty : Option FieldType} {As : List Value} {o1 : Option (Int32 × Mem)} {f : Int32 → Mem → Option (Int32 × Mem)}
theorem m_callB (hts : ∀ w ∈ mbig, w.before args s = true) (hcal : m_cal own ix y cy nLy rty) (hn : (parseMethodDescriptor y.desc).map (fun d => d.parameters.length) = some As.length) (hdp : dy + 1 ≤ d) : CallB (m_room d) s args own ix y cy nLy rty (Cond.code y cy nLy rty :: mbig) (m_room dy) 0 0 As.length := by
  obtain ⟨h1, h2, h3, h4, h5, h6⟩ := hcal
  refine callB_of As.length hts (m_good h2) rfl rfl rfl (hts _ h3) (hts _ h1) ⟨h5, h6, hn⟩ ⟨hdp, ?_⟩
  show 8 + (nLy + 11) + 40 * dy ≤ 40 * d
  omega
theorem m_preS {H : Heap} {locs : List Loc} {av : List Value} (hP : va_P w.1 vwCl (m_cn w sh σ) H) (hS : va_S (m_A w sh) s.heap H locs) (hK : va_K w.1 vwCl (m_ty w) s) (hJ : m_J w sh) (hZ : m_st w (m_A w sh) s) : PreS s H (va_Pc av (m_pre w sh σ)) av :=
  ⟨m_blind, fun U hU hW => ⟨rfl, by rw [hU]; exact hP, va_K.moved hW.alike hK, hJ, hZ.warm hW (fun a ha hn => by rw [hU]; exact hS.2.1 a ha hn)⟩⟩
theorem m_after {H : Heap} {locs : List Loc} {ls : Array Slot} {v r : Int32} {τ τ1 : Mem} {a : Array Value} (hS : va_S (m_A w sh) s.heap H locs) (hl : m_lv ls nL lv)
    (hr : va_Run p l e (m_room d) s m args below meth c H locs 0 0 0 0 (F0 m pc ls st0) st (m_Q w sh rky r τ1 a) (m_A w sh))
    (k : Vj (p, l, e, d, s, m, args, below, meth, c) w sh nL rk τ1 (pc + 3) lv ((m_ret w rky r).toList ++ st) (some (v, τ))) : W p l e (m_room d) s m args below meth c H locs 0 0 (MQ below (m_Q w sh rk v τ) args s 0 0 (m_A w sh)) (F0 m pc ls st0) := by
  intro T hT X
  obtain ⟨v0, st₀, t, T', L, h0, X', hL, e1, e2, ⟨hv, hP1, hz, hk⟩, stp⟩ := hr T hT X
  cases hv
  rw [h0] at hz hk
  obtain ⟨t2, a1, b1⟩ := k v τ rfl T'.heap (locs ++ L) ls (by rw [e1]; exact hP1) ⟨Nat.le_trans hS.1 (by rw [e1]; exact hz), fun q h1 h2 => by rw [e1, hk q (Nat.lt_of_lt_of_le h1 hS.1) h2]; exact hS.2.1 q h1 h2, fun q hq => by
      rcases List.mem_append.mp hq with h | h
      · exact hS.2.2 q h
      · exact hL q h⟩ hl T' rfl X'
  exact ⟨t2, stp t2 a1, b1⟩
/-- a method of an object of the world -/
theorem r_callv {i ci N : Nat} {ks : List Nat} {C : String} {T : u_T} (hg : m_ok (p, l, e, d, s, m, args, below, meth, c) w sh cc nL own ret) (hE : Ev l w sh y cy nLy rty rky dy (.ref (w.2.1 i) :: As) σ o1) (hcal : m_cal own ix y cy nLy rty) (hin : Cond.instanceMethod y ∈ mbig) (hsel : Cond.selects C y y ∈ mbig) (hs : sh[i]? = some (.inr (ci, ks))) (hc : vwCl[ci]? = some (C, T, N))
    (hn : (parseMethodDescriptor y.desc).map (fun d => d.parameters.length) = some As.length) (hdp : dy + 1 ≤ d) (hst : st0 = As.reverse ++ .ref (w.2.1 i) :: st) (hc1 : m_c1 st) (hl8 : st.length ≤ 8) (hd : decode cc pc = .ok (.invokevirtual ix, 3))
    (k : ∀ r τ1, Vj (p, l, e, d, s, m, args, below, meth, c) w sh nL rk τ1 (pc + 3) lv ((m_ret w rky r).toList ++ st) (f r τ1)) : Vj (p, l, e, d, s, m, args, below, meth, c) w sh nL rk σ pc lv st0 (o1.bind fun x => f x.1 x.2) := by
  obtain ⟨⟨hx, hb, hml, hown, hts⟩, hlocks, hr, hK, hJ, hZ⟩ := hg
  intro v τ ho H locs ls hP hS hl
  cases o1 with
  | none => cases ho
  | some x =>
    obtain ⟨r, τ1⟩ := x
    have ho : f r τ1 = some (v, τ) := ho
    have hp := m_preS (av := .ref (w.2.1 i) :: As) hP hS hK hJ hZ
    refine m_after (rky := rky) (r := r) (τ1 := τ1) hS hl (va_runV (C := C) (As := As) (rest := st) ⟨hx, hb, hml, hown, hts⟩ (hE r τ1 rfl) ⟨m_callB hts hcal hn hdp, hts _ hin, hts _ hsel⟩ ⟨hp.1, ?_, hp.2⟩ rfl rfl hl.1.1 hst (lv_room (by rw [m_c1_sum hc1]; exact hl8)) hd ⟨Nat.le_refl 0, Nat.le_refl 0⟩) (ho ▸ k r τ1)
    exact va_recv hK hP hc (m_at hs)
/-- a method of a cover (one of the first b cells), by its number -/
theorem r_callq {b : Nat} {z : Int32} (hg : m_ok (p, l, e, d, s, m, args, below, meth, c) w sh cc nL own ret) (hE : Ev l w sh y cy nLy rty rky dy (m_rf w.2.1 z :: As) σ o1) (hcal : m_cal own ix y cy nLy rty) (hin : Cond.instanceMethod y ∈ mbig) (hsel : Cond.selects RX0 y y ∈ mbig) (hs : ∀ q : Nat, q < b → ∃ ks, sh[q]? = some (.inr (0, ks)))
    (hn : (parseMethodDescriptor y.desc).map (fun d => d.parameters.length) = some As.length) (hdp : dy + 1 ≤ d) (hst : st0 = As.reverse ++ m_rf w.2.1 z :: st) (hc1 : m_c1 st) (hl8 : st.length ≤ 8) (hd : decode cc pc = .ok (.invokevirtual ix, 3))
    (k : ∀ r τ1, Vj (p, l, e, d, s, m, args, below, meth, c) w sh nL rk τ1 (pc + 3) lv ((m_ret w rky r).toList ++ st) (f r τ1)) : Vj (p, l, e, d, s, m, args, below, meth, c) w sh nL rk σ pc lv st0 (gd (inb z b) (o1.bind fun x => f x.1 x.2)) := by
  obtain ⟨⟨hx, hb, hml, hown, hts⟩, hlocks, hr, hK, hJ, hZ⟩ := hg
  intro v τ ho H locs ls hP hS hl
  obtain ⟨h1, ho⟩ := gd_some ho
  have h3 := inb_in h1
  have hq : z.toNatClampNeg < b := Nat.not_le.mp (fun z => h3 (Or.inr z))
  obtain ⟨ks, hq⟩ := hs _ hq
  rw [m_rf_in h3] at hE hst
  cases o1 with
  | none => cases ho
  | some x =>
    obtain ⟨r, τ1⟩ := x
    have ho : f r τ1 = some (v, τ) := ho
    have hp := m_preS (av := .ref (w.2.1 z.toNatClampNeg) :: As) hP hS hK hJ hZ
    refine m_after (rky := rky) (r := r) (τ1 := τ1) hS hl (va_runV (C := RX0) (As := As) (rest := st) ⟨hx, hb, hml, hown, hts⟩ (hE r τ1 rfl) ⟨m_callB hts hcal hn hdp, hts _ hin, hts _ hsel⟩ ⟨hp.1, ?_, hp.2⟩ rfl rfl hl.1.1 hst (lv_room (by rw [m_c1_sum hc1]; exact hl8)) hd ⟨Nat.le_refl 0, Nat.le_refl 0⟩) (ho ▸ k r τ1)
    exact va_recv (ci := 0) hK hP rfl (m_at hq)
theorem r_calls (hg : m_ok (p, l, e, d, s, m, args, below, meth, c) w sh cc nL own ret) (hE : Ev l w sh y cy nLy rty rky dy As σ o1) (hcal : m_cal own ix y cy nLy rty) (hstt : Cond.static y ∈ mbig)
    (hn : (parseMethodDescriptor y.desc).map (fun d => d.parameters.length) = some As.length) (hdp : dy + 1 ≤ d) (hst : st0 = As.reverse ++ st) (hc1 : m_c1 st) (hl8 : st.length ≤ 8) (hd : decode cc pc = .ok (.invokestatic ix, 3))
    (k : ∀ r τ1, Vj (p, l, e, d, s, m, args, below, meth, c) w sh nL rk τ1 (pc + 3) lv ((m_ret w rky r).toList ++ st) (f r τ1)) : Vj (p, l, e, d, s, m, args, below, meth, c) w sh nL rk σ pc lv st0 (o1.bind fun x => f x.1 x.2) := by
  obtain ⟨⟨hx, hb, hml, hown, hts⟩, hlocks, hr, hK, hJ, hZ⟩ := hg
  intro v τ ho H locs ls hP hS hl
  cases o1 with
  | none => cases ho
  | some x =>
    obtain ⟨r, τ1⟩ := x
    have ho : f r τ1 = some (v, τ) := ho
    exact m_after (rky := rky) (r := r) (τ1 := τ1) hS hl (va_runS (As := As) (rest := st) ⟨hx, hb, hml, hown, hts⟩ (hE r τ1 rfl) ⟨m_callB hts hcal hn hdp, hts _ hstt⟩ (m_preS hP hS hK hJ hZ) rfl rfl hl.1.1 hst (lv_room (by rw [m_c1_sum hc1]; exact hl8)) hd ⟨Nat.le_refl 0, Nat.le_refl 0⟩) (ho ▸ k r τ1)
def imax (x y : Int32) : Int32 := if x < y then y else x
def imin (x y : Int32) : Int32 := if y < x then y else x
def iabs (x : Int32) : Int32 := if 0 ≤ x then x else 0 - x
variable {o : Option (Int32 × Mem)}
theorem r_max {x z : Int32} (hg : m_ok (p, l, e, d, s, m, args, below, meth, c) w sh cc nL own ret) (h1 : Cond.methodLink own ix Lib.Math.max.name ∈ mbig) (h2 : Cond.static Lib.Math.max.name ∈ mbig) (h3 : Cond.initialized "java/lang/Math" ∈ mbig) (h4 : Cond.code Lib.Math.max.name Lib.Math.max.code 2 (some .int) ∈ mbig) (hdp : 1 ≤ d) (hc1 : m_c1 st) (hl8 : st.length ≤ 8) (hd : decode cc pc = .ok (.invokestatic ix, 3))
    (k : Vj (p, l, e, d, s, m, args, below, meth, c) w sh nL rk σ (pc + 3) lv (.int (imax x z) :: st) o) : Vj (p, l, e, d, s, m, args, below, meth, c) w sh nL rk σ pc lv (.int z :: .int x :: st) o := by
  obtain ⟨⟨hx, hb, hml, hown, hts⟩, hlocks, hr, hK, hJ, hZ⟩ := hg
  intro v τ ho H locs ls hP hS hl
  exact va_mmax hx hb (hml.trans hl.1.1.symm) hown (hts _ h1) (hts _ h2) (hts _ h3) (hts _ h4) hdp (by rw [m_c1_sum hc1]; show _ ≤ 40 * d; omega) (Nat.le_refl 0) (Nat.le_refl 0) hd (k v τ ho H locs ls hP hS hl)
theorem r_min {x z : Int32} (hg : m_ok (p, l, e, d, s, m, args, below, meth, c) w sh cc nL own ret) (h1 : Cond.methodLink own ix Lib.Math.min.name ∈ mbig) (h2 : Cond.static Lib.Math.min.name ∈ mbig) (h3 : Cond.initialized "java/lang/Math" ∈ mbig) (h4 : Cond.code Lib.Math.min.name Lib.Math.min.code 2 (some .int) ∈ mbig) (hdp : 1 ≤ d) (hc1 : m_c1 st) (hl8 : st.length ≤ 8) (hd : decode cc pc = .ok (.invokestatic ix, 3))
    (k : Vj (p, l, e, d, s, m, args, below, meth, c) w sh nL rk σ (pc + 3) lv (.int (imin x z) :: st) o) : Vj (p, l, e, d, s, m, args, below, meth, c) w sh nL rk σ pc lv (.int z :: .int x :: st) o := by
  obtain ⟨⟨hx, hb, hml, hown, hts⟩, hlocks, hr, hK, hJ, hZ⟩ := hg
  intro v τ ho H locs ls hP hS hl
  exact va_mmin hx hb (hml.trans hl.1.1.symm) hown (hts _ h1) (hts _ h2) (hts _ h3) (hts _ h4) hdp (by rw [m_c1_sum hc1]; show _ ≤ 40 * d; omega) (Nat.le_refl 0) (Nat.le_refl 0) hd (k v τ ho H locs ls hP hS hl)
theorem r_abs {x : Int32} (hg : m_ok (p, l, e, d, s, m, args, below, meth, c) w sh cc nL own ret) (h1 : Cond.methodLink own ix Lib.Math.abs.name ∈ mbig) (h2 : Cond.static Lib.Math.abs.name ∈ mbig) (h3 : Cond.initialized "java/lang/Math" ∈ mbig) (h4 : Cond.code Lib.Math.abs.name Lib.Math.abs.code 1 (some .int) ∈ mbig) (hdp : 1 ≤ d) (hc1 : m_c1 st) (hl8 : st.length ≤ 8) (hd : decode cc pc = .ok (.invokestatic ix, 3))
    (k : Vj (p, l, e, d, s, m, args, below, meth, c) w sh nL rk σ (pc + 3) lv (.int (iabs x) :: st) o) : Vj (p, l, e, d, s, m, args, below, meth, c) w sh nL rk σ pc lv (.int x :: st) o := by
  obtain ⟨⟨hx, hb, hml, hown, hts⟩, hlocks, hr, hK, hJ, hZ⟩ := hg
  intro v τ ho H locs ls hP hS hl
  exact va_mabs hx hb (hml.trans hl.1.1.symm) hown (hts _ h1) (hts _ h2) (hts _ h3) (hts _ h4) hdp (by rw [m_c1_sum hc1]; show _ ≤ 40 * d; omega) (Nat.le_refl 0) (Nat.le_refl 0) hd (k v τ ho H locs ls hP hS hl)
/-- a field of the first b cells (covers), by number: the row of words of cover z is the cell b + z -/
theorem r_getq {b N : Nat} {z : Int32} {C ref : String} {T : u_T} (hg : m_ok (p, l, e, d, s, m, args, below, meth, c) w sh cc nL own ret) (hs : ∀ q : Nat, q < b → sh[q]? = some (.inr (0, [b + q + 2]))) (hc : vwCl[0]? = some (C, T, N)) (hj : 0 < N) (hin : ∀ v ∈ u_ws C T N, v ∈ mbig) (hlk : Cond.fieldLink own ix ref (T 0).2.1 (T 0).2.2.1 ∈ mbig) (hrf : (T 0).1 = ref) (hd : decode cc pc = .ok (.getfield ix, 3))
    (k : Vj (p, l, e, d, s, m, args, below, meth, c) w sh nL rk σ (pc + 3) lv (.ref (w.2.1 (b + z.toNatClampNeg)) :: st) o) : Vj (p, l, e, d, s, m, args, below, meth, c) w sh nL rk σ pc lv (m_rf w.2.1 z :: st) (gd (inb z b) o) := by
  obtain ⟨⟨hx, hb, hml, hown, hts⟩, hlocks, hr, hK, hJ, hZ⟩ := hg
  intro v τ ho H locs ls hP hS hl
  obtain ⟨h1, ho⟩ := gd_some ho
  have h3 := inb_in h1
  have hq : z.toNatClampNeg < b := Nat.not_le.mp (fun z => h3 (Or.inr z))
  subst hrf
  rw [m_rf_in h3]
  exact va_get hx hb hts hin hown hK hP z.toNatClampNeg (m_at (hs _ hq)) hc 0 hj (hts _ hlk) (fun _ h9 => h9) (v := .ref (w.2.1 (b + z.toNatClampNeg))) (by simp [m_val]) hd (k v τ ho H locs ls hP hS hl)
end MCALL
end
